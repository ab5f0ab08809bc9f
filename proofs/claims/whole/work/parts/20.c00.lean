set_option maxHeartbeats 4000000 in
set_option maxRecDepth 100000 in
theorem w_Reader_append_rd_L3 {p : Program} {l : Launch} {e : Env} {s : State} {m : MethodId} {args : Array Value} {below : List Frame} {meth : Method} {c : Code} {A : Nat → Prop} {E : xE} {Q : State → Prop} {ad : Nat → Nat} {x_imageCount x_lastTrouble x_lastFault x_lastPlace pa_faultNumber pa_faultPlace rd_end rd_next rd_sort rd_start rd_value to_seats to_slack to_sawInches to_quarrelChance to_people to_forkBits to_unsure to_tried to_triedFedBits tf_pairs tf_gone bd_seats bd_slack bd_sawInches bd_quarrelChance bd_people bd_forkBits bd_unsure bd_tried bd_triedFedBits bf_pairs bf_gone nw_pairs nw_gone sc_forkBits sc_canBits sc_bestBits sc_bestSlops sl_count se_bestWorth se_fresh ch_items ch_leastCost ch_leastBits cl_count fi_count ps_next ps_count i0_pairs i0_gone i1_pairs i1_gone i2_pairs i2_gone : Int32} {pa_names : Nat → Int64} {rd_word : Int64} {to_unsurePair to_unsureYears to_triedPair tf_seatOf tf_one tf_other tf_kind tf_years tf_sawn bd_unsurePair bd_unsureYears bd_triedPair bf_seatOf bf_one bf_other bf_kind bf_years bf_sawn nw_seatOf nw_one nw_other nw_kind nw_years nw_sawn sc_seatOf sc_handle sc_both sc_slopOf sl_bits se_bestRow se_row se_pairAt se_hope se_hopeAt se_slopAt se_farBits se_gain se_worth ch_both ch_cost ch_bit cl_bits fi_sets ps_act ps_whom ps_amount i0_seatOf i0_one i0_other i0_kind i0_years i0_sawn i1_seatOf i1_one i1_other i1_kind i1_years i1_sawn i2_seatOf i2_one i2_other i2_kind i2_years i2_sawn : Nat → Int32} {l1 : Int32} {o : (Nat → Int32) × Int32} (C : xC p s m args meth c cX7_append 3 RX7 E A none) (J : ∀ (H : Heap) (locs : List Loc) (ls : Array Slot), xG s E A (wX E ad x_imageCount x_lastTrouble x_lastFault x_lastPlace pa_names pa_faultNumber pa_faultPlace o.1 o.2 rd_end rd_next rd_sort rd_start rd_value rd_word to_unsurePair to_unsureYears to_triedPair to_seats to_slack to_sawInches to_quarrelChance to_people to_forkBits to_unsure to_tried to_triedFedBits tf_seatOf tf_one tf_other tf_kind tf_years tf_sawn tf_pairs tf_gone bd_unsurePair bd_unsureYears bd_triedPair bd_seats bd_slack bd_sawInches bd_quarrelChance bd_people bd_forkBits bd_unsure bd_tried bd_triedFedBits bf_seatOf bf_one bf_other bf_kind bf_years bf_sawn bf_pairs bf_gone nw_seatOf nw_one nw_other nw_kind nw_years nw_sawn nw_pairs nw_gone sc_seatOf sc_handle sc_both sc_slopOf sc_forkBits sc_canBits sc_bestBits sc_bestSlops sl_bits sl_count se_bestRow se_row se_pairAt se_hope se_hopeAt se_slopAt se_farBits se_gain se_worth se_bestWorth se_fresh ch_both ch_cost ch_bit ch_items ch_leastCost ch_leastBits cl_bits cl_count fi_sets fi_count ps_act ps_whom ps_amount ps_next ps_count i0_seatOf i0_one i0_other i0_kind i0_years i0_sawn i0_pairs i0_gone i1_seatOf i1_one i1_other i1_kind i1_years i1_sawn i1_pairs i1_gone i2_seatOf i2_one i2_other i2_kind i2_years i2_sawn i2_pairs i2_gone) H locs → lv_has ls 3 [] → W p l e (xR 0 0) s m args below meth c H locs 0 0 Q (F0 m 46 ls [])) :
    ∀ (n : Nat) (l2 : Int32) (rd_tape : Nat → Int32) (rd_length : Int32) (H : Heap) (locs : List Loc) (ls : Array Slot), xG s E A (wX E ad x_imageCount x_lastTrouble x_lastFault x_lastPlace pa_names pa_faultNumber pa_faultPlace rd_tape rd_length rd_end rd_next rd_sort rd_start rd_value rd_word to_unsurePair to_unsureYears to_triedPair to_seats to_slack to_sawInches to_quarrelChance to_people to_forkBits to_unsure to_tried to_triedFedBits tf_seatOf tf_one tf_other tf_kind tf_years tf_sawn tf_pairs tf_gone bd_unsurePair bd_unsureYears bd_triedPair bd_seats bd_slack bd_sawInches bd_quarrelChance bd_people bd_forkBits bd_unsure bd_tried bd_triedFedBits bf_seatOf bf_one bf_other bf_kind bf_years bf_sawn bf_pairs bf_gone nw_seatOf nw_one nw_other nw_kind nw_years nw_sawn nw_pairs nw_gone sc_seatOf sc_handle sc_both sc_slopOf sc_forkBits sc_canBits sc_bestBits sc_bestSlops sl_bits sl_count se_bestRow se_row se_pairAt se_hope se_hopeAt se_slopAt se_farBits se_gain se_worth se_bestWorth se_fresh ch_both ch_cost ch_bit ch_items ch_leastCost ch_leastBits cl_bits cl_count fi_sets fi_count ps_act ps_whom ps_amount ps_next ps_count i0_seatOf i0_one i0_other i0_kind i0_years i0_sawn i0_pairs i0_gone i1_seatOf i1_one i1_other i1_kind i1_years i1_sawn i1_pairs i1_gone i2_seatOf i2_one i2_other i2_kind i2_years i2_sawn i2_pairs i2_gone) H locs → lv_has ls 3 [(0, .ref (ad 4)), (1, .int l1), (2, .int l2)] → f_Reader_append_L3 l1 n l2 rd_tape rd_length = some o → W p l e (xR 0 0) s m args below meth c H locs 0 0 Q (F0 m 3 ls []) := by
  have hx := C.1
  have hb := C.2.1
  intro n
  induction n with
  | zero =>
    intro l2 rd_tape rd_length H locs ls G hl hf
    exact nomatch (show (none : Option ((Nat → Int32) × Int32)) = some o from hf)
  | succ n ih =>
    intro l2 rd_tape rd_length H locs ls G hl hf
    rw [f_Reader_append_L3] at hf
    refine lv_iload_n hx hb dX7_append_3 rfl (lv_at hl 2 rfl) ?_
    refine lv_if_lt (tgt := 46) hx hb dX7_append_4 (by decide) (fun h => ?_) (fun h => ?_)
    · have hf := it_t h hf
      obtain rfl := Option.some.inj hf
      exact J _ _ _ G (lv_sub hl [] rfl)
    · have hf := it_f h hf
      refine lv_aload_n hx hb dX7_append_7 rfl (lv_at hl 0 rfl) ?_
      refine x_get C G fX7_15.g (wX_at4) rfl dX7_append_8 ?_
      refine lv_sipush (v := 800) hx hb dX7_append_11 (by decide) ?_
      refine lv_icmp_ge (tgt := 40) hx hb dX7_append_14 (by decide) (fun h => ?_) (fun h => ?_)
      · have hf := it_t h hf
        obtain ⟨x1, ex1⟩ : ∃ z : Int32, z = l2 + (-8 : Int32) := ⟨_, rfl⟩
        have hf := lt_go ex1 hf
        refine lv_iinc (v := x1) (lv' := [(2, .int x1), (0, .ref (ad 4)), (1, .int l1)]) hx hb dX7_append_40 hl (k := 2) rfl (by rw [ex1]; rfl) (by decide) rfl (fun ls hl => ?_)
        refine lv_goto (tgt := 3) hx hb dX7_append_43 (by decide) ?_
        exact ih x1 rd_tape rd_length _ _ _ G (lv_sub hl [1, 2, 0] rfl) hf
      · have hf := it_f h hf
        refine lv_aload_n hx hb dX7_append_17 rfl (lv_at hl 0 rfl) ?_
        refine x_get C G fX7_9 (wX_at4) rfl dX7_append_18 ?_
        refine lv_aload_n hx hb dX7_append_21 rfl (lv_at hl 0 rfl) ?_
        refine x_get C G fX7_15.g (wX_at4) rfl dX7_append_22 ?_
        refine lv_iload_n hx hb dX7_append_25 rfl (lv_at hl 1 rfl) ?_
        refine lv_iload_n hx hb dX7_append_26 rfl (lv_at hl 2 rfl) ?_
        refine lv_ishr hx hb dX7_append_27 ?_
        refine lv_i2b hx hb dX7_append_28 rfl ?_
        have hi := ck_in hf
        have hf := ck_go hf
        refine x_bast (ws' := (wX E ad x_imageCount x_lastTrouble x_lastFault x_lastPlace pa_names pa_faultNumber pa_faultPlace (upd rd_tape rd_length.toNatClampNeg (vp_nar .byte ((l1 >>> (l2 &&& 31)).toInt8.toInt32))) rd_length rd_end rd_next rd_sort rd_start rd_value rd_word to_unsurePair to_unsureYears to_triedPair to_seats to_slack to_sawInches to_quarrelChance to_people to_forkBits to_unsure to_tried to_triedFedBits tf_seatOf tf_one tf_other tf_kind tf_years tf_sawn tf_pairs tf_gone bd_unsurePair bd_unsureYears bd_triedPair bd_seats bd_slack bd_sawInches bd_quarrelChance bd_people bd_forkBits bd_unsure bd_tried bd_triedFedBits bf_seatOf bf_one bf_other bf_kind bf_years bf_sawn bf_pairs bf_gone nw_seatOf nw_one nw_other nw_kind nw_years nw_sawn nw_pairs nw_gone sc_seatOf sc_handle sc_both sc_slopOf sc_forkBits sc_canBits sc_bestBits sc_bestSlops sl_bits sl_count se_bestRow se_row se_pairAt se_hope se_hopeAt se_slopAt se_farBits se_gain se_worth se_bestWorth se_fresh ch_both ch_cost ch_bit ch_items ch_leastCost ch_leastBits cl_bits cl_count fi_sets fi_count ps_act ps_whom ps_amount ps_next ps_count i0_seatOf i0_one i0_other i0_kind i0_years i0_sawn i0_pairs i0_gone i1_seatOf i1_one i1_other i1_kind i1_years i1_sawn i1_pairs i1_gone i2_seatOf i2_one i2_other i2_kind i2_years i2_sawn i2_pairs i2_gone)) C G (wX_at5) hi wX_set_rd_tape dX7_append_29 (fun H locs G => ?_)
        refine lv_aload_n hx hb dX7_append_30 rfl (lv_at hl 0 rfl) ?_
        refine lv_dup hx hb dX7_append_31 rfl ?_
        refine x_get C G fX7_15.g (wX_at4) rfl dX7_append_32 ?_
        refine lv_iconst (v := 1) hx hb dX7_append_35 (by decide) ?_
        refine lv_iadd hx hb dX7_append_36 ?_
        refine lv_topi (fun x2 ex2 => ?_)
        have hf := lt_go ex2 hf
        refine x_put (ws' := (wX E ad x_imageCount x_lastTrouble x_lastFault x_lastPlace pa_names pa_faultNumber pa_faultPlace (upd rd_tape rd_length.toNatClampNeg (vp_nar .byte ((l1 >>> (l2 &&& 31)).toInt8.toInt32))) x2 rd_end rd_next rd_sort rd_start rd_value rd_word to_unsurePair to_unsureYears to_triedPair to_seats to_slack to_sawInches to_quarrelChance to_people to_forkBits to_unsure to_tried to_triedFedBits tf_seatOf tf_one tf_other tf_kind tf_years tf_sawn tf_pairs tf_gone bd_unsurePair bd_unsureYears bd_triedPair bd_seats bd_slack bd_sawInches bd_quarrelChance bd_people bd_forkBits bd_unsure bd_tried bd_triedFedBits bf_seatOf bf_one bf_other bf_kind bf_years bf_sawn bf_pairs bf_gone nw_seatOf nw_one nw_other nw_kind nw_years nw_sawn nw_pairs nw_gone sc_seatOf sc_handle sc_both sc_slopOf sc_forkBits sc_canBits sc_bestBits sc_bestSlops sl_bits sl_count se_bestRow se_row se_pairAt se_hope se_hopeAt se_slopAt se_farBits se_gain se_worth se_bestWorth se_fresh ch_both ch_cost ch_bit ch_items ch_leastCost ch_leastBits cl_bits cl_count fi_sets fi_count ps_act ps_whom ps_amount ps_next ps_count i0_seatOf i0_one i0_other i0_kind i0_years i0_sawn i0_pairs i0_gone i1_seatOf i1_one i1_other i1_kind i1_years i1_sawn i1_pairs i1_gone i2_seatOf i2_one i2_other i2_kind i2_years i2_sawn i2_pairs i2_gone)) C G fX7_15 (wX_at4) rfl rfl (Nat.le_of_ble_eq_true rfl) wX_set_rd_length dX7_append_37 (fun H locs G => ?_)
        obtain ⟨x3, ex3⟩ : ∃ z : Int32, z = l2 + (-8 : Int32) := ⟨_, rfl⟩
        have hf := lt_go ex3 hf
        refine lv_iinc (v := x3) (lv' := [(2, .int x3), (0, .ref (ad 4)), (1, .int l1)]) hx hb dX7_append_40 hl (k := 2) rfl (by rw [ex3]; rfl) (by decide) rfl (fun ls hl => ?_)
        refine lv_goto (tgt := 3) hx hb dX7_append_43 (by decide) ?_
        exact ih x3 (upd rd_tape rd_length.toNatClampNeg (vp_nar .byte ((l1 >>> (l2 &&& 31)).toInt8.toInt32))) x2 _ _ _ G (lv_sub hl [1, 2, 0] rfl) hf
set_option maxHeartbeats 4000000 in
set_option maxRecDepth 100000 in
theorem c_Reader_append_rd {l : Launch} {E : xE} {ad : Nat → Nat} {x_imageCount x_lastTrouble x_lastFault x_lastPlace pa_faultNumber pa_faultPlace rd_length rd_end rd_next rd_sort rd_start rd_value to_seats to_slack to_sawInches to_quarrelChance to_people to_forkBits to_unsure to_tried to_triedFedBits tf_pairs tf_gone bd_seats bd_slack bd_sawInches bd_quarrelChance bd_people bd_forkBits bd_unsure bd_tried bd_triedFedBits bf_pairs bf_gone nw_pairs nw_gone sc_forkBits sc_canBits sc_bestBits sc_bestSlops sl_count se_bestWorth se_fresh ch_items ch_leastCost ch_leastBits cl_count fi_count ps_next ps_count i0_pairs i0_gone i1_pairs i1_gone i2_pairs i2_gone : Int32} {pa_names : Nat → Int64} {rd_tape to_unsurePair to_unsureYears to_triedPair tf_seatOf tf_one tf_other tf_kind tf_years tf_sawn bd_unsurePair bd_unsureYears bd_triedPair bf_seatOf bf_one bf_other bf_kind bf_years bf_sawn nw_seatOf nw_one nw_other nw_kind nw_years nw_sawn sc_seatOf sc_handle sc_both sc_slopOf sl_bits se_bestRow se_row se_pairAt se_hope se_hopeAt se_slopAt se_farBits se_gain se_worth ch_both ch_cost ch_bit cl_bits fi_sets ps_act ps_whom ps_amount i0_seatOf i0_one i0_other i0_kind i0_years i0_sawn i1_seatOf i1_one i1_other i1_kind i1_years i1_sawn i2_seatOf i2_one i2_other i2_kind i2_years i2_sawn : Nat → Int32} {rd_word : Int64} {l1 : Int32} {R0 : (Nat → Int32) × Int32} (hf : f_Reader_append l1 rd_tape rd_length = some R0) : xV l E yX7_append cX7_append 3 none 0 0 [.ref (ad 4), .int l1] (wX E ad x_imageCount x_lastTrouble x_lastFault x_lastPlace pa_names pa_faultNumber pa_faultPlace rd_tape rd_length rd_end rd_next rd_sort rd_start rd_value rd_word to_unsurePair to_unsureYears to_triedPair to_seats to_slack to_sawInches to_quarrelChance to_people to_forkBits to_unsure to_tried to_triedFedBits tf_seatOf tf_one tf_other tf_kind tf_years tf_sawn tf_pairs tf_gone bd_unsurePair bd_unsureYears bd_triedPair bd_seats bd_slack bd_sawInches bd_quarrelChance bd_people bd_forkBits bd_unsure bd_tried bd_triedFedBits bf_seatOf bf_one bf_other bf_kind bf_years bf_sawn bf_pairs bf_gone nw_seatOf nw_one nw_other nw_kind nw_years nw_sawn nw_pairs nw_gone sc_seatOf sc_handle sc_both sc_slopOf sc_forkBits sc_canBits sc_bestBits sc_bestSlops sl_bits sl_count se_bestRow se_row se_pairAt se_hope se_hopeAt se_slopAt se_farBits se_gain se_worth se_bestWorth se_fresh ch_both ch_cost ch_bit ch_items ch_leastCost ch_leastBits cl_bits cl_count fi_sets fi_count ps_act ps_whom ps_amount ps_next ps_count i0_seatOf i0_one i0_other i0_kind i0_years i0_sawn i0_pairs i0_gone i1_seatOf i1_one i1_other i1_kind i1_years i1_sawn i1_pairs i1_gone i2_seatOf i2_one i2_other i2_kind i2_years i2_sawn i2_pairs i2_gone) (wX E ad x_imageCount x_lastTrouble x_lastFault x_lastPlace pa_names pa_faultNumber pa_faultPlace R0.1 R0.2 rd_end rd_next rd_sort rd_start rd_value rd_word to_unsurePair to_unsureYears to_triedPair to_seats to_slack to_sawInches to_quarrelChance to_people to_forkBits to_unsure to_tried to_triedFedBits tf_seatOf tf_one tf_other tf_kind tf_years tf_sawn tf_pairs tf_gone bd_unsurePair bd_unsureYears bd_triedPair bd_seats bd_slack bd_sawInches bd_quarrelChance bd_people bd_forkBits bd_unsure bd_tried bd_triedFedBits bf_seatOf bf_one bf_other bf_kind bf_years bf_sawn bf_pairs bf_gone nw_seatOf nw_one nw_other nw_kind nw_years nw_sawn nw_pairs nw_gone sc_seatOf sc_handle sc_both sc_slopOf sc_forkBits sc_canBits sc_bestBits sc_bestSlops sl_bits sl_count se_bestRow se_row se_pairAt se_hope se_hopeAt se_slopAt se_farBits se_gain se_worth se_bestWorth se_fresh ch_both ch_cost ch_bit ch_items ch_leastCost ch_leastBits cl_bits cl_count fi_sets fi_count ps_act ps_whom ps_amount ps_next ps_count i0_seatOf i0_one i0_other i0_kind i0_years i0_sawn i0_pairs i0_gone i1_seatOf i1_one i1_other i1_kind i1_years i1_sawn i1_pairs i1_gone i2_seatOf i2_one i2_other i2_kind i2_years i2_sawn i2_pairs i2_gone) := by
  refine xV_of (by decide) (Nat.le_of_ble_eq_true rfl) (fun p e s m args below meth c A C ls hl G => ?_)
  have hx := C.1
  have hb := C.2.1
  have hl : lv_has ls 3 [(0, .ref (ad 4)), (1, .int l1)] := hl
  unfold f_Reader_append at hf
  refine lv_bipush (v := 24) hx hb dX7_append_0 (by decide) ?_
  refine lv_istore_n (lv' := [(2, .int (24 : Int32)), (0, .ref (ad 4)), (1, .int l1)]) hx hb dX7_append_2 rfl hl (by decide) rfl (fun ls hl => ?_)
  obtain ⟨x4, hr, hf⟩ := bd_go hf
  have Jx4 : ∀ (H : Heap) (locs : List Loc) (ls : Array Slot), xG s E A (wX E ad x_imageCount x_lastTrouble x_lastFault x_lastPlace pa_names pa_faultNumber pa_faultPlace x4.1 x4.2 rd_end rd_next rd_sort rd_start rd_value rd_word to_unsurePair to_unsureYears to_triedPair to_seats to_slack to_sawInches to_quarrelChance to_people to_forkBits to_unsure to_tried to_triedFedBits tf_seatOf tf_one tf_other tf_kind tf_years tf_sawn tf_pairs tf_gone bd_unsurePair bd_unsureYears bd_triedPair bd_seats bd_slack bd_sawInches bd_quarrelChance bd_people bd_forkBits bd_unsure bd_tried bd_triedFedBits bf_seatOf bf_one bf_other bf_kind bf_years bf_sawn bf_pairs bf_gone nw_seatOf nw_one nw_other nw_kind nw_years nw_sawn nw_pairs nw_gone sc_seatOf sc_handle sc_both sc_slopOf sc_forkBits sc_canBits sc_bestBits sc_bestSlops sl_bits sl_count se_bestRow se_row se_pairAt se_hope se_hopeAt se_slopAt se_farBits se_gain se_worth se_bestWorth se_fresh ch_both ch_cost ch_bit ch_items ch_leastCost ch_leastBits cl_bits cl_count fi_sets fi_count ps_act ps_whom ps_amount ps_next ps_count i0_seatOf i0_one i0_other i0_kind i0_years i0_sawn i0_pairs i0_gone i1_seatOf i1_one i1_other i1_kind i1_years i1_sawn i1_pairs i1_gone i2_seatOf i2_one i2_other i2_kind i2_years i2_sawn i2_pairs i2_gone) H locs → lv_has ls 3 [] → W p l e (xR 0 0) s m args below meth c H locs 0 0 (MQ below (xqV E A (wX E ad x_imageCount x_lastTrouble x_lastFault x_lastPlace pa_names pa_faultNumber pa_faultPlace R0.1 R0.2 rd_end rd_next rd_sort rd_start rd_value rd_word to_unsurePair to_unsureYears to_triedPair to_seats to_slack to_sawInches to_quarrelChance to_people to_forkBits to_unsure to_tried to_triedFedBits tf_seatOf tf_one tf_other tf_kind tf_years tf_sawn tf_pairs tf_gone bd_unsurePair bd_unsureYears bd_triedPair bd_seats bd_slack bd_sawInches bd_quarrelChance bd_people bd_forkBits bd_unsure bd_tried bd_triedFedBits bf_seatOf bf_one bf_other bf_kind bf_years bf_sawn bf_pairs bf_gone nw_seatOf nw_one nw_other nw_kind nw_years nw_sawn nw_pairs nw_gone sc_seatOf sc_handle sc_both sc_slopOf sc_forkBits sc_canBits sc_bestBits sc_bestSlops sl_bits sl_count se_bestRow se_row se_pairAt se_hope se_hopeAt se_slopAt se_farBits se_gain se_worth se_bestWorth se_fresh ch_both ch_cost ch_bit ch_items ch_leastCost ch_leastBits cl_bits cl_count fi_sets fi_count ps_act ps_whom ps_amount ps_next ps_count i0_seatOf i0_one i0_other i0_kind i0_years i0_sawn i0_pairs i0_gone i1_seatOf i1_one i1_other i1_kind i1_years i1_sawn i1_pairs i1_gone i2_seatOf i2_one i2_other i2_kind i2_years i2_sawn i2_pairs i2_gone)) args s 0 0 A) (F0 m 46 ls []) := by
    intro H locs ls G hl
    obtain rfl := Option.some.inj hf
    exact xV_ret C G dX7_append_46
  exact w_Reader_append_rd_L3 C Jx4 fu _ _ _ _ _ _ G (lv_sub hl [1, 2, 0] rfl) hr
set_option maxHeartbeats 4000000 in
set_option maxRecDepth 100000 in
theorem c_X_feed_x {l : Launch} {E : xE} {ad : Nat → Nat} {x_imageCount x_lastTrouble x_lastFault x_lastPlace pa_faultNumber pa_faultPlace rd_length rd_end rd_next rd_sort rd_start rd_value to_seats to_slack to_sawInches to_quarrelChance to_people to_forkBits to_unsure to_tried to_triedFedBits tf_pairs tf_gone bd_seats bd_slack bd_sawInches bd_quarrelChance bd_people bd_forkBits bd_unsure bd_tried bd_triedFedBits bf_pairs bf_gone nw_pairs nw_gone sc_forkBits sc_canBits sc_bestBits sc_bestSlops sl_count se_bestWorth se_fresh ch_items ch_leastCost ch_leastBits cl_count fi_count ps_next ps_count i0_pairs i0_gone i1_pairs i1_gone i2_pairs i2_gone : Int32} {pa_names : Nat → Int64} {rd_tape to_unsurePair to_unsureYears to_triedPair tf_seatOf tf_one tf_other tf_kind tf_years tf_sawn bd_unsurePair bd_unsureYears bd_triedPair bf_seatOf bf_one bf_other bf_kind bf_years bf_sawn nw_seatOf nw_one nw_other nw_kind nw_years nw_sawn sc_seatOf sc_handle sc_both sc_slopOf sl_bits se_bestRow se_row se_pairAt se_hope se_hopeAt se_slopAt se_farBits se_gain se_worth ch_both ch_cost ch_bit cl_bits fi_sets ps_act ps_whom ps_amount i0_seatOf i0_one i0_other i0_kind i0_years i0_sawn i1_seatOf i1_one i1_other i1_kind i1_years i1_sawn i2_seatOf i2_one i2_other i2_kind i2_years i2_sawn : Nat → Int32} {rd_word : Int64} {l1 : Int32} {l2 : Int32} {l3 : Int32} {l4 : Int32} {l5 : Int32} {R0 : Int32 × (Nat → Int32) × Int32} (hf : f_X_feed l1 l2 l3 l4 l5 rd_tape rd_length = some R0) : xI l E yX10_feed cX10_feed 7 (some .int) 1 22 [.ref (ad 0), .int l1, .int l2, .int l3, .int l4, .int l5] (wX E ad x_imageCount x_lastTrouble x_lastFault x_lastPlace pa_names pa_faultNumber pa_faultPlace rd_tape rd_length rd_end rd_next rd_sort rd_start rd_value rd_word to_unsurePair to_unsureYears to_triedPair to_seats to_slack to_sawInches to_quarrelChance to_people to_forkBits to_unsure to_tried to_triedFedBits tf_seatOf tf_one tf_other tf_kind tf_years tf_sawn tf_pairs tf_gone bd_unsurePair bd_unsureYears bd_triedPair bd_seats bd_slack bd_sawInches bd_quarrelChance bd_people bd_forkBits bd_unsure bd_tried bd_triedFedBits bf_seatOf bf_one bf_other bf_kind bf_years bf_sawn bf_pairs bf_gone nw_seatOf nw_one nw_other nw_kind nw_years nw_sawn nw_pairs nw_gone sc_seatOf sc_handle sc_both sc_slopOf sc_forkBits sc_canBits sc_bestBits sc_bestSlops sl_bits sl_count se_bestRow se_row se_pairAt se_hope se_hopeAt se_slopAt se_farBits se_gain se_worth se_bestWorth se_fresh ch_both ch_cost ch_bit ch_items ch_leastCost ch_leastBits cl_bits cl_count fi_sets fi_count ps_act ps_whom ps_amount ps_next ps_count i0_seatOf i0_one i0_other i0_kind i0_years i0_sawn i0_pairs i0_gone i1_seatOf i1_one i1_other i1_kind i1_years i1_sawn i1_pairs i1_gone i2_seatOf i2_one i2_other i2_kind i2_years i2_sawn i2_pairs i2_gone) (wX E ad x_imageCount x_lastTrouble x_lastFault x_lastPlace pa_names pa_faultNumber pa_faultPlace R0.2.1 R0.2.2 rd_end rd_next rd_sort rd_start rd_value rd_word to_unsurePair to_unsureYears to_triedPair to_seats to_slack to_sawInches to_quarrelChance to_people to_forkBits to_unsure to_tried to_triedFedBits tf_seatOf tf_one tf_other tf_kind tf_years tf_sawn tf_pairs tf_gone bd_unsurePair bd_unsureYears bd_triedPair bd_seats bd_slack bd_sawInches bd_quarrelChance bd_people bd_forkBits bd_unsure bd_tried bd_triedFedBits bf_seatOf bf_one bf_other bf_kind bf_years bf_sawn bf_pairs bf_gone nw_seatOf nw_one nw_other nw_kind nw_years nw_sawn nw_pairs nw_gone sc_seatOf sc_handle sc_both sc_slopOf sc_forkBits sc_canBits sc_bestBits sc_bestSlops sl_bits sl_count se_bestRow se_row se_pairAt se_hope se_hopeAt se_slopAt se_farBits se_gain se_worth se_bestWorth se_fresh ch_both ch_cost ch_bit ch_items ch_leastCost ch_leastBits cl_bits cl_count fi_sets fi_count ps_act ps_whom ps_amount ps_next ps_count i0_seatOf i0_one i0_other i0_kind i0_years i0_sawn i0_pairs i0_gone i1_seatOf i1_one i1_other i1_kind i1_years i1_sawn i1_pairs i1_gone i2_seatOf i2_one i2_other i2_kind i2_years i2_sawn i2_pairs i2_gone) R0.1 := by
  refine xI_of (by decide) (Nat.le_of_ble_eq_true rfl) (fun p e s m args below meth c A C ls hl G => ?_)
  have hx := C.1
  have hb := C.2.1
  have hl : lv_has ls 7 [(0, .ref (ad 0)), (1, .int l1), (2, .int l2), (3, .int l3), (4, .int l4), (5, .int l5)] := hl
  unfold f_X_feed at hf
  refine lv_aload_n hx hb dX10_feed_0 rfl (lv_at hl 0 rfl) ?_
  refine x_get C G fX10_18 (wX_at0) rfl dX10_feed_1 ?_
  refine x_get C G fX10_73 (wX_at2) rfl dX10_feed_4 ?_
  refine lv_astore (lv' := [(6, .ref (ad 4)), (0, .ref (ad 0)), (1, .int l1), (2, .int l2), (3, .int l3), (4, .int l4), (5, .int l5)]) hx hb dX10_feed_7 hl (by decide) rfl (fun ls hl => ?_)
  refine lv_aload hx hb dX10_feed_9 (lv_at hl 0 rfl) ?_
  refine x_get C G fX10_77.g (wX_at4) rfl dX10_feed_11 ?_
  refine lv_sipush (v := 780) hx hb dX10_feed_14 (by decide) ?_
  refine lv_icmp_le (tgt := 22) hx hb dX10_feed_17 (by decide) (fun h => ?_) (fun h => ?_)
  · have hf := it_t h hf
    refine lv_aload hx hb dX10_feed_22 (lv_at hl 0 rfl) ?_
    refine lv_iload_n hx hb dX10_feed_24 rfl (lv_at hl 2 rfl) ?_
    obtain ⟨x1, hc, hf⟩ := bd_go hf
    refine xV_V C G (c_Reader_append_rd hc) mX7_append kX10_83 (wX_at4) rfl ⟨Nat.le_of_ble_eq_true rfl, Nat.le_of_ble_eq_true rfl⟩ rfl hl.1 rfl (Nat.le_of_ble_eq_true rfl) ⟨Nat.le_refl _, Nat.le_refl _⟩ dX10_feed_25 (fun H locs G => ?_)
    refine lv_aload hx hb dX10_feed_28 (lv_at hl 0 rfl) ?_
    refine lv_iload_n hx hb dX10_feed_30 rfl (lv_at hl 3 rfl) ?_
    obtain ⟨x2, hc, hf⟩ := bd_go hf
    refine xV_V C G (c_Reader_append_rd hc) mX7_append kX10_83 (wX_at4) rfl ⟨Nat.le_of_ble_eq_true rfl, Nat.le_of_ble_eq_true rfl⟩ rfl hl.1 rfl (Nat.le_of_ble_eq_true rfl) ⟨Nat.le_refl _, Nat.le_refl _⟩ dX10_feed_31 (fun H locs G => ?_)
    refine lv_aload hx hb dX10_feed_34 (lv_at hl 0 rfl) ?_
    refine lv_iload_n hx hb dX10_feed_36 rfl (lv_at hl 4 rfl) ?_
    obtain ⟨x3, hc, hf⟩ := bd_go hf
    refine xV_V C G (c_Reader_append_rd hc) mX7_append kX10_83 (wX_at4) rfl ⟨Nat.le_of_ble_eq_true rfl, Nat.le_of_ble_eq_true rfl⟩ rfl hl.1 rfl (Nat.le_of_ble_eq_true rfl) ⟨Nat.le_refl _, Nat.le_refl _⟩ dX10_feed_37 (fun H locs G => ?_)
    refine lv_aload hx hb dX10_feed_40 (lv_at hl 0 rfl) ?_
    refine lv_iload hx hb dX10_feed_42 (lv_at hl 5 rfl) ?_
    obtain ⟨x4, hc, hf⟩ := bd_go hf
    refine xV_V C G (c_Reader_append_rd hc) mX7_append kX10_83 (wX_at4) rfl ⟨Nat.le_of_ble_eq_true rfl, Nat.le_of_ble_eq_true rfl⟩ rfl hl.1 rfl (Nat.le_of_ble_eq_true rfl) ⟨Nat.le_refl _, Nat.le_refl _⟩ dX10_feed_44 (fun H locs G => ?_)
    refine lv_aload hx hb dX10_feed_47 (lv_at hl 0 rfl) ?_
    refine lv_iload hx hb dX10_feed_49 (lv_at hl 6 rfl) ?_
    obtain ⟨x5, hc, hf⟩ := bd_go hf
    refine xV_V C G (c_Reader_append_rd hc) mX7_append kX10_83 (wX_at4) rfl ⟨Nat.le_of_ble_eq_true rfl, Nat.le_of_ble_eq_true rfl⟩ rfl hl.1 rfl (Nat.le_of_ble_eq_true rfl) ⟨Nat.le_refl _, Nat.le_refl _⟩ dX10_feed_51 (fun H locs G => ?_)
    refine lv_aload hx hb dX10_feed_54 (lv_at hl 0 rfl) ?_
    refine x_get C G fX10_77.g (wX_at4) rfl dX10_feed_56 ?_
    obtain rfl := Option.some.inj hf
    exact xI_ret C G rfl dX10_feed_59
  · have hf := it_f h hf
    refine lv_iconst (v := -1) hx hb dX10_feed_20 (by decide) ?_
    obtain rfl := Option.some.inj hf
    exact xI_ret C G rfl dX10_feed_21
set_option maxHeartbeats 4000000 in
set_option maxRecDepth 100000 in
theorem c_X_refused_x {l : Launch} {E : xE} {ad : Nat → Nat} {x_imageCount x_lastTrouble x_lastFault x_lastPlace pa_faultNumber pa_faultPlace rd_length rd_end rd_next rd_sort rd_start rd_value to_seats to_slack to_sawInches to_quarrelChance to_people to_forkBits to_unsure to_tried to_triedFedBits tf_pairs tf_gone bd_seats bd_slack bd_sawInches bd_quarrelChance bd_people bd_forkBits bd_unsure bd_tried bd_triedFedBits bf_pairs bf_gone nw_pairs nw_gone sc_forkBits sc_canBits sc_bestBits sc_bestSlops sl_count se_bestWorth se_fresh ch_items ch_leastCost ch_leastBits cl_count fi_count ps_next ps_count i0_pairs i0_gone i1_pairs i1_gone i2_pairs i2_gone : Int32} {pa_names : Nat → Int64} {rd_tape to_unsurePair to_unsureYears to_triedPair tf_seatOf tf_one tf_other tf_kind tf_years tf_sawn bd_unsurePair bd_unsureYears bd_triedPair bf_seatOf bf_one bf_other bf_kind bf_years bf_sawn nw_seatOf nw_one nw_other nw_kind nw_years nw_sawn sc_seatOf sc_handle sc_both sc_slopOf sl_bits se_bestRow se_row se_pairAt se_hope se_hopeAt se_slopAt se_farBits se_gain se_worth ch_both ch_cost ch_bit cl_bits fi_sets ps_act ps_whom ps_amount i0_seatOf i0_one i0_other i0_kind i0_years i0_sawn i1_seatOf i1_one i1_other i1_kind i1_years i1_sawn i2_seatOf i2_one i2_other i2_kind i2_years i2_sawn : Nat → Int32} {rd_word : Int64} {l1 : Int32} {R0 : Int32 × Int32} (hf : f_X_refused l1 = some R0) : xI l E yX10_refused cX10_refused 2 (some .int) 0 0 [.ref (ad 0), .int l1] (wX E ad x_imageCount x_lastTrouble x_lastFault x_lastPlace pa_names pa_faultNumber pa_faultPlace rd_tape rd_length rd_end rd_next rd_sort rd_start rd_value rd_word to_unsurePair to_unsureYears to_triedPair to_seats to_slack to_sawInches to_quarrelChance to_people to_forkBits to_unsure to_tried to_triedFedBits tf_seatOf tf_one tf_other tf_kind tf_years tf_sawn tf_pairs tf_gone bd_unsurePair bd_unsureYears bd_triedPair bd_seats bd_slack bd_sawInches bd_quarrelChance bd_people bd_forkBits bd_unsure bd_tried bd_triedFedBits bf_seatOf bf_one bf_other bf_kind bf_years bf_sawn bf_pairs bf_gone nw_seatOf nw_one nw_other nw_kind nw_years nw_sawn nw_pairs nw_gone sc_seatOf sc_handle sc_both sc_slopOf sc_forkBits sc_canBits sc_bestBits sc_bestSlops sl_bits sl_count se_bestRow se_row se_pairAt se_hope se_hopeAt se_slopAt se_farBits se_gain se_worth se_bestWorth se_fresh ch_both ch_cost ch_bit ch_items ch_leastCost ch_leastBits cl_bits cl_count fi_sets fi_count ps_act ps_whom ps_amount ps_next ps_count i0_seatOf i0_one i0_other i0_kind i0_years i0_sawn i0_pairs i0_gone i1_seatOf i1_one i1_other i1_kind i1_years i1_sawn i1_pairs i1_gone i2_seatOf i2_one i2_other i2_kind i2_years i2_sawn i2_pairs i2_gone) (wX E ad x_imageCount R0.2 x_lastFault x_lastPlace pa_names pa_faultNumber pa_faultPlace rd_tape rd_length rd_end rd_next rd_sort rd_start rd_value rd_word to_unsurePair to_unsureYears to_triedPair to_seats to_slack to_sawInches to_quarrelChance to_people to_forkBits to_unsure to_tried to_triedFedBits tf_seatOf tf_one tf_other tf_kind tf_years tf_sawn tf_pairs tf_gone bd_unsurePair bd_unsureYears bd_triedPair bd_seats bd_slack bd_sawInches bd_quarrelChance bd_people bd_forkBits bd_unsure bd_tried bd_triedFedBits bf_seatOf bf_one bf_other bf_kind bf_years bf_sawn bf_pairs bf_gone nw_seatOf nw_one nw_other nw_kind nw_years nw_sawn nw_pairs nw_gone sc_seatOf sc_handle sc_both sc_slopOf sc_forkBits sc_canBits sc_bestBits sc_bestSlops sl_bits sl_count se_bestRow se_row se_pairAt se_hope se_hopeAt se_slopAt se_farBits se_gain se_worth se_bestWorth se_fresh ch_both ch_cost ch_bit ch_items ch_leastCost ch_leastBits cl_bits cl_count fi_sets fi_count ps_act ps_whom ps_amount ps_next ps_count i0_seatOf i0_one i0_other i0_kind i0_years i0_sawn i0_pairs i0_gone i1_seatOf i1_one i1_other i1_kind i1_years i1_sawn i1_pairs i1_gone i2_seatOf i2_one i2_other i2_kind i2_years i2_sawn i2_pairs i2_gone) R0.1 := by
  refine xI_of (by decide) (Nat.le_of_ble_eq_true rfl) (fun p e s m args below meth c A C ls hl G => ?_)
  have hx := C.1
  have hb := C.2.1
  have hl : lv_has ls 2 [(0, .ref (ad 0)), (1, .int l1)] := hl
  unfold f_X_refused at hf
  refine lv_aload_n hx hb dX10_refused_0 rfl (lv_at hl 0 rfl) ?_
  refine lv_iload_n hx hb dX10_refused_1 rfl (lv_at hl 1 rfl) ?_
  refine x_put (ws' := (wX E ad x_imageCount l1 x_lastFault x_lastPlace pa_names pa_faultNumber pa_faultPlace rd_tape rd_length rd_end rd_next rd_sort rd_start rd_value rd_word to_unsurePair to_unsureYears to_triedPair to_seats to_slack to_sawInches to_quarrelChance to_people to_forkBits to_unsure to_tried to_triedFedBits tf_seatOf tf_one tf_other tf_kind tf_years tf_sawn tf_pairs tf_gone bd_unsurePair bd_unsureYears bd_triedPair bd_seats bd_slack bd_sawInches bd_quarrelChance bd_people bd_forkBits bd_unsure bd_tried bd_triedFedBits bf_seatOf bf_one bf_other bf_kind bf_years bf_sawn bf_pairs bf_gone nw_seatOf nw_one nw_other nw_kind nw_years nw_sawn nw_pairs nw_gone sc_seatOf sc_handle sc_both sc_slopOf sc_forkBits sc_canBits sc_bestBits sc_bestSlops sl_bits sl_count se_bestRow se_row se_pairAt se_hope se_hopeAt se_slopAt se_farBits se_gain se_worth se_bestWorth se_fresh ch_both ch_cost ch_bit ch_items ch_leastCost ch_leastBits cl_bits cl_count fi_sets fi_count ps_act ps_whom ps_amount ps_next ps_count i0_seatOf i0_one i0_other i0_kind i0_years i0_sawn i0_pairs i0_gone i1_seatOf i1_one i1_other i1_kind i1_years i1_sawn i1_pairs i1_gone i2_seatOf i2_one i2_other i2_kind i2_years i2_sawn i2_pairs i2_gone)) C G fX10_107 (wX_at0) rfl rfl (Nat.le_of_ble_eq_true rfl) wX_set_x_lastTrouble dX10_refused_2 (fun H locs G => ?_)
  refine lv_iconst (v := -1) hx hb dX10_refused_5 (by decide) ?_
  obtain rfl := Option.some.inj hf
  exact xI_ret C G rfl dX10_refused_6
set_option maxHeartbeats 4000000 in
set_option maxRecDepth 100000 in
theorem c_Board_clear_to {l : Launch} {E : xE} {ad : Nat → Nat} {x_imageCount x_lastTrouble x_lastFault x_lastPlace pa_faultNumber pa_faultPlace rd_length rd_end rd_next rd_sort rd_start rd_value to_seats to_slack to_sawInches to_quarrelChance to_people to_forkBits to_unsure to_tried to_triedFedBits tf_pairs tf_gone bd_seats bd_slack bd_sawInches bd_quarrelChance bd_people bd_forkBits bd_unsure bd_tried bd_triedFedBits bf_pairs bf_gone nw_pairs nw_gone sc_forkBits sc_canBits sc_bestBits sc_bestSlops sl_count se_bestWorth se_fresh ch_items ch_leastCost ch_leastBits cl_count fi_count ps_next ps_count i0_pairs i0_gone i1_pairs i1_gone i2_pairs i2_gone : Int32} {pa_names : Nat → Int64} {rd_tape to_unsurePair to_unsureYears to_triedPair tf_seatOf tf_one tf_other tf_kind tf_years tf_sawn bd_unsurePair bd_unsureYears bd_triedPair bf_seatOf bf_one bf_other bf_kind bf_years bf_sawn nw_seatOf nw_one nw_other nw_kind nw_years nw_sawn sc_seatOf sc_handle sc_both sc_slopOf sl_bits se_bestRow se_row se_pairAt se_hope se_hopeAt se_slopAt se_farBits se_gain se_worth ch_both ch_cost ch_bit cl_bits fi_sets ps_act ps_whom ps_amount i0_seatOf i0_one i0_other i0_kind i0_years i0_sawn i1_seatOf i1_one i1_other i1_kind i1_years i1_sawn i2_seatOf i2_one i2_other i2_kind i2_years i2_sawn : Nat → Int32} {rd_word : Int64} {R0 : Int32 × Int32 × Int32 × Int32 × Int32 × Int32 × Int32 × Int32} (hf : f_Board_clear = some R0) : xV l E yX0_clear cX0_clear 1 none 0 0 [.ref (ad 6)] (wX E ad x_imageCount x_lastTrouble x_lastFault x_lastPlace pa_names pa_faultNumber pa_faultPlace rd_tape rd_length rd_end rd_next rd_sort rd_start rd_value rd_word to_unsurePair to_unsureYears to_triedPair to_seats to_slack to_sawInches to_quarrelChance to_people to_forkBits to_unsure to_tried to_triedFedBits tf_seatOf tf_one tf_other tf_kind tf_years tf_sawn tf_pairs tf_gone bd_unsurePair bd_unsureYears bd_triedPair bd_seats bd_slack bd_sawInches bd_quarrelChance bd_people bd_forkBits bd_unsure bd_tried bd_triedFedBits bf_seatOf bf_one bf_other bf_kind bf_years bf_sawn bf_pairs bf_gone nw_seatOf nw_one nw_other nw_kind nw_years nw_sawn nw_pairs nw_gone sc_seatOf sc_handle sc_both sc_slopOf sc_forkBits sc_canBits sc_bestBits sc_bestSlops sl_bits sl_count se_bestRow se_row se_pairAt se_hope se_hopeAt se_slopAt se_farBits se_gain se_worth se_bestWorth se_fresh ch_both ch_cost ch_bit ch_items ch_leastCost ch_leastBits cl_bits cl_count fi_sets fi_count ps_act ps_whom ps_amount ps_next ps_count i0_seatOf i0_one i0_other i0_kind i0_years i0_sawn i0_pairs i0_gone i1_seatOf i1_one i1_other i1_kind i1_years i1_sawn i1_pairs i1_gone i2_seatOf i2_one i2_other i2_kind i2_years i2_sawn i2_pairs i2_gone) (wX E ad x_imageCount x_lastTrouble x_lastFault x_lastPlace pa_names pa_faultNumber pa_faultPlace rd_tape rd_length rd_end rd_next rd_sort rd_start rd_value rd_word to_unsurePair to_unsureYears to_triedPair R0.1 to_slack to_sawInches to_quarrelChance R0.2.1 R0.2.2.1 R0.2.2.2.1 R0.2.2.2.2.1 R0.2.2.2.2.2.1 tf_seatOf tf_one tf_other tf_kind tf_years tf_sawn R0.2.2.2.2.2.2.1 R0.2.2.2.2.2.2.2 bd_unsurePair bd_unsureYears bd_triedPair bd_seats bd_slack bd_sawInches bd_quarrelChance bd_people bd_forkBits bd_unsure bd_tried bd_triedFedBits bf_seatOf bf_one bf_other bf_kind bf_years bf_sawn bf_pairs bf_gone nw_seatOf nw_one nw_other nw_kind nw_years nw_sawn nw_pairs nw_gone sc_seatOf sc_handle sc_both sc_slopOf sc_forkBits sc_canBits sc_bestBits sc_bestSlops sl_bits sl_count se_bestRow se_row se_pairAt se_hope se_hopeAt se_slopAt se_farBits se_gain se_worth se_bestWorth se_fresh ch_both ch_cost ch_bit ch_items ch_leastCost ch_leastBits cl_bits cl_count fi_sets fi_count ps_act ps_whom ps_amount ps_next ps_count i0_seatOf i0_one i0_other i0_kind i0_years i0_sawn i0_pairs i0_gone i1_seatOf i1_one i1_other i1_kind i1_years i1_sawn i1_pairs i1_gone i2_seatOf i2_one i2_other i2_kind i2_years i2_sawn i2_pairs i2_gone) := by
  refine xV_of (by decide) (Nat.le_of_ble_eq_true rfl) (fun p e s m args below meth c A C ls hl G => ?_)
  have hx := C.1
  have hb := C.2.1
  have hl : lv_has ls 1 [(0, .ref (ad 6))] := hl
  unfold f_Board_clear at hf
  refine lv_aload_n hx hb dX0_clear_0 rfl (lv_at hl 0 rfl) ?_
  refine x_get C G fX0_12 (wX_at6) rfl dX0_clear_1 ?_
  refine lv_iconst (v := 0) hx hb dX0_clear_4 (by decide) ?_
  refine x_put (ws' := (wX E ad x_imageCount x_lastTrouble x_lastFault x_lastPlace pa_names pa_faultNumber pa_faultPlace rd_tape rd_length rd_end rd_next rd_sort rd_start rd_value rd_word to_unsurePair to_unsureYears to_triedPair to_seats to_slack to_sawInches to_quarrelChance to_people to_forkBits to_unsure to_tried to_triedFedBits tf_seatOf tf_one tf_other tf_kind tf_years tf_sawn (0 : Int32) tf_gone bd_unsurePair bd_unsureYears bd_triedPair bd_seats bd_slack bd_sawInches bd_quarrelChance bd_people bd_forkBits bd_unsure bd_tried bd_triedFedBits bf_seatOf bf_one bf_other bf_kind bf_years bf_sawn bf_pairs bf_gone nw_seatOf nw_one nw_other nw_kind nw_years nw_sawn nw_pairs nw_gone sc_seatOf sc_handle sc_both sc_slopOf sc_forkBits sc_canBits sc_bestBits sc_bestSlops sl_bits sl_count se_bestRow se_row se_pairAt se_hope se_hopeAt se_slopAt se_farBits se_gain se_worth se_bestWorth se_fresh ch_both ch_cost ch_bit ch_items ch_leastCost ch_leastBits cl_bits cl_count fi_sets fi_count ps_act ps_whom ps_amount ps_next ps_count i0_seatOf i0_one i0_other i0_kind i0_years i0_sawn i0_pairs i0_gone i1_seatOf i1_one i1_other i1_kind i1_years i1_sawn i1_pairs i1_gone i2_seatOf i2_one i2_other i2_kind i2_years i2_sawn i2_pairs i2_gone)) C G fX0_28 (wX_at10) rfl rfl (Nat.le_of_ble_eq_true rfl) wX_set_tf_pairs dX0_clear_5 (fun H locs G => ?_)
  refine lv_aload_n hx hb dX0_clear_8 rfl (lv_at hl 0 rfl) ?_
  refine x_get C G fX0_12 (wX_at6) rfl dX0_clear_9 ?_
  refine lv_iconst (v := 0) hx hb dX0_clear_12 (by decide) ?_
  refine x_put (ws' := (wX E ad x_imageCount x_lastTrouble x_lastFault x_lastPlace pa_names pa_faultNumber pa_faultPlace rd_tape rd_length rd_end rd_next rd_sort rd_start rd_value rd_word to_unsurePair to_unsureYears to_triedPair to_seats to_slack to_sawInches to_quarrelChance to_people to_forkBits to_unsure to_tried to_triedFedBits tf_seatOf tf_one tf_other tf_kind tf_years tf_sawn (0 : Int32) (0 : Int32) bd_unsurePair bd_unsureYears bd_triedPair bd_seats bd_slack bd_sawInches bd_quarrelChance bd_people bd_forkBits bd_unsure bd_tried bd_triedFedBits bf_seatOf bf_one bf_other bf_kind bf_years bf_sawn bf_pairs bf_gone nw_seatOf nw_one nw_other nw_kind nw_years nw_sawn nw_pairs nw_gone sc_seatOf sc_handle sc_both sc_slopOf sc_forkBits sc_canBits sc_bestBits sc_bestSlops sl_bits sl_count se_bestRow se_row se_pairAt se_hope se_hopeAt se_slopAt se_farBits se_gain se_worth se_bestWorth se_fresh ch_both ch_cost ch_bit ch_items ch_leastCost ch_leastBits cl_bits cl_count fi_sets fi_count ps_act ps_whom ps_amount ps_next ps_count i0_seatOf i0_one i0_other i0_kind i0_years i0_sawn i0_pairs i0_gone i1_seatOf i1_one i1_other i1_kind i1_years i1_sawn i1_pairs i1_gone i2_seatOf i2_one i2_other i2_kind i2_years i2_sawn i2_pairs i2_gone)) C G fX0_32 (wX_at10) rfl rfl (Nat.le_of_ble_eq_true rfl) wX_set_tf_gone dX0_clear_13 (fun H locs G => ?_)
  refine lv_aload_n hx hb dX0_clear_16 rfl (lv_at hl 0 rfl) ?_
  refine lv_iconst (v := 0) hx hb dX0_clear_17 (by decide) ?_
  refine x_put (ws' := (wX E ad x_imageCount x_lastTrouble x_lastFault x_lastPlace pa_names pa_faultNumber pa_faultPlace rd_tape rd_length rd_end rd_next rd_sort rd_start rd_value rd_word to_unsurePair to_unsureYears to_triedPair (0 : Int32) to_slack to_sawInches to_quarrelChance to_people to_forkBits to_unsure to_tried to_triedFedBits tf_seatOf tf_one tf_other tf_kind tf_years tf_sawn (0 : Int32) (0 : Int32) bd_unsurePair bd_unsureYears bd_triedPair bd_seats bd_slack bd_sawInches bd_quarrelChance bd_people bd_forkBits bd_unsure bd_tried bd_triedFedBits bf_seatOf bf_one bf_other bf_kind bf_years bf_sawn bf_pairs bf_gone nw_seatOf nw_one nw_other nw_kind nw_years nw_sawn nw_pairs nw_gone sc_seatOf sc_handle sc_both sc_slopOf sc_forkBits sc_canBits sc_bestBits sc_bestSlops sl_bits sl_count se_bestRow se_row se_pairAt se_hope se_hopeAt se_slopAt se_farBits se_gain se_worth se_bestWorth se_fresh ch_both ch_cost ch_bit ch_items ch_leastCost ch_leastBits cl_bits cl_count fi_sets fi_count ps_act ps_whom ps_amount ps_next ps_count i0_seatOf i0_one i0_other i0_kind i0_years i0_sawn i0_pairs i0_gone i1_seatOf i1_one i1_other i1_kind i1_years i1_sawn i1_pairs i1_gone i2_seatOf i2_one i2_other i2_kind i2_years i2_sawn i2_pairs i2_gone)) C G fX0_35 (wX_at6) rfl rfl (Nat.le_of_ble_eq_true rfl) wX_set_to_seats dX0_clear_18 (fun H locs G => ?_)
  refine lv_aload_n hx hb dX0_clear_21 rfl (lv_at hl 0 rfl) ?_
  refine lv_iconst (v := 0) hx hb dX0_clear_22 (by decide) ?_
  refine x_put (ws' := (wX E ad x_imageCount x_lastTrouble x_lastFault x_lastPlace pa_names pa_faultNumber pa_faultPlace rd_tape rd_length rd_end rd_next rd_sort rd_start rd_value rd_word to_unsurePair to_unsureYears to_triedPair (0 : Int32) to_slack to_sawInches to_quarrelChance (0 : Int32) to_forkBits to_unsure to_tried to_triedFedBits tf_seatOf tf_one tf_other tf_kind tf_years tf_sawn (0 : Int32) (0 : Int32) bd_unsurePair bd_unsureYears bd_triedPair bd_seats bd_slack bd_sawInches bd_quarrelChance bd_people bd_forkBits bd_unsure bd_tried bd_triedFedBits bf_seatOf bf_one bf_other bf_kind bf_years bf_sawn bf_pairs bf_gone nw_seatOf nw_one nw_other nw_kind nw_years nw_sawn nw_pairs nw_gone sc_seatOf sc_handle sc_both sc_slopOf sc_forkBits sc_canBits sc_bestBits sc_bestSlops sl_bits sl_count se_bestRow se_row se_pairAt se_hope se_hopeAt se_slopAt se_farBits se_gain se_worth se_bestWorth se_fresh ch_both ch_cost ch_bit ch_items ch_leastCost ch_leastBits cl_bits cl_count fi_sets fi_count ps_act ps_whom ps_amount ps_next ps_count i0_seatOf i0_one i0_other i0_kind i0_years i0_sawn i0_pairs i0_gone i1_seatOf i1_one i1_other i1_kind i1_years i1_sawn i1_pairs i1_gone i2_seatOf i2_one i2_other i2_kind i2_years i2_sawn i2_pairs i2_gone)) C G fX0_38 (wX_at6) rfl rfl (Nat.le_of_ble_eq_true rfl) wX_set_to_people dX0_clear_23 (fun H locs G => ?_)
  refine lv_aload_n hx hb dX0_clear_26 rfl (lv_at hl 0 rfl) ?_
  refine lv_iconst (v := 0) hx hb dX0_clear_27 (by decide) ?_
  refine x_put (ws' := (wX E ad x_imageCount x_lastTrouble x_lastFault x_lastPlace pa_names pa_faultNumber pa_faultPlace rd_tape rd_length rd_end rd_next rd_sort rd_start rd_value rd_word to_unsurePair to_unsureYears to_triedPair (0 : Int32) to_slack to_sawInches to_quarrelChance (0 : Int32) (0 : Int32) to_unsure to_tried to_triedFedBits tf_seatOf tf_one tf_other tf_kind tf_years tf_sawn (0 : Int32) (0 : Int32) bd_unsurePair bd_unsureYears bd_triedPair bd_seats bd_slack bd_sawInches bd_quarrelChance bd_people bd_forkBits bd_unsure bd_tried bd_triedFedBits bf_seatOf bf_one bf_other bf_kind bf_years bf_sawn bf_pairs bf_gone nw_seatOf nw_one nw_other nw_kind nw_years nw_sawn nw_pairs nw_gone sc_seatOf sc_handle sc_both sc_slopOf sc_forkBits sc_canBits sc_bestBits sc_bestSlops sl_bits sl_count se_bestRow se_row se_pairAt se_hope se_hopeAt se_slopAt se_farBits se_gain se_worth se_bestWorth se_fresh ch_both ch_cost ch_bit ch_items ch_leastCost ch_leastBits cl_bits cl_count fi_sets fi_count ps_act ps_whom ps_amount ps_next ps_count i0_seatOf i0_one i0_other i0_kind i0_years i0_sawn i0_pairs i0_gone i1_seatOf i1_one i1_other i1_kind i1_years i1_sawn i1_pairs i1_gone i2_seatOf i2_one i2_other i2_kind i2_years i2_sawn i2_pairs i2_gone)) C G fX0_41 (wX_at6) rfl rfl (Nat.le_of_ble_eq_true rfl) wX_set_to_forkBits dX0_clear_28 (fun H locs G => ?_)
  refine lv_aload_n hx hb dX0_clear_31 rfl (lv_at hl 0 rfl) ?_
  refine lv_iconst (v := 0) hx hb dX0_clear_32 (by decide) ?_
  refine x_put (ws' := (wX E ad x_imageCount x_lastTrouble x_lastFault x_lastPlace pa_names pa_faultNumber pa_faultPlace rd_tape rd_length rd_end rd_next rd_sort rd_start rd_value rd_word to_unsurePair to_unsureYears to_triedPair (0 : Int32) to_slack to_sawInches to_quarrelChance (0 : Int32) (0 : Int32) (0 : Int32) to_tried to_triedFedBits tf_seatOf tf_one tf_other tf_kind tf_years tf_sawn (0 : Int32) (0 : Int32) bd_unsurePair bd_unsureYears bd_triedPair bd_seats bd_slack bd_sawInches bd_quarrelChance bd_people bd_forkBits bd_unsure bd_tried bd_triedFedBits bf_seatOf bf_one bf_other bf_kind bf_years bf_sawn bf_pairs bf_gone nw_seatOf nw_one nw_other nw_kind nw_years nw_sawn nw_pairs nw_gone sc_seatOf sc_handle sc_both sc_slopOf sc_forkBits sc_canBits sc_bestBits sc_bestSlops sl_bits sl_count se_bestRow se_row se_pairAt se_hope se_hopeAt se_slopAt se_farBits se_gain se_worth se_bestWorth se_fresh ch_both ch_cost ch_bit ch_items ch_leastCost ch_leastBits cl_bits cl_count fi_sets fi_count ps_act ps_whom ps_amount ps_next ps_count i0_seatOf i0_one i0_other i0_kind i0_years i0_sawn i0_pairs i0_gone i1_seatOf i1_one i1_other i1_kind i1_years i1_sawn i1_pairs i1_gone i2_seatOf i2_one i2_other i2_kind i2_years i2_sawn i2_pairs i2_gone)) C G fX0_44 (wX_at6) rfl rfl (Nat.le_of_ble_eq_true rfl) wX_set_to_unsure dX0_clear_33 (fun H locs G => ?_)
  refine lv_aload_n hx hb dX0_clear_36 rfl (lv_at hl 0 rfl) ?_
  refine lv_iconst (v := 0) hx hb dX0_clear_37 (by decide) ?_
  refine x_put (ws' := (wX E ad x_imageCount x_lastTrouble x_lastFault x_lastPlace pa_names pa_faultNumber pa_faultPlace rd_tape rd_length rd_end rd_next rd_sort rd_start rd_value rd_word to_unsurePair to_unsureYears to_triedPair (0 : Int32) to_slack to_sawInches to_quarrelChance (0 : Int32) (0 : Int32) (0 : Int32) (0 : Int32) to_triedFedBits tf_seatOf tf_one tf_other tf_kind tf_years tf_sawn (0 : Int32) (0 : Int32) bd_unsurePair bd_unsureYears bd_triedPair bd_seats bd_slack bd_sawInches bd_quarrelChance bd_people bd_forkBits bd_unsure bd_tried bd_triedFedBits bf_seatOf bf_one bf_other bf_kind bf_years bf_sawn bf_pairs bf_gone nw_seatOf nw_one nw_other nw_kind nw_years nw_sawn nw_pairs nw_gone sc_seatOf sc_handle sc_both sc_slopOf sc_forkBits sc_canBits sc_bestBits sc_bestSlops sl_bits sl_count se_bestRow se_row se_pairAt se_hope se_hopeAt se_slopAt se_farBits se_gain se_worth se_bestWorth se_fresh ch_both ch_cost ch_bit ch_items ch_leastCost ch_leastBits cl_bits cl_count fi_sets fi_count ps_act ps_whom ps_amount ps_next ps_count i0_seatOf i0_one i0_other i0_kind i0_years i0_sawn i0_pairs i0_gone i1_seatOf i1_one i1_other i1_kind i1_years i1_sawn i1_pairs i1_gone i2_seatOf i2_one i2_other i2_kind i2_years i2_sawn i2_pairs i2_gone)) C G fX0_47 (wX_at6) rfl rfl (Nat.le_of_ble_eq_true rfl) wX_set_to_tried dX0_clear_38 (fun H locs G => ?_)
  refine lv_aload_n hx hb dX0_clear_41 rfl (lv_at hl 0 rfl) ?_
  refine lv_iconst (v := 0) hx hb dX0_clear_42 (by decide) ?_
  refine x_put (ws' := (wX E ad x_imageCount x_lastTrouble x_lastFault x_lastPlace pa_names pa_faultNumber pa_faultPlace rd_tape rd_length rd_end rd_next rd_sort rd_start rd_value rd_word to_unsurePair to_unsureYears to_triedPair (0 : Int32) to_slack to_sawInches to_quarrelChance (0 : Int32) (0 : Int32) (0 : Int32) (0 : Int32) (0 : Int32) tf_seatOf tf_one tf_other tf_kind tf_years tf_sawn (0 : Int32) (0 : Int32) bd_unsurePair bd_unsureYears bd_triedPair bd_seats bd_slack bd_sawInches bd_quarrelChance bd_people bd_forkBits bd_unsure bd_tried bd_triedFedBits bf_seatOf bf_one bf_other bf_kind bf_years bf_sawn bf_pairs bf_gone nw_seatOf nw_one nw_other nw_kind nw_years nw_sawn nw_pairs nw_gone sc_seatOf sc_handle sc_both sc_slopOf sc_forkBits sc_canBits sc_bestBits sc_bestSlops sl_bits sl_count se_bestRow se_row se_pairAt se_hope se_hopeAt se_slopAt se_farBits se_gain se_worth se_bestWorth se_fresh ch_both ch_cost ch_bit ch_items ch_leastCost ch_leastBits cl_bits cl_count fi_sets fi_count ps_act ps_whom ps_amount ps_next ps_count i0_seatOf i0_one i0_other i0_kind i0_years i0_sawn i0_pairs i0_gone i1_seatOf i1_one i1_other i1_kind i1_years i1_sawn i1_pairs i1_gone i2_seatOf i2_one i2_other i2_kind i2_years i2_sawn i2_pairs i2_gone)) C G fX0_50 (wX_at6) rfl rfl (Nat.le_of_ble_eq_true rfl) wX_set_to_triedFedBits dX0_clear_43 (fun H locs G => ?_)
  obtain rfl := Option.some.inj hf
  exact xV_ret C G dX0_clear_46
set_option maxHeartbeats 4000000 in
set_option maxRecDepth 100000 in
theorem w_Reader_skip_rd_L3 {p : Program} {l : Launch} {e : Env} {s : State} {m : MethodId} {args : Array Value} {below : List Frame} {meth : Method} {c : Code} {A : Nat → Prop} {E : xE} {Q : State → Prop} {ad : Nat → Nat} {x_imageCount x_lastTrouble x_lastFault x_lastPlace pa_faultNumber pa_faultPlace rd_length rd_end rd_next rd_sort rd_start rd_value to_seats to_slack to_sawInches to_quarrelChance to_people to_forkBits to_unsure to_tried to_triedFedBits tf_pairs tf_gone bd_seats bd_slack bd_sawInches bd_quarrelChance bd_people bd_forkBits bd_unsure bd_tried bd_triedFedBits bf_pairs bf_gone nw_pairs nw_gone sc_forkBits sc_canBits sc_bestBits sc_bestSlops sl_count se_bestWorth se_fresh ch_items ch_leastCost ch_leastBits cl_count fi_count ps_next ps_count i0_pairs i0_gone i1_pairs i1_gone i2_pairs i2_gone : Int32} {pa_names : Nat → Int64} {rd_tape to_unsurePair to_unsureYears to_triedPair tf_seatOf tf_one tf_other tf_kind tf_years tf_sawn bd_unsurePair bd_unsureYears bd_triedPair bf_seatOf bf_one bf_other bf_kind bf_years bf_sawn nw_seatOf nw_one nw_other nw_kind nw_years nw_sawn sc_seatOf sc_handle sc_both sc_slopOf sl_bits se_bestRow se_row se_pairAt se_hope se_hopeAt se_slopAt se_farBits se_gain se_worth ch_both ch_cost ch_bit cl_bits fi_sets ps_act ps_whom ps_amount i0_seatOf i0_one i0_other i0_kind i0_years i0_sawn i1_seatOf i1_one i1_other i1_kind i1_years i1_sawn i2_seatOf i2_one i2_other i2_kind i2_years i2_sawn : Nat → Int32} {rd_word : Int64} {l2 : Int32} {l3 : Int32} {o : Int32} (C : xC p s m args meth c cX7_skip 5 RX7 E A (some .int)) (J : ∀ (H : Heap) (locs : List Loc) (ls : Array Slot), xG s E A (wX E ad x_imageCount x_lastTrouble x_lastFault x_lastPlace pa_names pa_faultNumber pa_faultPlace rd_tape rd_length rd_end rd_next rd_sort rd_start rd_value rd_word to_unsurePair to_unsureYears to_triedPair to_seats to_slack to_sawInches to_quarrelChance to_people to_forkBits to_unsure to_tried to_triedFedBits tf_seatOf tf_one tf_other tf_kind tf_years tf_sawn tf_pairs tf_gone bd_unsurePair bd_unsureYears bd_triedPair bd_seats bd_slack bd_sawInches bd_quarrelChance bd_people bd_forkBits bd_unsure bd_tried bd_triedFedBits bf_seatOf bf_one bf_other bf_kind bf_years bf_sawn bf_pairs bf_gone nw_seatOf nw_one nw_other nw_kind nw_years nw_sawn nw_pairs nw_gone sc_seatOf sc_handle sc_both sc_slopOf sc_forkBits sc_canBits sc_bestBits sc_bestSlops sl_bits sl_count se_bestRow se_row se_pairAt se_hope se_hopeAt se_slopAt se_farBits se_gain se_worth se_bestWorth se_fresh ch_both ch_cost ch_bit ch_items ch_leastCost ch_leastBits cl_bits cl_count fi_sets fi_count ps_act ps_whom ps_amount ps_next ps_count i0_seatOf i0_one i0_other i0_kind i0_years i0_sawn i0_pairs i0_gone i1_seatOf i1_one i1_other i1_kind i1_years i1_sawn i1_pairs i1_gone i2_seatOf i2_one i2_other i2_kind i2_years i2_sawn i2_pairs i2_gone) H locs → lv_has ls 5 [(4, .int o)] → W p l e (xR 0 0) s m args below meth c H locs 0 0 Q (F0 m 40 ls [])) :
    ∀ (n : Nat) (l4 : Int32) (H : Heap) (locs : List Loc) (ls : Array Slot), xG s E A (wX E ad x_imageCount x_lastTrouble x_lastFault x_lastPlace pa_names pa_faultNumber pa_faultPlace rd_tape rd_length rd_end rd_next rd_sort rd_start rd_value rd_word to_unsurePair to_unsureYears to_triedPair to_seats to_slack to_sawInches to_quarrelChance to_people to_forkBits to_unsure to_tried to_triedFedBits tf_seatOf tf_one tf_other tf_kind tf_years tf_sawn tf_pairs tf_gone bd_unsurePair bd_unsureYears bd_triedPair bd_seats bd_slack bd_sawInches bd_quarrelChance bd_people bd_forkBits bd_unsure bd_tried bd_triedFedBits bf_seatOf bf_one bf_other bf_kind bf_years bf_sawn bf_pairs bf_gone nw_seatOf nw_one nw_other nw_kind nw_years nw_sawn nw_pairs nw_gone sc_seatOf sc_handle sc_both sc_slopOf sc_forkBits sc_canBits sc_bestBits sc_bestSlops sl_bits sl_count se_bestRow se_row se_pairAt se_hope se_hopeAt se_slopAt se_farBits se_gain se_worth se_bestWorth se_fresh ch_both ch_cost ch_bit ch_items ch_leastCost ch_leastBits cl_bits cl_count fi_sets fi_count ps_act ps_whom ps_amount ps_next ps_count i0_seatOf i0_one i0_other i0_kind i0_years i0_sawn i0_pairs i0_gone i1_seatOf i1_one i1_other i1_kind i1_years i1_sawn i1_pairs i1_gone i2_seatOf i2_one i2_other i2_kind i2_years i2_sawn i2_pairs i2_gone) H locs → lv_has ls 5 [(0, .ref (ad 4)), (2, .int l2), (3, .int l3), (4, .int l4)] → f_Reader_skip_L3 l2 l3 rd_tape rd_end n l4 = some o → W p l e (xR 0 0) s m args below meth c H locs 0 0 Q (F0 m 3 ls []) := by
  have hx := C.1
  have hb := C.2.1
  intro n
  induction n with
  | zero =>
    intro l4 H locs ls G hl hf
    exact nomatch (show (none : Option (Int32)) = some o from hf)
  | succ n ih =>
    intro l4 H locs ls G hl hf
    rw [f_Reader_skip_L3] at hf
    refine lv_iload hx hb dX7_skip_3 (lv_at hl 3 rfl) ?_
    refine lv_aload_n hx hb dX7_skip_5 rfl (lv_at hl 0 rfl) ?_
    refine x_get C G fX7_25.g (wX_at4) rfl dX7_skip_6 ?_
    obtain ⟨b1, hr, hf⟩ := bd_go hf
    cases b1 with
    | true =>
      have hf := it_t rfl hf
      have J : ∀ (H : Heap) (locs : List Loc), xG s E A (wX E ad x_imageCount x_lastTrouble x_lastFault x_lastPlace pa_names pa_faultNumber pa_faultPlace rd_tape rd_length rd_end rd_next rd_sort rd_start rd_value rd_word to_unsurePair to_unsureYears to_triedPair to_seats to_slack to_sawInches to_quarrelChance to_people to_forkBits to_unsure to_tried to_triedFedBits tf_seatOf tf_one tf_other tf_kind tf_years tf_sawn tf_pairs tf_gone bd_unsurePair bd_unsureYears bd_triedPair bd_seats bd_slack bd_sawInches bd_quarrelChance bd_people bd_forkBits bd_unsure bd_tried bd_triedFedBits bf_seatOf bf_one bf_other bf_kind bf_years bf_sawn bf_pairs bf_gone nw_seatOf nw_one nw_other nw_kind nw_years nw_sawn nw_pairs nw_gone sc_seatOf sc_handle sc_both sc_slopOf sc_forkBits sc_canBits sc_bestBits sc_bestSlops sl_bits sl_count se_bestRow se_row se_pairAt se_hope se_hopeAt se_slopAt se_farBits se_gain se_worth se_bestWorth se_fresh ch_both ch_cost ch_bit ch_items ch_leastCost ch_leastBits cl_bits cl_count fi_sets fi_count ps_act ps_whom ps_amount ps_next ps_count i0_seatOf i0_one i0_other i0_kind i0_years i0_sawn i0_pairs i0_gone i1_seatOf i1_one i1_other i1_kind i1_years i1_sawn i1_pairs i1_gone i2_seatOf i2_one i2_other i2_kind i2_years i2_sawn i2_pairs i2_gone) H locs → W p l e (xR 0 0) s m args below meth c H locs 0 0 Q (F0 m 40 ls []) := by
        intro H locs G
        obtain rfl := Option.some.inj hf
        exact J _ _ _ G (lv_sub hl [3] rfl)
      have hf := hr
      clear hr
      refine lv_icmp_ge (tgt := 40) hx hb dX7_skip_9 (by decide) (fun h => ?_) (fun h => ?_)
      · have hf := it_t h hf
        exact J _ _ G
      · have hf := it_f h hf
        refine lv_aload_n hx hb dX7_skip_12 rfl (lv_at hl 0 rfl) ?_
        refine x_get C G fX7_9 (wX_at4) rfl dX7_skip_13 ?_
        refine lv_iload hx hb dX7_skip_16 (lv_at hl 3 rfl) ?_
        have hi := ck_in hf
        have hf := ck_go hf
        refine x_bald C G (wX_at5) hi dX7_skip_18 ?_
        refine lv_iload_n hx hb dX7_skip_19 rfl (lv_at hl 1 rfl) ?_
        refine lv_icmp_lt (tgt := 40) hx hb dX7_skip_20 (by decide) (fun h => ?_) (fun h => ?_)
        · have hf := it_t h hf
          exact J _ _ G
        · have hf := it_f h hf
          refine lv_aload_n hx hb dX7_skip_23 rfl (lv_at hl 0 rfl) ?_
          refine x_get C G fX7_9 (wX_at4) rfl dX7_skip_24 ?_
          refine lv_iload hx hb dX7_skip_27 (lv_at hl 3 rfl) ?_
          have hi := ck_in hf
          have hf := ck_go hf
          refine x_bald C G (wX_at5) hi dX7_skip_29 ?_
          refine lv_iload_n hx hb dX7_skip_30 rfl (lv_at hl 2 rfl) ?_
          refine lv_icmp_gt (tgt := 40) hx hb dX7_skip_31 (by decide) (fun h => ?_) (fun h => ?_)
          · have hf := it_t h hf
            exact J _ _ G
          · have hf := it_f h hf
            exact absurd (Option.some.inj hf) (by decide)
    | false =>
      have hf := it_f (by decide) hf
      have J : ∀ (H : Heap) (locs : List Loc), xG s E A (wX E ad x_imageCount x_lastTrouble x_lastFault x_lastPlace pa_names pa_faultNumber pa_faultPlace rd_tape rd_length rd_end rd_next rd_sort rd_start rd_value rd_word to_unsurePair to_unsureYears to_triedPair to_seats to_slack to_sawInches to_quarrelChance to_people to_forkBits to_unsure to_tried to_triedFedBits tf_seatOf tf_one tf_other tf_kind tf_years tf_sawn tf_pairs tf_gone bd_unsurePair bd_unsureYears bd_triedPair bd_seats bd_slack bd_sawInches bd_quarrelChance bd_people bd_forkBits bd_unsure bd_tried bd_triedFedBits bf_seatOf bf_one bf_other bf_kind bf_years bf_sawn bf_pairs bf_gone nw_seatOf nw_one nw_other nw_kind nw_years nw_sawn nw_pairs nw_gone sc_seatOf sc_handle sc_both sc_slopOf sc_forkBits sc_canBits sc_bestBits sc_bestSlops sl_bits sl_count se_bestRow se_row se_pairAt se_hope se_hopeAt se_slopAt se_farBits se_gain se_worth se_bestWorth se_fresh ch_both ch_cost ch_bit ch_items ch_leastCost ch_leastBits cl_bits cl_count fi_sets fi_count ps_act ps_whom ps_amount ps_next ps_count i0_seatOf i0_one i0_other i0_kind i0_years i0_sawn i0_pairs i0_gone i1_seatOf i1_one i1_other i1_kind i1_years i1_sawn i1_pairs i1_gone i2_seatOf i2_one i2_other i2_kind i2_years i2_sawn i2_pairs i2_gone) H locs → W p l e (xR 0 0) s m args below meth c H locs 0 0 Q (F0 m 34 ls []) := by
        intro H locs G
        obtain ⟨x2, ex2⟩ : ∃ z : Int32, z = l4 + (1 : Int32) := ⟨_, rfl⟩
        have hf := lt_go ex2 hf
        refine lv_iinc (v := x2) (lv' := [(4, .int x2), (0, .ref (ad 4)), (2, .int l2), (3, .int l3)]) hx hb dX7_skip_34 hl (k := 3) rfl (by rw [ex2]; rfl) (by decide) rfl (fun ls hl => ?_)
        refine lv_goto (tgt := 3) hx hb dX7_skip_37 (by decide) ?_
        exact ih x2 _ _ _ G (lv_sub hl [1, 2, 3, 0] rfl) hf
      have hf := hr
      clear hr
      refine lv_icmp_ge (tgt := 40) hx hb dX7_skip_9 (by decide) (fun h => ?_) (fun h => ?_)
      · have hf := it_t h hf
        exact absurd (Option.some.inj hf) (by decide)
      · have hf := it_f h hf
        refine lv_aload_n hx hb dX7_skip_12 rfl (lv_at hl 0 rfl) ?_
        refine x_get C G fX7_9 (wX_at4) rfl dX7_skip_13 ?_
        refine lv_iload hx hb dX7_skip_16 (lv_at hl 3 rfl) ?_
        have hi := ck_in hf
        have hf := ck_go hf
        refine x_bald C G (wX_at5) hi dX7_skip_18 ?_
        refine lv_iload_n hx hb dX7_skip_19 rfl (lv_at hl 1 rfl) ?_
        refine lv_icmp_lt (tgt := 40) hx hb dX7_skip_20 (by decide) (fun h => ?_) (fun h => ?_)
        · have hf := it_t h hf
          exact absurd (Option.some.inj hf) (by decide)
        · have hf := it_f h hf
          refine lv_aload_n hx hb dX7_skip_23 rfl (lv_at hl 0 rfl) ?_
          refine x_get C G fX7_9 (wX_at4) rfl dX7_skip_24 ?_
          refine lv_iload hx hb dX7_skip_27 (lv_at hl 3 rfl) ?_
          have hi := ck_in hf
          have hf := ck_go hf
          refine x_bald C G (wX_at5) hi dX7_skip_29 ?_
          refine lv_iload_n hx hb dX7_skip_30 rfl (lv_at hl 2 rfl) ?_
          refine lv_icmp_gt (tgt := 40) hx hb dX7_skip_31 (by decide) (fun h => ?_) (fun h => ?_)
          · have hf := it_t h hf
            exact absurd (Option.some.inj hf) (by decide)
          · have hf := it_f h hf
            exact J _ _ G
set_option maxHeartbeats 4000000 in
set_option maxRecDepth 100000 in
theorem c_Reader_skip_rd {l : Launch} {E : xE} {ad : Nat → Nat} {x_imageCount x_lastTrouble x_lastFault x_lastPlace pa_faultNumber pa_faultPlace rd_length rd_end rd_next rd_sort rd_start rd_value to_seats to_slack to_sawInches to_quarrelChance to_people to_forkBits to_unsure to_tried to_triedFedBits tf_pairs tf_gone bd_seats bd_slack bd_sawInches bd_quarrelChance bd_people bd_forkBits bd_unsure bd_tried bd_triedFedBits bf_pairs bf_gone nw_pairs nw_gone sc_forkBits sc_canBits sc_bestBits sc_bestSlops sl_count se_bestWorth se_fresh ch_items ch_leastCost ch_leastBits cl_count fi_count ps_next ps_count i0_pairs i0_gone i1_pairs i1_gone i2_pairs i2_gone : Int32} {pa_names : Nat → Int64} {rd_tape to_unsurePair to_unsureYears to_triedPair tf_seatOf tf_one tf_other tf_kind tf_years tf_sawn bd_unsurePair bd_unsureYears bd_triedPair bf_seatOf bf_one bf_other bf_kind bf_years bf_sawn nw_seatOf nw_one nw_other nw_kind nw_years nw_sawn sc_seatOf sc_handle sc_both sc_slopOf sl_bits se_bestRow se_row se_pairAt se_hope se_hopeAt se_slopAt se_farBits se_gain se_worth ch_both ch_cost ch_bit cl_bits fi_sets ps_act ps_whom ps_amount i0_seatOf i0_one i0_other i0_kind i0_years i0_sawn i1_seatOf i1_one i1_other i1_kind i1_years i1_sawn i2_seatOf i2_one i2_other i2_kind i2_years i2_sawn : Nat → Int32} {rd_word : Int64} {l1 : Int32} {l2 : Int32} {l3 : Int32} {R0 : Int32} (hf : f_Reader_skip l1 l2 l3 rd_tape rd_end = some R0) : xI l E yX7_skip cX7_skip 5 (some .int) 0 0 [.ref (ad 4), .int l1, .int l2, .int l3] (wX E ad x_imageCount x_lastTrouble x_lastFault x_lastPlace pa_names pa_faultNumber pa_faultPlace rd_tape rd_length rd_end rd_next rd_sort rd_start rd_value rd_word to_unsurePair to_unsureYears to_triedPair to_seats to_slack to_sawInches to_quarrelChance to_people to_forkBits to_unsure to_tried to_triedFedBits tf_seatOf tf_one tf_other tf_kind tf_years tf_sawn tf_pairs tf_gone bd_unsurePair bd_unsureYears bd_triedPair bd_seats bd_slack bd_sawInches bd_quarrelChance bd_people bd_forkBits bd_unsure bd_tried bd_triedFedBits bf_seatOf bf_one bf_other bf_kind bf_years bf_sawn bf_pairs bf_gone nw_seatOf nw_one nw_other nw_kind nw_years nw_sawn nw_pairs nw_gone sc_seatOf sc_handle sc_both sc_slopOf sc_forkBits sc_canBits sc_bestBits sc_bestSlops sl_bits sl_count se_bestRow se_row se_pairAt se_hope se_hopeAt se_slopAt se_farBits se_gain se_worth se_bestWorth se_fresh ch_both ch_cost ch_bit ch_items ch_leastCost ch_leastBits cl_bits cl_count fi_sets fi_count ps_act ps_whom ps_amount ps_next ps_count i0_seatOf i0_one i0_other i0_kind i0_years i0_sawn i0_pairs i0_gone i1_seatOf i1_one i1_other i1_kind i1_years i1_sawn i1_pairs i1_gone i2_seatOf i2_one i2_other i2_kind i2_years i2_sawn i2_pairs i2_gone) (wX E ad x_imageCount x_lastTrouble x_lastFault x_lastPlace pa_names pa_faultNumber pa_faultPlace rd_tape rd_length rd_end rd_next rd_sort rd_start rd_value rd_word to_unsurePair to_unsureYears to_triedPair to_seats to_slack to_sawInches to_quarrelChance to_people to_forkBits to_unsure to_tried to_triedFedBits tf_seatOf tf_one tf_other tf_kind tf_years tf_sawn tf_pairs tf_gone bd_unsurePair bd_unsureYears bd_triedPair bd_seats bd_slack bd_sawInches bd_quarrelChance bd_people bd_forkBits bd_unsure bd_tried bd_triedFedBits bf_seatOf bf_one bf_other bf_kind bf_years bf_sawn bf_pairs bf_gone nw_seatOf nw_one nw_other nw_kind nw_years nw_sawn nw_pairs nw_gone sc_seatOf sc_handle sc_both sc_slopOf sc_forkBits sc_canBits sc_bestBits sc_bestSlops sl_bits sl_count se_bestRow se_row se_pairAt se_hope se_hopeAt se_slopAt se_farBits se_gain se_worth se_bestWorth se_fresh ch_both ch_cost ch_bit ch_items ch_leastCost ch_leastBits cl_bits cl_count fi_sets fi_count ps_act ps_whom ps_amount ps_next ps_count i0_seatOf i0_one i0_other i0_kind i0_years i0_sawn i0_pairs i0_gone i1_seatOf i1_one i1_other i1_kind i1_years i1_sawn i1_pairs i1_gone i2_seatOf i2_one i2_other i2_kind i2_years i2_sawn i2_pairs i2_gone) R0 := by
  refine xI_of (by decide) (Nat.le_of_ble_eq_true rfl) (fun p e s m args below meth c A C ls hl G => ?_)
  have hx := C.1
  have hb := C.2.1
  have hl : lv_has ls 5 [(0, .ref (ad 4)), (1, .int l1), (2, .int l2), (3, .int l3)] := hl
  unfold f_Reader_skip at hf
  refine lv_iload_n hx hb dX7_skip_0 rfl (lv_at hl 1 rfl) ?_
  refine lv_istore (lv' := [(4, .int l1), (0, .ref (ad 4)), (1, .int l1), (2, .int l2), (3, .int l3)]) hx hb dX7_skip_1 hl (by decide) rfl (fun ls hl => ?_)
  obtain ⟨x3, hr, hf⟩ := bd_go hf
  have Jx3 : ∀ (H : Heap) (locs : List Loc) (ls : Array Slot), xG s E A (wX E ad x_imageCount x_lastTrouble x_lastFault x_lastPlace pa_names pa_faultNumber pa_faultPlace rd_tape rd_length rd_end rd_next rd_sort rd_start rd_value rd_word to_unsurePair to_unsureYears to_triedPair to_seats to_slack to_sawInches to_quarrelChance to_people to_forkBits to_unsure to_tried to_triedFedBits tf_seatOf tf_one tf_other tf_kind tf_years tf_sawn tf_pairs tf_gone bd_unsurePair bd_unsureYears bd_triedPair bd_seats bd_slack bd_sawInches bd_quarrelChance bd_people bd_forkBits bd_unsure bd_tried bd_triedFedBits bf_seatOf bf_one bf_other bf_kind bf_years bf_sawn bf_pairs bf_gone nw_seatOf nw_one nw_other nw_kind nw_years nw_sawn nw_pairs nw_gone sc_seatOf sc_handle sc_both sc_slopOf sc_forkBits sc_canBits sc_bestBits sc_bestSlops sl_bits sl_count se_bestRow se_row se_pairAt se_hope se_hopeAt se_slopAt se_farBits se_gain se_worth se_bestWorth se_fresh ch_both ch_cost ch_bit ch_items ch_leastCost ch_leastBits cl_bits cl_count fi_sets fi_count ps_act ps_whom ps_amount ps_next ps_count i0_seatOf i0_one i0_other i0_kind i0_years i0_sawn i0_pairs i0_gone i1_seatOf i1_one i1_other i1_kind i1_years i1_sawn i1_pairs i1_gone i2_seatOf i2_one i2_other i2_kind i2_years i2_sawn i2_pairs i2_gone) H locs → lv_has ls 5 [(4, .int x3)] → W p l e (xR 0 0) s m args below meth c H locs 0 0 (MQ below (xqI E A (wX E ad x_imageCount x_lastTrouble x_lastFault x_lastPlace pa_names pa_faultNumber pa_faultPlace rd_tape rd_length rd_end rd_next rd_sort rd_start rd_value rd_word to_unsurePair to_unsureYears to_triedPair to_seats to_slack to_sawInches to_quarrelChance to_people to_forkBits to_unsure to_tried to_triedFedBits tf_seatOf tf_one tf_other tf_kind tf_years tf_sawn tf_pairs tf_gone bd_unsurePair bd_unsureYears bd_triedPair bd_seats bd_slack bd_sawInches bd_quarrelChance bd_people bd_forkBits bd_unsure bd_tried bd_triedFedBits bf_seatOf bf_one bf_other bf_kind bf_years bf_sawn bf_pairs bf_gone nw_seatOf nw_one nw_other nw_kind nw_years nw_sawn nw_pairs nw_gone sc_seatOf sc_handle sc_both sc_slopOf sc_forkBits sc_canBits sc_bestBits sc_bestSlops sl_bits sl_count se_bestRow se_row se_pairAt se_hope se_hopeAt se_slopAt se_farBits se_gain se_worth se_bestWorth se_fresh ch_both ch_cost ch_bit ch_items ch_leastCost ch_leastBits cl_bits cl_count fi_sets fi_count ps_act ps_whom ps_amount ps_next ps_count i0_seatOf i0_one i0_other i0_kind i0_years i0_sawn i0_pairs i0_gone i1_seatOf i1_one i1_other i1_kind i1_years i1_sawn i1_pairs i1_gone i2_seatOf i2_one i2_other i2_kind i2_years i2_sawn i2_pairs i2_gone) (some .int) R0) args s 0 0 A) (F0 m 40 ls []) := by
    intro H locs ls G hl
    refine lv_iload hx hb dX7_skip_40 (lv_at hl 0 rfl) ?_
    obtain rfl := Option.some.inj hf
    exact xI_ret C G rfl dX7_skip_42
  exact w_Reader_skip_rd_L3 C Jx3 fu _ _ _ _ G (lv_sub hl [1, 3, 4, 0] rfl) hr
set_option maxHeartbeats 4000000 in
set_option maxRecDepth 100000 in
theorem w_Reader_takeWord_rd_L28 {p : Program} {l : Launch} {e : Env} {s : State} {m : MethodId} {args : Array Value} {below : List Frame} {meth : Method} {c : Code} {A : Nat → Prop} {E : xE} {Q : State → Prop} {ad : Nat → Nat} {x_imageCount x_lastTrouble x_lastFault x_lastPlace pa_faultNumber pa_faultPlace rd_length rd_end rd_next rd_sort rd_start rd_value to_seats to_slack to_sawInches to_quarrelChance to_people to_forkBits to_unsure to_tried to_triedFedBits tf_pairs tf_gone bd_seats bd_slack bd_sawInches bd_quarrelChance bd_people bd_forkBits bd_unsure bd_tried bd_triedFedBits bf_pairs bf_gone nw_pairs nw_gone sc_forkBits sc_canBits sc_bestBits sc_bestSlops sl_count se_bestWorth se_fresh ch_items ch_leastCost ch_leastBits cl_count fi_count ps_next ps_count i0_pairs i0_gone i1_pairs i1_gone i2_pairs i2_gone : Int32} {pa_names : Nat → Int64} {rd_tape to_unsurePair to_unsureYears to_triedPair tf_seatOf tf_one tf_other tf_kind tf_years tf_sawn bd_unsurePair bd_unsureYears bd_triedPair bf_seatOf bf_one bf_other bf_kind bf_years bf_sawn nw_seatOf nw_one nw_other nw_kind nw_years nw_sawn sc_seatOf sc_handle sc_both sc_slopOf sl_bits se_bestRow se_row se_pairAt se_hope se_hopeAt se_slopAt se_farBits se_gain se_worth ch_both ch_cost ch_bit cl_bits fi_sets ps_act ps_whom ps_amount i0_seatOf i0_one i0_other i0_kind i0_years i0_sawn i1_seatOf i1_one i1_other i1_kind i1_years i1_sawn i2_seatOf i2_one i2_other i2_kind i2_years i2_sawn : Nat → Int32} {o : Int64} (C : xC p s m args meth c cX7_takeWord 2 RX7 E A none) (J : ∀ (H : Heap) (locs : List Loc) (ls : Array Slot), xG s E A (wX E ad x_imageCount x_lastTrouble x_lastFault x_lastPlace pa_names pa_faultNumber pa_faultPlace rd_tape rd_length rd_end rd_next rd_sort rd_start rd_value o to_unsurePair to_unsureYears to_triedPair to_seats to_slack to_sawInches to_quarrelChance to_people to_forkBits to_unsure to_tried to_triedFedBits tf_seatOf tf_one tf_other tf_kind tf_years tf_sawn tf_pairs tf_gone bd_unsurePair bd_unsureYears bd_triedPair bd_seats bd_slack bd_sawInches bd_quarrelChance bd_people bd_forkBits bd_unsure bd_tried bd_triedFedBits bf_seatOf bf_one bf_other bf_kind bf_years bf_sawn bf_pairs bf_gone nw_seatOf nw_one nw_other nw_kind nw_years nw_sawn nw_pairs nw_gone sc_seatOf sc_handle sc_both sc_slopOf sc_forkBits sc_canBits sc_bestBits sc_bestSlops sl_bits sl_count se_bestRow se_row se_pairAt se_hope se_hopeAt se_slopAt se_farBits se_gain se_worth se_bestWorth se_fresh ch_both ch_cost ch_bit ch_items ch_leastCost ch_leastBits cl_bits cl_count fi_sets fi_count ps_act ps_whom ps_amount ps_next ps_count i0_seatOf i0_one i0_other i0_kind i0_years i0_sawn i0_pairs i0_gone i1_seatOf i1_one i1_other i1_kind i1_years i1_sawn i1_pairs i1_gone i2_seatOf i2_one i2_other i2_kind i2_years i2_sawn i2_pairs i2_gone) H locs → lv_has ls 2 [] → W p l e (xR 0 0) s m args below meth c H locs 0 0 Q (F0 m 69 ls [])) :
    ∀ (n : Nat) (l1 : Int32) (rd_word : Int64) (H : Heap) (locs : List Loc) (ls : Array Slot), xG s E A (wX E ad x_imageCount x_lastTrouble x_lastFault x_lastPlace pa_names pa_faultNumber pa_faultPlace rd_tape rd_length rd_end rd_next rd_sort rd_start rd_value rd_word to_unsurePair to_unsureYears to_triedPair to_seats to_slack to_sawInches to_quarrelChance to_people to_forkBits to_unsure to_tried to_triedFedBits tf_seatOf tf_one tf_other tf_kind tf_years tf_sawn tf_pairs tf_gone bd_unsurePair bd_unsureYears bd_triedPair bd_seats bd_slack bd_sawInches bd_quarrelChance bd_people bd_forkBits bd_unsure bd_tried bd_triedFedBits bf_seatOf bf_one bf_other bf_kind bf_years bf_sawn bf_pairs bf_gone nw_seatOf nw_one nw_other nw_kind nw_years nw_sawn nw_pairs nw_gone sc_seatOf sc_handle sc_both sc_slopOf sc_forkBits sc_canBits sc_bestBits sc_bestSlops sl_bits sl_count se_bestRow se_row se_pairAt se_hope se_hopeAt se_slopAt se_farBits se_gain se_worth se_bestWorth se_fresh ch_both ch_cost ch_bit ch_items ch_leastCost ch_leastBits cl_bits cl_count fi_sets fi_count ps_act ps_whom ps_amount ps_next ps_count i0_seatOf i0_one i0_other i0_kind i0_years i0_sawn i0_pairs i0_gone i1_seatOf i1_one i1_other i1_kind i1_years i1_sawn i1_pairs i1_gone i2_seatOf i2_one i2_other i2_kind i2_years i2_sawn i2_pairs i2_gone) H locs → lv_has ls 2 [(0, .ref (ad 4)), (1, .int l1)] → f_Reader_takeWord_L28 rd_tape rd_next rd_sort n l1 rd_word = some o → W p l e (xR 0 0) s m args below meth c H locs 0 0 Q (F0 m 28 ls []) := by
  have hx := C.1
  have hb := C.2.1
  intro n
  induction n with
  | zero =>
    intro l1 rd_word H locs ls G hl hf
    exact nomatch (show (none : Option (Int64)) = some o from hf)
  | succ n ih =>
    intro l1 rd_word H locs ls G hl hf
    rw [f_Reader_takeWord_L28] at hf
    refine lv_iload_n hx hb dX7_takeWord_28 rfl (lv_at hl 1 rfl) ?_
    refine lv_aload_n hx hb dX7_takeWord_29 rfl (lv_at hl 0 rfl) ?_
    refine x_get C G fX7_28.g (wX_at4) rfl dX7_takeWord_30 ?_
    obtain ⟨b2, hr, hf⟩ := bd_go hf
    cases b2 with
    | true =>
      have hf := it_t rfl hf
      have J : ∀ (H : Heap) (locs : List Loc), xG s E A (wX E ad x_imageCount x_lastTrouble x_lastFault x_lastPlace pa_names pa_faultNumber pa_faultPlace rd_tape rd_length rd_end rd_next rd_sort rd_start rd_value rd_word to_unsurePair to_unsureYears to_triedPair to_seats to_slack to_sawInches to_quarrelChance to_people to_forkBits to_unsure to_tried to_triedFedBits tf_seatOf tf_one tf_other tf_kind tf_years tf_sawn tf_pairs tf_gone bd_unsurePair bd_unsureYears bd_triedPair bd_seats bd_slack bd_sawInches bd_quarrelChance bd_people bd_forkBits bd_unsure bd_tried bd_triedFedBits bf_seatOf bf_one bf_other bf_kind bf_years bf_sawn bf_pairs bf_gone nw_seatOf nw_one nw_other nw_kind nw_years nw_sawn nw_pairs nw_gone sc_seatOf sc_handle sc_both sc_slopOf sc_forkBits sc_canBits sc_bestBits sc_bestSlops sl_bits sl_count se_bestRow se_row se_pairAt se_hope se_hopeAt se_slopAt se_farBits se_gain se_worth se_bestWorth se_fresh ch_both ch_cost ch_bit ch_items ch_leastCost ch_leastBits cl_bits cl_count fi_sets fi_count ps_act ps_whom ps_amount ps_next ps_count i0_seatOf i0_one i0_other i0_kind i0_years i0_sawn i0_pairs i0_gone i1_seatOf i1_one i1_other i1_kind i1_years i1_sawn i1_pairs i1_gone i2_seatOf i2_one i2_other i2_kind i2_years i2_sawn i2_pairs i2_gone) H locs → W p l e (xR 0 0) s m args below meth c H locs 0 0 Q (F0 m 69 ls []) := by
        intro H locs G
        obtain rfl := Option.some.inj hf
        exact J _ _ _ G (lv_sub hl [] rfl)
      have hf := hr
      clear hr
      refine lv_icmp_ge (tgt := 69) hx hb dX7_takeWord_33 (by decide) (fun h => ?_) (fun h => ?_)
      · have hf := it_t h hf
        exact J _ _ G
      · have hf := it_f h hf
        refine lv_aload_n hx hb dX7_takeWord_36 rfl (lv_at hl 0 rfl) ?_
        refine x_get C G fX7_48.g (wX_at4) rfl dX7_takeWord_37 ?_
        refine lv_iconst (v := 1) hx hb dX7_takeWord_40 (by decide) ?_
        refine lv_icmp_ne (tgt := 69) hx hb dX7_takeWord_41 (by decide) (fun h => ?_) (fun h => ?_)
        · have hf := it_f h hf
          exact J _ _ G
        · have hf := it_t h hf
          exact absurd (Option.some.inj hf) (by decide)
    | false =>
      have hf := it_f (by decide) hf
      have J : ∀ (H : Heap) (locs : List Loc), xG s E A (wX E ad x_imageCount x_lastTrouble x_lastFault x_lastPlace pa_names pa_faultNumber pa_faultPlace rd_tape rd_length rd_end rd_next rd_sort rd_start rd_value rd_word to_unsurePair to_unsureYears to_triedPair to_seats to_slack to_sawInches to_quarrelChance to_people to_forkBits to_unsure to_tried to_triedFedBits tf_seatOf tf_one tf_other tf_kind tf_years tf_sawn tf_pairs tf_gone bd_unsurePair bd_unsureYears bd_triedPair bd_seats bd_slack bd_sawInches bd_quarrelChance bd_people bd_forkBits bd_unsure bd_tried bd_triedFedBits bf_seatOf bf_one bf_other bf_kind bf_years bf_sawn bf_pairs bf_gone nw_seatOf nw_one nw_other nw_kind nw_years nw_sawn nw_pairs nw_gone sc_seatOf sc_handle sc_both sc_slopOf sc_forkBits sc_canBits sc_bestBits sc_bestSlops sl_bits sl_count se_bestRow se_row se_pairAt se_hope se_hopeAt se_slopAt se_farBits se_gain se_worth se_bestWorth se_fresh ch_both ch_cost ch_bit ch_items ch_leastCost ch_leastBits cl_bits cl_count fi_sets fi_count ps_act ps_whom ps_amount ps_next ps_count i0_seatOf i0_one i0_other i0_kind i0_years i0_sawn i0_pairs i0_gone i1_seatOf i1_one i1_other i1_kind i1_years i1_sawn i1_pairs i1_gone i2_seatOf i2_one i2_other i2_kind i2_years i2_sawn i2_pairs i2_gone) H locs → W p l e (xR 0 0) s m args below meth c H locs 0 0 Q (F0 m 44 ls []) := by
        intro H locs G
        refine lv_aload_n hx hb dX7_takeWord_44 rfl (lv_at hl 0 rfl) ?_
        refine lv_aload_n hx hb dX7_takeWord_45 rfl (lv_at hl 0 rfl) ?_
        refine x_get C G fX7_44.g (wX_at4) rfl dX7_takeWord_46 ?_
        refine lv_bipush (v := 8) hx hb dX7_takeWord_49 (by decide) ?_
        refine lv_lshl hx hb dX7_takeWord_51 rfl ?_
        refine lv_aload_n hx hb dX7_takeWord_52 rfl (lv_at hl 0 rfl) ?_
        refine x_get C G fX7_9 (wX_at4) rfl dX7_takeWord_53 ?_
        refine lv_iload_n hx hb dX7_takeWord_56 rfl (lv_at hl 1 rfl) ?_
        have hi := ck_in hf
        have hf := ck_go hf
        refine x_bald C G (wX_at5) hi dX7_takeWord_57 ?_
        refine lv_i2l hx hb dX7_takeWord_58 rfl ?_
        refine lv_lor hx hb dX7_takeWord_59 ?_
        refine lv_topl (fun x3 ex3 => ?_)
        have hf := lt_go ex3 hf
        refine x_put (ws' := (wX E ad x_imageCount x_lastTrouble x_lastFault x_lastPlace pa_names pa_faultNumber pa_faultPlace rd_tape rd_length rd_end rd_next rd_sort rd_start rd_value x3 to_unsurePair to_unsureYears to_triedPair to_seats to_slack to_sawInches to_quarrelChance to_people to_forkBits to_unsure to_tried to_triedFedBits tf_seatOf tf_one tf_other tf_kind tf_years tf_sawn tf_pairs tf_gone bd_unsurePair bd_unsureYears bd_triedPair bd_seats bd_slack bd_sawInches bd_quarrelChance bd_people bd_forkBits bd_unsure bd_tried bd_triedFedBits bf_seatOf bf_one bf_other bf_kind bf_years bf_sawn bf_pairs bf_gone nw_seatOf nw_one nw_other nw_kind nw_years nw_sawn nw_pairs nw_gone sc_seatOf sc_handle sc_both sc_slopOf sc_forkBits sc_canBits sc_bestBits sc_bestSlops sl_bits sl_count se_bestRow se_row se_pairAt se_hope se_hopeAt se_slopAt se_farBits se_gain se_worth se_bestWorth se_fresh ch_both ch_cost ch_bit ch_items ch_leastCost ch_leastBits cl_bits cl_count fi_sets fi_count ps_act ps_whom ps_amount ps_next ps_count i0_seatOf i0_one i0_other i0_kind i0_years i0_sawn i0_pairs i0_gone i1_seatOf i1_one i1_other i1_kind i1_years i1_sawn i1_pairs i1_gone i2_seatOf i2_one i2_other i2_kind i2_years i2_sawn i2_pairs i2_gone)) C G fX7_44 (wX_at4) rfl rfl (Nat.le_of_ble_eq_true rfl) wX_set_rd_word dX7_takeWord_60 (fun H locs G => ?_)
        obtain ⟨x4, ex4⟩ : ∃ z : Int32, z = l1 + (1 : Int32) := ⟨_, rfl⟩
        have hf := lt_go ex4 hf
        refine lv_iinc (v := x4) (lv' := [(1, .int x4), (0, .ref (ad 4))]) hx hb dX7_takeWord_63 hl (k := 1) rfl (by rw [ex4]; rfl) (by decide) rfl (fun ls hl => ?_)
        refine lv_goto (tgt := 28) hx hb dX7_takeWord_66 (by decide) ?_
        exact ih x4 x3 _ _ _ G (lv_sub hl [1, 0] rfl) hf
      have hf := hr
      clear hr
      refine lv_icmp_ge (tgt := 69) hx hb dX7_takeWord_33 (by decide) (fun h => ?_) (fun h => ?_)
      · have hf := it_t h hf
        exact absurd (Option.some.inj hf) (by decide)
      · have hf := it_f h hf
        refine lv_aload_n hx hb dX7_takeWord_36 rfl (lv_at hl 0 rfl) ?_
        refine x_get C G fX7_48.g (wX_at4) rfl dX7_takeWord_37 ?_
        refine lv_iconst (v := 1) hx hb dX7_takeWord_40 (by decide) ?_
        refine lv_icmp_ne (tgt := 69) hx hb dX7_takeWord_41 (by decide) (fun h => ?_) (fun h => ?_)
        · have hf := it_f h hf
          exact absurd (Option.some.inj hf) (by decide)
        · have hf := it_t h hf
          exact J _ _ G
set_option maxHeartbeats 4000000 in
set_option maxRecDepth 100000 in
theorem c_Reader_takeWord_rd {l : Launch} {E : xE} {ad : Nat → Nat} {x_imageCount x_lastTrouble x_lastFault x_lastPlace pa_faultNumber pa_faultPlace rd_length rd_end rd_next rd_sort rd_start rd_value to_seats to_slack to_sawInches to_quarrelChance to_people to_forkBits to_unsure to_tried to_triedFedBits tf_pairs tf_gone bd_seats bd_slack bd_sawInches bd_quarrelChance bd_people bd_forkBits bd_unsure bd_tried bd_triedFedBits bf_pairs bf_gone nw_pairs nw_gone sc_forkBits sc_canBits sc_bestBits sc_bestSlops sl_count se_bestWorth se_fresh ch_items ch_leastCost ch_leastBits cl_count fi_count ps_next ps_count i0_pairs i0_gone i1_pairs i1_gone i2_pairs i2_gone : Int32} {pa_names : Nat → Int64} {rd_tape to_unsurePair to_unsureYears to_triedPair tf_seatOf tf_one tf_other tf_kind tf_years tf_sawn bd_unsurePair bd_unsureYears bd_triedPair bf_seatOf bf_one bf_other bf_kind bf_years bf_sawn nw_seatOf nw_one nw_other nw_kind nw_years nw_sawn sc_seatOf sc_handle sc_both sc_slopOf sl_bits se_bestRow se_row se_pairAt se_hope se_hopeAt se_slopAt se_farBits se_gain se_worth ch_both ch_cost ch_bit cl_bits fi_sets ps_act ps_whom ps_amount i0_seatOf i0_one i0_other i0_kind i0_years i0_sawn i1_seatOf i1_one i1_other i1_kind i1_years i1_sawn i2_seatOf i2_one i2_other i2_kind i2_years i2_sawn : Nat → Int32} {rd_word : Int64} {R0 : Int32 × Int64} (hf : f_Reader_takeWord rd_tape rd_next rd_start rd_word = some R0) : xV l E yX7_takeWord cX7_takeWord 2 none 0 0 [.ref (ad 4)] (wX E ad x_imageCount x_lastTrouble x_lastFault x_lastPlace pa_names pa_faultNumber pa_faultPlace rd_tape rd_length rd_end rd_next rd_sort rd_start rd_value rd_word to_unsurePair to_unsureYears to_triedPair to_seats to_slack to_sawInches to_quarrelChance to_people to_forkBits to_unsure to_tried to_triedFedBits tf_seatOf tf_one tf_other tf_kind tf_years tf_sawn tf_pairs tf_gone bd_unsurePair bd_unsureYears bd_triedPair bd_seats bd_slack bd_sawInches bd_quarrelChance bd_people bd_forkBits bd_unsure bd_tried bd_triedFedBits bf_seatOf bf_one bf_other bf_kind bf_years bf_sawn bf_pairs bf_gone nw_seatOf nw_one nw_other nw_kind nw_years nw_sawn nw_pairs nw_gone sc_seatOf sc_handle sc_both sc_slopOf sc_forkBits sc_canBits sc_bestBits sc_bestSlops sl_bits sl_count se_bestRow se_row se_pairAt se_hope se_hopeAt se_slopAt se_farBits se_gain se_worth se_bestWorth se_fresh ch_both ch_cost ch_bit ch_items ch_leastCost ch_leastBits cl_bits cl_count fi_sets fi_count ps_act ps_whom ps_amount ps_next ps_count i0_seatOf i0_one i0_other i0_kind i0_years i0_sawn i0_pairs i0_gone i1_seatOf i1_one i1_other i1_kind i1_years i1_sawn i1_pairs i1_gone i2_seatOf i2_one i2_other i2_kind i2_years i2_sawn i2_pairs i2_gone) (wX E ad x_imageCount x_lastTrouble x_lastFault x_lastPlace pa_names pa_faultNumber pa_faultPlace rd_tape rd_length rd_end rd_next R0.1 rd_start rd_value R0.2 to_unsurePair to_unsureYears to_triedPair to_seats to_slack to_sawInches to_quarrelChance to_people to_forkBits to_unsure to_tried to_triedFedBits tf_seatOf tf_one tf_other tf_kind tf_years tf_sawn tf_pairs tf_gone bd_unsurePair bd_unsureYears bd_triedPair bd_seats bd_slack bd_sawInches bd_quarrelChance bd_people bd_forkBits bd_unsure bd_tried bd_triedFedBits bf_seatOf bf_one bf_other bf_kind bf_years bf_sawn bf_pairs bf_gone nw_seatOf nw_one nw_other nw_kind nw_years nw_sawn nw_pairs nw_gone sc_seatOf sc_handle sc_both sc_slopOf sc_forkBits sc_canBits sc_bestBits sc_bestSlops sl_bits sl_count se_bestRow se_row se_pairAt se_hope se_hopeAt se_slopAt se_farBits se_gain se_worth se_bestWorth se_fresh ch_both ch_cost ch_bit ch_items ch_leastCost ch_leastBits cl_bits cl_count fi_sets fi_count ps_act ps_whom ps_amount ps_next ps_count i0_seatOf i0_one i0_other i0_kind i0_years i0_sawn i0_pairs i0_gone i1_seatOf i1_one i1_other i1_kind i1_years i1_sawn i1_pairs i1_gone i2_seatOf i2_one i2_other i2_kind i2_years i2_sawn i2_pairs i2_gone) := by
  refine xV_of (by decide) (Nat.le_of_ble_eq_true rfl) (fun p e s m args below meth c A C ls hl G => ?_)
  have hx := C.1
  have hb := C.2.1
  have hl : lv_has ls 2 [(0, .ref (ad 4))] := hl
  unfold f_Reader_takeWord at hf
  refine lv_aload_n hx hb dX7_takeWord_0 rfl (lv_at hl 0 rfl) ?_
  refine lv_aload_n hx hb dX7_takeWord_1 rfl (lv_at hl 0 rfl) ?_
  refine x_get C G fX7_28.g (wX_at4) rfl dX7_takeWord_2 ?_
  refine lv_aload_n hx hb dX7_takeWord_5 rfl (lv_at hl 0 rfl) ?_
  refine x_get C G fX7_38.g (wX_at4) rfl dX7_takeWord_6 ?_
  refine lv_isub hx hb dX7_takeWord_9 ?_
  refine lv_bipush (v := 8) hx hb dX7_takeWord_10 (by decide) ?_
  obtain ⟨x1, hrx1, hf⟩ := bd_go hf
  have Jx1 : ∀ (H : Heap) (locs : List Loc) (ls : Array Slot), xG s E A (wX E ad x_imageCount x_lastTrouble x_lastFault x_lastPlace pa_names pa_faultNumber pa_faultPlace rd_tape rd_length rd_end rd_next rd_sort rd_start rd_value rd_word to_unsurePair to_unsureYears to_triedPair to_seats to_slack to_sawInches to_quarrelChance to_people to_forkBits to_unsure to_tried to_triedFedBits tf_seatOf tf_one tf_other tf_kind tf_years tf_sawn tf_pairs tf_gone bd_unsurePair bd_unsureYears bd_triedPair bd_seats bd_slack bd_sawInches bd_quarrelChance bd_people bd_forkBits bd_unsure bd_tried bd_triedFedBits bf_seatOf bf_one bf_other bf_kind bf_years bf_sawn bf_pairs bf_gone nw_seatOf nw_one nw_other nw_kind nw_years nw_sawn nw_pairs nw_gone sc_seatOf sc_handle sc_both sc_slopOf sc_forkBits sc_canBits sc_bestBits sc_bestSlops sl_bits sl_count se_bestRow se_row se_pairAt se_hope se_hopeAt se_slopAt se_farBits se_gain se_worth se_bestWorth se_fresh ch_both ch_cost ch_bit ch_items ch_leastCost ch_leastBits cl_bits cl_count fi_sets fi_count ps_act ps_whom ps_amount ps_next ps_count i0_seatOf i0_one i0_other i0_kind i0_years i0_sawn i0_pairs i0_gone i1_seatOf i1_one i1_other i1_kind i1_years i1_sawn i1_pairs i1_gone i2_seatOf i2_one i2_other i2_kind i2_years i2_sawn i2_pairs i2_gone) H locs → lv_has ls 2 [(0, .ref (ad 4))] → W p l e (xR 0 0) s m args below meth c H locs 0 0 (MQ below (xqV E A (wX E ad x_imageCount x_lastTrouble x_lastFault x_lastPlace pa_names pa_faultNumber pa_faultPlace rd_tape rd_length rd_end rd_next R0.1 rd_start rd_value R0.2 to_unsurePair to_unsureYears to_triedPair to_seats to_slack to_sawInches to_quarrelChance to_people to_forkBits to_unsure to_tried to_triedFedBits tf_seatOf tf_one tf_other tf_kind tf_years tf_sawn tf_pairs tf_gone bd_unsurePair bd_unsureYears bd_triedPair bd_seats bd_slack bd_sawInches bd_quarrelChance bd_people bd_forkBits bd_unsure bd_tried bd_triedFedBits bf_seatOf bf_one bf_other bf_kind bf_years bf_sawn bf_pairs bf_gone nw_seatOf nw_one nw_other nw_kind nw_years nw_sawn nw_pairs nw_gone sc_seatOf sc_handle sc_both sc_slopOf sc_forkBits sc_canBits sc_bestBits sc_bestSlops sl_bits sl_count se_bestRow se_row se_pairAt se_hope se_hopeAt se_slopAt se_farBits se_gain se_worth se_bestWorth se_fresh ch_both ch_cost ch_bit ch_items ch_leastCost ch_leastBits cl_bits cl_count fi_sets fi_count ps_act ps_whom ps_amount ps_next ps_count i0_seatOf i0_one i0_other i0_kind i0_years i0_sawn i0_pairs i0_gone i1_seatOf i1_one i1_other i1_kind i1_years i1_sawn i1_pairs i1_gone i2_seatOf i2_one i2_other i2_kind i2_years i2_sawn i2_pairs i2_gone)) args s 0 0 A) (F0 m 20 ls [.int x1, .ref (ad 4)]) := by
    intro H locs ls G hl
    refine x_put (ws' := (wX E ad x_imageCount x_lastTrouble x_lastFault x_lastPlace pa_names pa_faultNumber pa_faultPlace rd_tape rd_length rd_end rd_next x1 rd_start rd_value rd_word to_unsurePair to_unsureYears to_triedPair to_seats to_slack to_sawInches to_quarrelChance to_people to_forkBits to_unsure to_tried to_triedFedBits tf_seatOf tf_one tf_other tf_kind tf_years tf_sawn tf_pairs tf_gone bd_unsurePair bd_unsureYears bd_triedPair bd_seats bd_slack bd_sawInches bd_quarrelChance bd_people bd_forkBits bd_unsure bd_tried bd_triedFedBits bf_seatOf bf_one bf_other bf_kind bf_years bf_sawn bf_pairs bf_gone nw_seatOf nw_one nw_other nw_kind nw_years nw_sawn nw_pairs nw_gone sc_seatOf sc_handle sc_both sc_slopOf sc_forkBits sc_canBits sc_bestBits sc_bestSlops sl_bits sl_count se_bestRow se_row se_pairAt se_hope se_hopeAt se_slopAt se_farBits se_gain se_worth se_bestWorth se_fresh ch_both ch_cost ch_bit ch_items ch_leastCost ch_leastBits cl_bits cl_count fi_sets fi_count ps_act ps_whom ps_amount ps_next ps_count i0_seatOf i0_one i0_other i0_kind i0_years i0_sawn i0_pairs i0_gone i1_seatOf i1_one i1_other i1_kind i1_years i1_sawn i1_pairs i1_gone i2_seatOf i2_one i2_other i2_kind i2_years i2_sawn i2_pairs i2_gone)) C G fX7_48 (wX_at4) rfl rfl (Nat.le_of_ble_eq_true rfl) wX_set_rd_sort dX7_takeWord_20 (fun H locs G => ?_)
    refine lv_aload_n hx hb dX7_takeWord_23 rfl (lv_at hl 0 rfl) ?_
    refine x_get C G fX7_38.g (wX_at4) rfl dX7_takeWord_24 ?_
    refine lv_istore_n (lv' := [(1, .int rd_start), (0, .ref (ad 4))]) hx hb dX7_takeWord_27 rfl hl (by decide) rfl (fun ls hl => ?_)
    obtain ⟨x5, hr, hf⟩ := bd_go hf
    have Jx5 : ∀ (H : Heap) (locs : List Loc) (ls : Array Slot), xG s E A (wX E ad x_imageCount x_lastTrouble x_lastFault x_lastPlace pa_names pa_faultNumber pa_faultPlace rd_tape rd_length rd_end rd_next x1 rd_start rd_value x5 to_unsurePair to_unsureYears to_triedPair to_seats to_slack to_sawInches to_quarrelChance to_people to_forkBits to_unsure to_tried to_triedFedBits tf_seatOf tf_one tf_other tf_kind tf_years tf_sawn tf_pairs tf_gone bd_unsurePair bd_unsureYears bd_triedPair bd_seats bd_slack bd_sawInches bd_quarrelChance bd_people bd_forkBits bd_unsure bd_tried bd_triedFedBits bf_seatOf bf_one bf_other bf_kind bf_years bf_sawn bf_pairs bf_gone nw_seatOf nw_one nw_other nw_kind nw_years nw_sawn nw_pairs nw_gone sc_seatOf sc_handle sc_both sc_slopOf sc_forkBits sc_canBits sc_bestBits sc_bestSlops sl_bits sl_count se_bestRow se_row se_pairAt se_hope se_hopeAt se_slopAt se_farBits se_gain se_worth se_bestWorth se_fresh ch_both ch_cost ch_bit ch_items ch_leastCost ch_leastBits cl_bits cl_count fi_sets fi_count ps_act ps_whom ps_amount ps_next ps_count i0_seatOf i0_one i0_other i0_kind i0_years i0_sawn i0_pairs i0_gone i1_seatOf i1_one i1_other i1_kind i1_years i1_sawn i1_pairs i1_gone i2_seatOf i2_one i2_other i2_kind i2_years i2_sawn i2_pairs i2_gone) H locs → lv_has ls 2 [] → W p l e (xR 0 0) s m args below meth c H locs 0 0 (MQ below (xqV E A (wX E ad x_imageCount x_lastTrouble x_lastFault x_lastPlace pa_names pa_faultNumber pa_faultPlace rd_tape rd_length rd_end rd_next R0.1 rd_start rd_value R0.2 to_unsurePair to_unsureYears to_triedPair to_seats to_slack to_sawInches to_quarrelChance to_people to_forkBits to_unsure to_tried to_triedFedBits tf_seatOf tf_one tf_other tf_kind tf_years tf_sawn tf_pairs tf_gone bd_unsurePair bd_unsureYears bd_triedPair bd_seats bd_slack bd_sawInches bd_quarrelChance bd_people bd_forkBits bd_unsure bd_tried bd_triedFedBits bf_seatOf bf_one bf_other bf_kind bf_years bf_sawn bf_pairs bf_gone nw_seatOf nw_one nw_other nw_kind nw_years nw_sawn nw_pairs nw_gone sc_seatOf sc_handle sc_both sc_slopOf sc_forkBits sc_canBits sc_bestBits sc_bestSlops sl_bits sl_count se_bestRow se_row se_pairAt se_hope se_hopeAt se_slopAt se_farBits se_gain se_worth se_bestWorth se_fresh ch_both ch_cost ch_bit ch_items ch_leastCost ch_leastBits cl_bits cl_count fi_sets fi_count ps_act ps_whom ps_amount ps_next ps_count i0_seatOf i0_one i0_other i0_kind i0_years i0_sawn i0_pairs i0_gone i1_seatOf i1_one i1_other i1_kind i1_years i1_sawn i1_pairs i1_gone i2_seatOf i2_one i2_other i2_kind i2_years i2_sawn i2_pairs i2_gone)) args s 0 0 A) (F0 m 69 ls []) := by
      intro H locs ls G hl
      obtain rfl := Option.some.inj hf
      exact xV_ret C G dX7_takeWord_69
    exact w_Reader_takeWord_rd_L28 C Jx5 fu _ _ _ _ _ G (lv_sub hl [1, 0] rfl) hr
  have hf := hrx1
  refine lv_icmp_gt (tgt := 19) hx hb dX7_takeWord_12 (by decide) (fun h => ?_) (fun h => ?_)
  · have hf := it_t h hf
    refine lv_iconst (v := 4) hx hb dX7_takeWord_19 (by decide) ?_
    obtain rfl := Option.some.inj hf
    exact Jx1 _ _ _ G (lv_sub hl [0] rfl)
  · have hf := it_f h hf
    refine lv_iconst (v := 1) hx hb dX7_takeWord_15 (by decide) ?_
    refine lv_goto (tgt := 20) hx hb dX7_takeWord_16 (by decide) ?_
    obtain rfl := Option.some.inj hf
    exact Jx1 _ _ _ G (lv_sub hl [0] rfl)
set_option maxHeartbeats 4000000 in
set_option maxRecDepth 100000 in
theorem w_Reader_takeWhole_rd_L27 {p : Program} {l : Launch} {e : Env} {s : State} {m : MethodId} {args : Array Value} {below : List Frame} {meth : Method} {c : Code} {A : Nat → Prop} {E : xE} {Q : State → Prop} {ad : Nat → Nat} {x_imageCount x_lastTrouble x_lastFault x_lastPlace pa_faultNumber pa_faultPlace rd_length rd_end rd_next rd_sort rd_start to_seats to_slack to_sawInches to_quarrelChance to_people to_forkBits to_unsure to_tried to_triedFedBits tf_pairs tf_gone bd_seats bd_slack bd_sawInches bd_quarrelChance bd_people bd_forkBits bd_unsure bd_tried bd_triedFedBits bf_pairs bf_gone nw_pairs nw_gone sc_forkBits sc_canBits sc_bestBits sc_bestSlops sl_count se_bestWorth se_fresh ch_items ch_leastCost ch_leastBits cl_count fi_count ps_next ps_count i0_pairs i0_gone i1_pairs i1_gone i2_pairs i2_gone : Int32} {pa_names : Nat → Int64} {rd_tape to_unsurePair to_unsureYears to_triedPair tf_seatOf tf_one tf_other tf_kind tf_years tf_sawn bd_unsurePair bd_unsureYears bd_triedPair bf_seatOf bf_one bf_other bf_kind bf_years bf_sawn nw_seatOf nw_one nw_other nw_kind nw_years nw_sawn sc_seatOf sc_handle sc_both sc_slopOf sl_bits se_bestRow se_row se_pairAt se_hope se_hopeAt se_slopAt se_farBits se_gain se_worth ch_both ch_cost ch_bit cl_bits fi_sets ps_act ps_whom ps_amount i0_seatOf i0_one i0_other i0_kind i0_years i0_sawn i1_seatOf i1_one i1_other i1_kind i1_years i1_sawn i2_seatOf i2_one i2_other i2_kind i2_years i2_sawn : Nat → Int32} {rd_word : Int64} {o : Int32} (C : xC p s m args meth c cX7_takeWhole 2 RX7 E A none) (J : ∀ (H : Heap) (locs : List Loc) (ls : Array Slot), xG s E A (wX E ad x_imageCount x_lastTrouble x_lastFault x_lastPlace pa_names pa_faultNumber pa_faultPlace rd_tape rd_length rd_end rd_next rd_sort rd_start o rd_word to_unsurePair to_unsureYears to_triedPair to_seats to_slack to_sawInches to_quarrelChance to_people to_forkBits to_unsure to_tried to_triedFedBits tf_seatOf tf_one tf_other tf_kind tf_years tf_sawn tf_pairs tf_gone bd_unsurePair bd_unsureYears bd_triedPair bd_seats bd_slack bd_sawInches bd_quarrelChance bd_people bd_forkBits bd_unsure bd_tried bd_triedFedBits bf_seatOf bf_one bf_other bf_kind bf_years bf_sawn bf_pairs bf_gone nw_seatOf nw_one nw_other nw_kind nw_years nw_sawn nw_pairs nw_gone sc_seatOf sc_handle sc_both sc_slopOf sc_forkBits sc_canBits sc_bestBits sc_bestSlops sl_bits sl_count se_bestRow se_row se_pairAt se_hope se_hopeAt se_slopAt se_farBits se_gain se_worth se_bestWorth se_fresh ch_both ch_cost ch_bit ch_items ch_leastCost ch_leastBits cl_bits cl_count fi_sets fi_count ps_act ps_whom ps_amount ps_next ps_count i0_seatOf i0_one i0_other i0_kind i0_years i0_sawn i0_pairs i0_gone i1_seatOf i1_one i1_other i1_kind i1_years i1_sawn i1_pairs i1_gone i2_seatOf i2_one i2_other i2_kind i2_years i2_sawn i2_pairs i2_gone) H locs → lv_has ls 2 [] → W p l e (xR 0 0) s m args below meth c H locs 0 0 Q (F0 m 70 ls [])) :
    ∀ (n : Nat) (l1 : Int32) (rd_value : Int32) (H : Heap) (locs : List Loc) (ls : Array Slot), xG s E A (wX E ad x_imageCount x_lastTrouble x_lastFault x_lastPlace pa_names pa_faultNumber pa_faultPlace rd_tape rd_length rd_end rd_next rd_sort rd_start rd_value rd_word to_unsurePair to_unsureYears to_triedPair to_seats to_slack to_sawInches to_quarrelChance to_people to_forkBits to_unsure to_tried to_triedFedBits tf_seatOf tf_one tf_other tf_kind tf_years tf_sawn tf_pairs tf_gone bd_unsurePair bd_unsureYears bd_triedPair bd_seats bd_slack bd_sawInches bd_quarrelChance bd_people bd_forkBits bd_unsure bd_tried bd_triedFedBits bf_seatOf bf_one bf_other bf_kind bf_years bf_sawn bf_pairs bf_gone nw_seatOf nw_one nw_other nw_kind nw_years nw_sawn nw_pairs nw_gone sc_seatOf sc_handle sc_both sc_slopOf sc_forkBits sc_canBits sc_bestBits sc_bestSlops sl_bits sl_count se_bestRow se_row se_pairAt se_hope se_hopeAt se_slopAt se_farBits se_gain se_worth se_bestWorth se_fresh ch_both ch_cost ch_bit ch_items ch_leastCost ch_leastBits cl_bits cl_count fi_sets fi_count ps_act ps_whom ps_amount ps_next ps_count i0_seatOf i0_one i0_other i0_kind i0_years i0_sawn i0_pairs i0_gone i1_seatOf i1_one i1_other i1_kind i1_years i1_sawn i1_pairs i1_gone i2_seatOf i2_one i2_other i2_kind i2_years i2_sawn i2_pairs i2_gone) H locs → lv_has ls 2 [(0, .ref (ad 4)), (1, .int l1)] → f_Reader_takeWhole_L27 rd_tape rd_next rd_sort n l1 rd_value = some o → W p l e (xR 0 0) s m args below meth c H locs 0 0 Q (F0 m 27 ls []) := by
  have hx := C.1
  have hb := C.2.1
  intro n
  induction n with
  | zero =>
    intro l1 rd_value H locs ls G hl hf
    exact nomatch (show (none : Option (Int32)) = some o from hf)
  | succ n ih =>
    intro l1 rd_value H locs ls G hl hf
    rw [f_Reader_takeWhole_L27] at hf
    refine lv_iload_n hx hb dX7_takeWhole_27 rfl (lv_at hl 1 rfl) ?_
    refine lv_aload_n hx hb dX7_takeWhole_28 rfl (lv_at hl 0 rfl) ?_
    refine x_get C G fX7_28.g (wX_at4) rfl dX7_takeWhole_29 ?_
    obtain ⟨b2, hr, hf⟩ := bd_go hf
    cases b2 with
    | true =>
      have hf := it_t rfl hf
      have J : ∀ (H : Heap) (locs : List Loc), xG s E A (wX E ad x_imageCount x_lastTrouble x_lastFault x_lastPlace pa_names pa_faultNumber pa_faultPlace rd_tape rd_length rd_end rd_next rd_sort rd_start rd_value rd_word to_unsurePair to_unsureYears to_triedPair to_seats to_slack to_sawInches to_quarrelChance to_people to_forkBits to_unsure to_tried to_triedFedBits tf_seatOf tf_one tf_other tf_kind tf_years tf_sawn tf_pairs tf_gone bd_unsurePair bd_unsureYears bd_triedPair bd_seats bd_slack bd_sawInches bd_quarrelChance bd_people bd_forkBits bd_unsure bd_tried bd_triedFedBits bf_seatOf bf_one bf_other bf_kind bf_years bf_sawn bf_pairs bf_gone nw_seatOf nw_one nw_other nw_kind nw_years nw_sawn nw_pairs nw_gone sc_seatOf sc_handle sc_both sc_slopOf sc_forkBits sc_canBits sc_bestBits sc_bestSlops sl_bits sl_count se_bestRow se_row se_pairAt se_hope se_hopeAt se_slopAt se_farBits se_gain se_worth se_bestWorth se_fresh ch_both ch_cost ch_bit ch_items ch_leastCost ch_leastBits cl_bits cl_count fi_sets fi_count ps_act ps_whom ps_amount ps_next ps_count i0_seatOf i0_one i0_other i0_kind i0_years i0_sawn i0_pairs i0_gone i1_seatOf i1_one i1_other i1_kind i1_years i1_sawn i1_pairs i1_gone i2_seatOf i2_one i2_other i2_kind i2_years i2_sawn i2_pairs i2_gone) H locs → W p l e (xR 0 0) s m args below meth c H locs 0 0 Q (F0 m 70 ls []) := by
        intro H locs G
        obtain rfl := Option.some.inj hf
        exact J _ _ _ G (lv_sub hl [] rfl)
      have hf := hr
      clear hr
      refine lv_icmp_ge (tgt := 70) hx hb dX7_takeWhole_32 (by decide) (fun h => ?_) (fun h => ?_)
      · have hf := it_t h hf
        exact J _ _ G
      · have hf := it_f h hf
        refine lv_aload_n hx hb dX7_takeWhole_35 rfl (lv_at hl 0 rfl) ?_
        refine x_get C G fX7_48.g (wX_at4) rfl dX7_takeWhole_36 ?_
        refine lv_iconst (v := 2) hx hb dX7_takeWhole_39 (by decide) ?_
        refine lv_icmp_ne (tgt := 70) hx hb dX7_takeWhole_40 (by decide) (fun h => ?_) (fun h => ?_)
        · have hf := it_f h hf
          exact J _ _ G
        · have hf := it_t h hf
          exact absurd (Option.some.inj hf) (by decide)
    | false =>
      have hf := it_f (by decide) hf
      have J : ∀ (H : Heap) (locs : List Loc), xG s E A (wX E ad x_imageCount x_lastTrouble x_lastFault x_lastPlace pa_names pa_faultNumber pa_faultPlace rd_tape rd_length rd_end rd_next rd_sort rd_start rd_value rd_word to_unsurePair to_unsureYears to_triedPair to_seats to_slack to_sawInches to_quarrelChance to_people to_forkBits to_unsure to_tried to_triedFedBits tf_seatOf tf_one tf_other tf_kind tf_years tf_sawn tf_pairs tf_gone bd_unsurePair bd_unsureYears bd_triedPair bd_seats bd_slack bd_sawInches bd_quarrelChance bd_people bd_forkBits bd_unsure bd_tried bd_triedFedBits bf_seatOf bf_one bf_other bf_kind bf_years bf_sawn bf_pairs bf_gone nw_seatOf nw_one nw_other nw_kind nw_years nw_sawn nw_pairs nw_gone sc_seatOf sc_handle sc_both sc_slopOf sc_forkBits sc_canBits sc_bestBits sc_bestSlops sl_bits sl_count se_bestRow se_row se_pairAt se_hope se_hopeAt se_slopAt se_farBits se_gain se_worth se_bestWorth se_fresh ch_both ch_cost ch_bit ch_items ch_leastCost ch_leastBits cl_bits cl_count fi_sets fi_count ps_act ps_whom ps_amount ps_next ps_count i0_seatOf i0_one i0_other i0_kind i0_years i0_sawn i0_pairs i0_gone i1_seatOf i1_one i1_other i1_kind i1_years i1_sawn i1_pairs i1_gone i2_seatOf i2_one i2_other i2_kind i2_years i2_sawn i2_pairs i2_gone) H locs → W p l e (xR 0 0) s m args below meth c H locs 0 0 Q (F0 m 43 ls []) := by
        intro H locs G
        refine lv_aload_n hx hb dX7_takeWhole_43 rfl (lv_at hl 0 rfl) ?_
        refine lv_aload_n hx hb dX7_takeWhole_44 rfl (lv_at hl 0 rfl) ?_
        refine x_get C G fX7_41.g (wX_at4) rfl dX7_takeWhole_45 ?_
        refine lv_bipush (v := 10) hx hb dX7_takeWhole_48 (by decide) ?_
        refine lv_imul hx hb dX7_takeWhole_50 ?_
        refine lv_aload_n hx hb dX7_takeWhole_51 rfl (lv_at hl 0 rfl) ?_
        refine x_get C G fX7_9 (wX_at4) rfl dX7_takeWhole_52 ?_
        refine lv_iload_n hx hb dX7_takeWhole_55 rfl (lv_at hl 1 rfl) ?_
        have hi := ck_in hf
        have hf := ck_go hf
        refine x_bald C G (wX_at5) hi dX7_takeWhole_56 ?_
        refine lv_bipush (v := 48) hx hb dX7_takeWhole_57 (by decide) ?_
        refine lv_isub hx hb dX7_takeWhole_59 ?_
        refine lv_iadd hx hb dX7_takeWhole_60 ?_
        refine lv_topi (fun x3 ex3 => ?_)
        have hf := lt_go ex3 hf
        refine x_put (ws' := (wX E ad x_imageCount x_lastTrouble x_lastFault x_lastPlace pa_names pa_faultNumber pa_faultPlace rd_tape rd_length rd_end rd_next rd_sort rd_start x3 rd_word to_unsurePair to_unsureYears to_triedPair to_seats to_slack to_sawInches to_quarrelChance to_people to_forkBits to_unsure to_tried to_triedFedBits tf_seatOf tf_one tf_other tf_kind tf_years tf_sawn tf_pairs tf_gone bd_unsurePair bd_unsureYears bd_triedPair bd_seats bd_slack bd_sawInches bd_quarrelChance bd_people bd_forkBits bd_unsure bd_tried bd_triedFedBits bf_seatOf bf_one bf_other bf_kind bf_years bf_sawn bf_pairs bf_gone nw_seatOf nw_one nw_other nw_kind nw_years nw_sawn nw_pairs nw_gone sc_seatOf sc_handle sc_both sc_slopOf sc_forkBits sc_canBits sc_bestBits sc_bestSlops sl_bits sl_count se_bestRow se_row se_pairAt se_hope se_hopeAt se_slopAt se_farBits se_gain se_worth se_bestWorth se_fresh ch_both ch_cost ch_bit ch_items ch_leastCost ch_leastBits cl_bits cl_count fi_sets fi_count ps_act ps_whom ps_amount ps_next ps_count i0_seatOf i0_one i0_other i0_kind i0_years i0_sawn i0_pairs i0_gone i1_seatOf i1_one i1_other i1_kind i1_years i1_sawn i1_pairs i1_gone i2_seatOf i2_one i2_other i2_kind i2_years i2_sawn i2_pairs i2_gone)) C G fX7_41 (wX_at4) rfl rfl (Nat.le_of_ble_eq_true rfl) wX_set_rd_value dX7_takeWhole_61 (fun H locs G => ?_)
        obtain ⟨x4, ex4⟩ : ∃ z : Int32, z = l1 + (1 : Int32) := ⟨_, rfl⟩
        have hf := lt_go ex4 hf
        refine lv_iinc (v := x4) (lv' := [(1, .int x4), (0, .ref (ad 4))]) hx hb dX7_takeWhole_64 hl (k := 1) rfl (by rw [ex4]; rfl) (by decide) rfl (fun ls hl => ?_)
        refine lv_goto (tgt := 27) hx hb dX7_takeWhole_67 (by decide) ?_
        exact ih x4 x3 _ _ _ G (lv_sub hl [1, 0] rfl) hf
      have hf := hr
      clear hr
      refine lv_icmp_ge (tgt := 70) hx hb dX7_takeWhole_32 (by decide) (fun h => ?_) (fun h => ?_)
      · have hf := it_t h hf
        exact absurd (Option.some.inj hf) (by decide)
      · have hf := it_f h hf
        refine lv_aload_n hx hb dX7_takeWhole_35 rfl (lv_at hl 0 rfl) ?_
        refine x_get C G fX7_48.g (wX_at4) rfl dX7_takeWhole_36 ?_
        refine lv_iconst (v := 2) hx hb dX7_takeWhole_39 (by decide) ?_
        refine lv_icmp_ne (tgt := 70) hx hb dX7_takeWhole_40 (by decide) (fun h => ?_) (fun h => ?_)
        · have hf := it_f h hf
          exact absurd (Option.some.inj hf) (by decide)
        · have hf := it_t h hf
          exact J _ _ G
set_option maxHeartbeats 4000000 in
set_option maxRecDepth 100000 in
theorem c_Reader_takeWhole_rd {l : Launch} {E : xE} {ad : Nat → Nat} {x_imageCount x_lastTrouble x_lastFault x_lastPlace pa_faultNumber pa_faultPlace rd_length rd_end rd_next rd_sort rd_start rd_value to_seats to_slack to_sawInches to_quarrelChance to_people to_forkBits to_unsure to_tried to_triedFedBits tf_pairs tf_gone bd_seats bd_slack bd_sawInches bd_quarrelChance bd_people bd_forkBits bd_unsure bd_tried bd_triedFedBits bf_pairs bf_gone nw_pairs nw_gone sc_forkBits sc_canBits sc_bestBits sc_bestSlops sl_count se_bestWorth se_fresh ch_items ch_leastCost ch_leastBits cl_count fi_count ps_next ps_count i0_pairs i0_gone i1_pairs i1_gone i2_pairs i2_gone : Int32} {pa_names : Nat → Int64} {rd_tape to_unsurePair to_unsureYears to_triedPair tf_seatOf tf_one tf_other tf_kind tf_years tf_sawn bd_unsurePair bd_unsureYears bd_triedPair bf_seatOf bf_one bf_other bf_kind bf_years bf_sawn nw_seatOf nw_one nw_other nw_kind nw_years nw_sawn sc_seatOf sc_handle sc_both sc_slopOf sl_bits se_bestRow se_row se_pairAt se_hope se_hopeAt se_slopAt se_farBits se_gain se_worth ch_both ch_cost ch_bit cl_bits fi_sets ps_act ps_whom ps_amount i0_seatOf i0_one i0_other i0_kind i0_years i0_sawn i1_seatOf i1_one i1_other i1_kind i1_years i1_sawn i2_seatOf i2_one i2_other i2_kind i2_years i2_sawn : Nat → Int32} {rd_word : Int64} {R0 : Int32 × Int32} (hf : f_Reader_takeWhole rd_tape rd_next rd_start rd_value = some R0) : xV l E yX7_takeWhole cX7_takeWhole 2 none 0 0 [.ref (ad 4)] (wX E ad x_imageCount x_lastTrouble x_lastFault x_lastPlace pa_names pa_faultNumber pa_faultPlace rd_tape rd_length rd_end rd_next rd_sort rd_start rd_value rd_word to_unsurePair to_unsureYears to_triedPair to_seats to_slack to_sawInches to_quarrelChance to_people to_forkBits to_unsure to_tried to_triedFedBits tf_seatOf tf_one tf_other tf_kind tf_years tf_sawn tf_pairs tf_gone bd_unsurePair bd_unsureYears bd_triedPair bd_seats bd_slack bd_sawInches bd_quarrelChance bd_people bd_forkBits bd_unsure bd_tried bd_triedFedBits bf_seatOf bf_one bf_other bf_kind bf_years bf_sawn bf_pairs bf_gone nw_seatOf nw_one nw_other nw_kind nw_years nw_sawn nw_pairs nw_gone sc_seatOf sc_handle sc_both sc_slopOf sc_forkBits sc_canBits sc_bestBits sc_bestSlops sl_bits sl_count se_bestRow se_row se_pairAt se_hope se_hopeAt se_slopAt se_farBits se_gain se_worth se_bestWorth se_fresh ch_both ch_cost ch_bit ch_items ch_leastCost ch_leastBits cl_bits cl_count fi_sets fi_count ps_act ps_whom ps_amount ps_next ps_count i0_seatOf i0_one i0_other i0_kind i0_years i0_sawn i0_pairs i0_gone i1_seatOf i1_one i1_other i1_kind i1_years i1_sawn i1_pairs i1_gone i2_seatOf i2_one i2_other i2_kind i2_years i2_sawn i2_pairs i2_gone) (wX E ad x_imageCount x_lastTrouble x_lastFault x_lastPlace pa_names pa_faultNumber pa_faultPlace rd_tape rd_length rd_end rd_next R0.1 rd_start R0.2 rd_word to_unsurePair to_unsureYears to_triedPair to_seats to_slack to_sawInches to_quarrelChance to_people to_forkBits to_unsure to_tried to_triedFedBits tf_seatOf tf_one tf_other tf_kind tf_years tf_sawn tf_pairs tf_gone bd_unsurePair bd_unsureYears bd_triedPair bd_seats bd_slack bd_sawInches bd_quarrelChance bd_people bd_forkBits bd_unsure bd_tried bd_triedFedBits bf_seatOf bf_one bf_other bf_kind bf_years bf_sawn bf_pairs bf_gone nw_seatOf nw_one nw_other nw_kind nw_years nw_sawn nw_pairs nw_gone sc_seatOf sc_handle sc_both sc_slopOf sc_forkBits sc_canBits sc_bestBits sc_bestSlops sl_bits sl_count se_bestRow se_row se_pairAt se_hope se_hopeAt se_slopAt se_farBits se_gain se_worth se_bestWorth se_fresh ch_both ch_cost ch_bit ch_items ch_leastCost ch_leastBits cl_bits cl_count fi_sets fi_count ps_act ps_whom ps_amount ps_next ps_count i0_seatOf i0_one i0_other i0_kind i0_years i0_sawn i0_pairs i0_gone i1_seatOf i1_one i1_other i1_kind i1_years i1_sawn i1_pairs i1_gone i2_seatOf i2_one i2_other i2_kind i2_years i2_sawn i2_pairs i2_gone) := by
  refine xV_of (by decide) (Nat.le_of_ble_eq_true rfl) (fun p e s m args below meth c A C ls hl G => ?_)
  have hx := C.1
  have hb := C.2.1
  have hl : lv_has ls 2 [(0, .ref (ad 4))] := hl
  unfold f_Reader_takeWhole at hf
  refine lv_aload_n hx hb dX7_takeWhole_0 rfl (lv_at hl 0 rfl) ?_
  refine lv_aload_n hx hb dX7_takeWhole_1 rfl (lv_at hl 0 rfl) ?_
  refine x_get C G fX7_28.g (wX_at4) rfl dX7_takeWhole_2 ?_
  refine lv_aload_n hx hb dX7_takeWhole_5 rfl (lv_at hl 0 rfl) ?_
  refine x_get C G fX7_38.g (wX_at4) rfl dX7_takeWhole_6 ?_
  refine lv_isub hx hb dX7_takeWhole_9 ?_
  refine lv_iconst (v := 3) hx hb dX7_takeWhole_10 (by decide) ?_
  obtain ⟨x1, hrx1, hf⟩ := bd_go hf
  have Jx1 : ∀ (H : Heap) (locs : List Loc) (ls : Array Slot), xG s E A (wX E ad x_imageCount x_lastTrouble x_lastFault x_lastPlace pa_names pa_faultNumber pa_faultPlace rd_tape rd_length rd_end rd_next rd_sort rd_start rd_value rd_word to_unsurePair to_unsureYears to_triedPair to_seats to_slack to_sawInches to_quarrelChance to_people to_forkBits to_unsure to_tried to_triedFedBits tf_seatOf tf_one tf_other tf_kind tf_years tf_sawn tf_pairs tf_gone bd_unsurePair bd_unsureYears bd_triedPair bd_seats bd_slack bd_sawInches bd_quarrelChance bd_people bd_forkBits bd_unsure bd_tried bd_triedFedBits bf_seatOf bf_one bf_other bf_kind bf_years bf_sawn bf_pairs bf_gone nw_seatOf nw_one nw_other nw_kind nw_years nw_sawn nw_pairs nw_gone sc_seatOf sc_handle sc_both sc_slopOf sc_forkBits sc_canBits sc_bestBits sc_bestSlops sl_bits sl_count se_bestRow se_row se_pairAt se_hope se_hopeAt se_slopAt se_farBits se_gain se_worth se_bestWorth se_fresh ch_both ch_cost ch_bit ch_items ch_leastCost ch_leastBits cl_bits cl_count fi_sets fi_count ps_act ps_whom ps_amount ps_next ps_count i0_seatOf i0_one i0_other i0_kind i0_years i0_sawn i0_pairs i0_gone i1_seatOf i1_one i1_other i1_kind i1_years i1_sawn i1_pairs i1_gone i2_seatOf i2_one i2_other i2_kind i2_years i2_sawn i2_pairs i2_gone) H locs → lv_has ls 2 [(0, .ref (ad 4))] → W p l e (xR 0 0) s m args below meth c H locs 0 0 (MQ below (xqV E A (wX E ad x_imageCount x_lastTrouble x_lastFault x_lastPlace pa_names pa_faultNumber pa_faultPlace rd_tape rd_length rd_end rd_next R0.1 rd_start R0.2 rd_word to_unsurePair to_unsureYears to_triedPair to_seats to_slack to_sawInches to_quarrelChance to_people to_forkBits to_unsure to_tried to_triedFedBits tf_seatOf tf_one tf_other tf_kind tf_years tf_sawn tf_pairs tf_gone bd_unsurePair bd_unsureYears bd_triedPair bd_seats bd_slack bd_sawInches bd_quarrelChance bd_people bd_forkBits bd_unsure bd_tried bd_triedFedBits bf_seatOf bf_one bf_other bf_kind bf_years bf_sawn bf_pairs bf_gone nw_seatOf nw_one nw_other nw_kind nw_years nw_sawn nw_pairs nw_gone sc_seatOf sc_handle sc_both sc_slopOf sc_forkBits sc_canBits sc_bestBits sc_bestSlops sl_bits sl_count se_bestRow se_row se_pairAt se_hope se_hopeAt se_slopAt se_farBits se_gain se_worth se_bestWorth se_fresh ch_both ch_cost ch_bit ch_items ch_leastCost ch_leastBits cl_bits cl_count fi_sets fi_count ps_act ps_whom ps_amount ps_next ps_count i0_seatOf i0_one i0_other i0_kind i0_years i0_sawn i0_pairs i0_gone i1_seatOf i1_one i1_other i1_kind i1_years i1_sawn i1_pairs i1_gone i2_seatOf i2_one i2_other i2_kind i2_years i2_sawn i2_pairs i2_gone)) args s 0 0 A) (F0 m 19 ls [.int x1, .ref (ad 4)]) := by
    intro H locs ls G hl
    refine x_put (ws' := (wX E ad x_imageCount x_lastTrouble x_lastFault x_lastPlace pa_names pa_faultNumber pa_faultPlace rd_tape rd_length rd_end rd_next x1 rd_start rd_value rd_word to_unsurePair to_unsureYears to_triedPair to_seats to_slack to_sawInches to_quarrelChance to_people to_forkBits to_unsure to_tried to_triedFedBits tf_seatOf tf_one tf_other tf_kind tf_years tf_sawn tf_pairs tf_gone bd_unsurePair bd_unsureYears bd_triedPair bd_seats bd_slack bd_sawInches bd_quarrelChance bd_people bd_forkBits bd_unsure bd_tried bd_triedFedBits bf_seatOf bf_one bf_other bf_kind bf_years bf_sawn bf_pairs bf_gone nw_seatOf nw_one nw_other nw_kind nw_years nw_sawn nw_pairs nw_gone sc_seatOf sc_handle sc_both sc_slopOf sc_forkBits sc_canBits sc_bestBits sc_bestSlops sl_bits sl_count se_bestRow se_row se_pairAt se_hope se_hopeAt se_slopAt se_farBits se_gain se_worth se_bestWorth se_fresh ch_both ch_cost ch_bit ch_items ch_leastCost ch_leastBits cl_bits cl_count fi_sets fi_count ps_act ps_whom ps_amount ps_next ps_count i0_seatOf i0_one i0_other i0_kind i0_years i0_sawn i0_pairs i0_gone i1_seatOf i1_one i1_other i1_kind i1_years i1_sawn i1_pairs i1_gone i2_seatOf i2_one i2_other i2_kind i2_years i2_sawn i2_pairs i2_gone)) C G fX7_48 (wX_at4) rfl rfl (Nat.le_of_ble_eq_true rfl) wX_set_rd_sort dX7_takeWhole_19 (fun H locs G => ?_)
    refine lv_aload_n hx hb dX7_takeWhole_22 rfl (lv_at hl 0 rfl) ?_
    refine x_get C G fX7_38.g (wX_at4) rfl dX7_takeWhole_23 ?_
    refine lv_istore_n (lv' := [(1, .int rd_start), (0, .ref (ad 4))]) hx hb dX7_takeWhole_26 rfl hl (by decide) rfl (fun ls hl => ?_)
    obtain ⟨x5, hr, hf⟩ := bd_go hf
    have Jx5 : ∀ (H : Heap) (locs : List Loc) (ls : Array Slot), xG s E A (wX E ad x_imageCount x_lastTrouble x_lastFault x_lastPlace pa_names pa_faultNumber pa_faultPlace rd_tape rd_length rd_end rd_next x1 rd_start x5 rd_word to_unsurePair to_unsureYears to_triedPair to_seats to_slack to_sawInches to_quarrelChance to_people to_forkBits to_unsure to_tried to_triedFedBits tf_seatOf tf_one tf_other tf_kind tf_years tf_sawn tf_pairs tf_gone bd_unsurePair bd_unsureYears bd_triedPair bd_seats bd_slack bd_sawInches bd_quarrelChance bd_people bd_forkBits bd_unsure bd_tried bd_triedFedBits bf_seatOf bf_one bf_other bf_kind bf_years bf_sawn bf_pairs bf_gone nw_seatOf nw_one nw_other nw_kind nw_years nw_sawn nw_pairs nw_gone sc_seatOf sc_handle sc_both sc_slopOf sc_forkBits sc_canBits sc_bestBits sc_bestSlops sl_bits sl_count se_bestRow se_row se_pairAt se_hope se_hopeAt se_slopAt se_farBits se_gain se_worth se_bestWorth se_fresh ch_both ch_cost ch_bit ch_items ch_leastCost ch_leastBits cl_bits cl_count fi_sets fi_count ps_act ps_whom ps_amount ps_next ps_count i0_seatOf i0_one i0_other i0_kind i0_years i0_sawn i0_pairs i0_gone i1_seatOf i1_one i1_other i1_kind i1_years i1_sawn i1_pairs i1_gone i2_seatOf i2_one i2_other i2_kind i2_years i2_sawn i2_pairs i2_gone) H locs → lv_has ls 2 [] → W p l e (xR 0 0) s m args below meth c H locs 0 0 (MQ below (xqV E A (wX E ad x_imageCount x_lastTrouble x_lastFault x_lastPlace pa_names pa_faultNumber pa_faultPlace rd_tape rd_length rd_end rd_next R0.1 rd_start R0.2 rd_word to_unsurePair to_unsureYears to_triedPair to_seats to_slack to_sawInches to_quarrelChance to_people to_forkBits to_unsure to_tried to_triedFedBits tf_seatOf tf_one tf_other tf_kind tf_years tf_sawn tf_pairs tf_gone bd_unsurePair bd_unsureYears bd_triedPair bd_seats bd_slack bd_sawInches bd_quarrelChance bd_people bd_forkBits bd_unsure bd_tried bd_triedFedBits bf_seatOf bf_one bf_other bf_kind bf_years bf_sawn bf_pairs bf_gone nw_seatOf nw_one nw_other nw_kind nw_years nw_sawn nw_pairs nw_gone sc_seatOf sc_handle sc_both sc_slopOf sc_forkBits sc_canBits sc_bestBits sc_bestSlops sl_bits sl_count se_bestRow se_row se_pairAt se_hope se_hopeAt se_slopAt se_farBits se_gain se_worth se_bestWorth se_fresh ch_both ch_cost ch_bit ch_items ch_leastCost ch_leastBits cl_bits cl_count fi_sets fi_count ps_act ps_whom ps_amount ps_next ps_count i0_seatOf i0_one i0_other i0_kind i0_years i0_sawn i0_pairs i0_gone i1_seatOf i1_one i1_other i1_kind i1_years i1_sawn i1_pairs i1_gone i2_seatOf i2_one i2_other i2_kind i2_years i2_sawn i2_pairs i2_gone)) args s 0 0 A) (F0 m 70 ls []) := by
      intro H locs ls G hl
      obtain rfl := Option.some.inj hf
      exact xV_ret C G dX7_takeWhole_70
    exact w_Reader_takeWhole_rd_L27 C Jx5 fu _ _ _ _ _ G (lv_sub hl [1, 0] rfl) hr
  have hf := hrx1
  refine lv_icmp_gt (tgt := 18) hx hb dX7_takeWhole_11 (by decide) (fun h => ?_) (fun h => ?_)
  · have hf := it_t h hf
    refine lv_iconst (v := 4) hx hb dX7_takeWhole_18 (by decide) ?_
    obtain rfl := Option.some.inj hf
    exact Jx1 _ _ _ G (lv_sub hl [0] rfl)
  · have hf := it_f h hf
    refine lv_iconst (v := 2) hx hb dX7_takeWhole_14 (by decide) ?_
    refine lv_goto (tgt := 19) hx hb dX7_takeWhole_15 (by decide) ?_
    obtain rfl := Option.some.inj hf
    exact Jx1 _ _ _ G (lv_sub hl [0] rfl)
set_option maxHeartbeats 4000000 in
set_option maxRecDepth 100000 in
theorem c_Reader_step_rd {l : Launch} {E : xE} {ad : Nat → Nat} {x_imageCount x_lastTrouble x_lastFault x_lastPlace pa_faultNumber pa_faultPlace rd_length rd_end rd_next rd_sort rd_start rd_value to_seats to_slack to_sawInches to_quarrelChance to_people to_forkBits to_unsure to_tried to_triedFedBits tf_pairs tf_gone bd_seats bd_slack bd_sawInches bd_quarrelChance bd_people bd_forkBits bd_unsure bd_tried bd_triedFedBits bf_pairs bf_gone nw_pairs nw_gone sc_forkBits sc_canBits sc_bestBits sc_bestSlops sl_count se_bestWorth se_fresh ch_items ch_leastCost ch_leastBits cl_count fi_count ps_next ps_count i0_pairs i0_gone i1_pairs i1_gone i2_pairs i2_gone : Int32} {pa_names : Nat → Int64} {rd_tape to_unsurePair to_unsureYears to_triedPair tf_seatOf tf_one tf_other tf_kind tf_years tf_sawn bd_unsurePair bd_unsureYears bd_triedPair bf_seatOf bf_one bf_other bf_kind bf_years bf_sawn nw_seatOf nw_one nw_other nw_kind nw_years nw_sawn sc_seatOf sc_handle sc_both sc_slopOf sl_bits se_bestRow se_row se_pairAt se_hope se_hopeAt se_slopAt se_farBits se_gain se_worth ch_both ch_cost ch_bit cl_bits fi_sets ps_act ps_whom ps_amount i0_seatOf i0_one i0_other i0_kind i0_years i0_sawn i1_seatOf i1_one i1_other i1_kind i1_years i1_sawn i2_seatOf i2_one i2_other i2_kind i2_years i2_sawn : Nat → Int32} {rd_word : Int64} {R0 : Int32 × Int32 × Int32 × Int32 × Int64} (hf : f_Reader_step rd_tape rd_end rd_next = some R0) : xV l E yX7_step cX7_step 2 none 1 24 [.ref (ad 4)] (wX E ad x_imageCount x_lastTrouble x_lastFault x_lastPlace pa_names pa_faultNumber pa_faultPlace rd_tape rd_length rd_end rd_next rd_sort rd_start rd_value rd_word to_unsurePair to_unsureYears to_triedPair to_seats to_slack to_sawInches to_quarrelChance to_people to_forkBits to_unsure to_tried to_triedFedBits tf_seatOf tf_one tf_other tf_kind tf_years tf_sawn tf_pairs tf_gone bd_unsurePair bd_unsureYears bd_triedPair bd_seats bd_slack bd_sawInches bd_quarrelChance bd_people bd_forkBits bd_unsure bd_tried bd_triedFedBits bf_seatOf bf_one bf_other bf_kind bf_years bf_sawn bf_pairs bf_gone nw_seatOf nw_one nw_other nw_kind nw_years nw_sawn nw_pairs nw_gone sc_seatOf sc_handle sc_both sc_slopOf sc_forkBits sc_canBits sc_bestBits sc_bestSlops sl_bits sl_count se_bestRow se_row se_pairAt se_hope se_hopeAt se_slopAt se_farBits se_gain se_worth se_bestWorth se_fresh ch_both ch_cost ch_bit ch_items ch_leastCost ch_leastBits cl_bits cl_count fi_sets fi_count ps_act ps_whom ps_amount ps_next ps_count i0_seatOf i0_one i0_other i0_kind i0_years i0_sawn i0_pairs i0_gone i1_seatOf i1_one i1_other i1_kind i1_years i1_sawn i1_pairs i1_gone i2_seatOf i2_one i2_other i2_kind i2_years i2_sawn i2_pairs i2_gone) (wX E ad x_imageCount x_lastTrouble x_lastFault x_lastPlace pa_names pa_faultNumber pa_faultPlace rd_tape rd_length rd_end R0.1 R0.2.1 R0.2.2.1 R0.2.2.2.1 R0.2.2.2.2 to_unsurePair to_unsureYears to_triedPair to_seats to_slack to_sawInches to_quarrelChance to_people to_forkBits to_unsure to_tried to_triedFedBits tf_seatOf tf_one tf_other tf_kind tf_years tf_sawn tf_pairs tf_gone bd_unsurePair bd_unsureYears bd_triedPair bd_seats bd_slack bd_sawInches bd_quarrelChance bd_people bd_forkBits bd_unsure bd_tried bd_triedFedBits bf_seatOf bf_one bf_other bf_kind bf_years bf_sawn bf_pairs bf_gone nw_seatOf nw_one nw_other nw_kind nw_years nw_sawn nw_pairs nw_gone sc_seatOf sc_handle sc_both sc_slopOf sc_forkBits sc_canBits sc_bestBits sc_bestSlops sl_bits sl_count se_bestRow se_row se_pairAt se_hope se_hopeAt se_slopAt se_farBits se_gain se_worth se_bestWorth se_fresh ch_both ch_cost ch_bit ch_items ch_leastCost ch_leastBits cl_bits cl_count fi_sets fi_count ps_act ps_whom ps_amount ps_next ps_count i0_seatOf i0_one i0_other i0_kind i0_years i0_sawn i0_pairs i0_gone i1_seatOf i1_one i1_other i1_kind i1_years i1_sawn i1_pairs i1_gone i2_seatOf i2_one i2_other i2_kind i2_years i2_sawn i2_pairs i2_gone) := by
  refine xV_of (by decide) (Nat.le_of_ble_eq_true rfl) (fun p e s m args below meth c A C ls hl G => ?_)
  have hx := C.1
  have hb := C.2.1
  have hl : lv_has ls 2 [(0, .ref (ad 4))] := hl
  unfold f_Reader_step at hf
  refine lv_aload_n hx hb dX7_step_0 rfl (lv_at hl 0 rfl) ?_
  refine lv_aload_n hx hb dX7_step_1 rfl (lv_at hl 0 rfl) ?_
  refine lv_aload_n hx hb dX7_step_2 rfl (lv_at hl 0 rfl) ?_
  refine x_get C G fX7_28.g (wX_at4) rfl dX7_step_3 ?_
  refine lv_bipush (v := 32) hx hb dX7_step_6 (by decide) ?_
  refine lv_bipush (v := 32) hx hb dX7_step_8 (by decide) ?_
  obtain ⟨x1, hc, hf⟩ := bd_go hf
  refine xI_V C G (c_Reader_skip_rd hc) mX7_skip kX7_34 (wX_at4) rfl ⟨Nat.le_of_ble_eq_true rfl, Nat.le_of_ble_eq_true rfl⟩ rfl hl.1 rfl (Nat.le_of_ble_eq_true rfl) ⟨Nat.le_refl _, Nat.le_refl _⟩ dX7_step_10 (fun hz H locs G => ?_)
  refine x_put (ws' := (wX E ad x_imageCount x_lastTrouble x_lastFault x_lastPlace pa_names pa_faultNumber pa_faultPlace rd_tape rd_length rd_end x1 rd_sort rd_start rd_value rd_word to_unsurePair to_unsureYears to_triedPair to_seats to_slack to_sawInches to_quarrelChance to_people to_forkBits to_unsure to_tried to_triedFedBits tf_seatOf tf_one tf_other tf_kind tf_years tf_sawn tf_pairs tf_gone bd_unsurePair bd_unsureYears bd_triedPair bd_seats bd_slack bd_sawInches bd_quarrelChance bd_people bd_forkBits bd_unsure bd_tried bd_triedFedBits bf_seatOf bf_one bf_other bf_kind bf_years bf_sawn bf_pairs bf_gone nw_seatOf nw_one nw_other nw_kind nw_years nw_sawn nw_pairs nw_gone sc_seatOf sc_handle sc_both sc_slopOf sc_forkBits sc_canBits sc_bestBits sc_bestSlops sl_bits sl_count se_bestRow se_row se_pairAt se_hope se_hopeAt se_slopAt se_farBits se_gain se_worth se_bestWorth se_fresh ch_both ch_cost ch_bit ch_items ch_leastCost ch_leastBits cl_bits cl_count fi_sets fi_count ps_act ps_whom ps_amount ps_next ps_count i0_seatOf i0_one i0_other i0_kind i0_years i0_sawn i0_pairs i0_gone i1_seatOf i1_one i1_other i1_kind i1_years i1_sawn i1_pairs i1_gone i2_seatOf i2_one i2_other i2_kind i2_years i2_sawn i2_pairs i2_gone)) C G fX7_28 (wX_at4) rfl rfl (Nat.le_of_ble_eq_true rfl) wX_set_rd_next dX7_step_13 (fun H locs G => ?_)
  refine lv_aload_n hx hb dX7_step_16 rfl (lv_at hl 0 rfl) ?_
  refine lv_aload_n hx hb dX7_step_17 rfl (lv_at hl 0 rfl) ?_
  refine x_get C G fX7_28.g (wX_at4) rfl dX7_step_18 ?_
  refine x_put (ws' := (wX E ad x_imageCount x_lastTrouble x_lastFault x_lastPlace pa_names pa_faultNumber pa_faultPlace rd_tape rd_length rd_end x1 rd_sort x1 rd_value rd_word to_unsurePair to_unsureYears to_triedPair to_seats to_slack to_sawInches to_quarrelChance to_people to_forkBits to_unsure to_tried to_triedFedBits tf_seatOf tf_one tf_other tf_kind tf_years tf_sawn tf_pairs tf_gone bd_unsurePair bd_unsureYears bd_triedPair bd_seats bd_slack bd_sawInches bd_quarrelChance bd_people bd_forkBits bd_unsure bd_tried bd_triedFedBits bf_seatOf bf_one bf_other bf_kind bf_years bf_sawn bf_pairs bf_gone nw_seatOf nw_one nw_other nw_kind nw_years nw_sawn nw_pairs nw_gone sc_seatOf sc_handle sc_both sc_slopOf sc_forkBits sc_canBits sc_bestBits sc_bestSlops sl_bits sl_count se_bestRow se_row se_pairAt se_hope se_hopeAt se_slopAt se_farBits se_gain se_worth se_bestWorth se_fresh ch_both ch_cost ch_bit ch_items ch_leastCost ch_leastBits cl_bits cl_count fi_sets fi_count ps_act ps_whom ps_amount ps_next ps_count i0_seatOf i0_one i0_other i0_kind i0_years i0_sawn i0_pairs i0_gone i1_seatOf i1_one i1_other i1_kind i1_years i1_sawn i1_pairs i1_gone i2_seatOf i2_one i2_other i2_kind i2_years i2_sawn i2_pairs i2_gone)) C G fX7_38 (wX_at4) rfl rfl (Nat.le_of_ble_eq_true rfl) wX_set_rd_start dX7_step_21 (fun H locs G => ?_)
  refine lv_aload_n hx hb dX7_step_24 rfl (lv_at hl 0 rfl) ?_
  refine lv_iconst (v := 0) hx hb dX7_step_25 (by decide) ?_
  refine x_put (ws' := (wX E ad x_imageCount x_lastTrouble x_lastFault x_lastPlace pa_names pa_faultNumber pa_faultPlace rd_tape rd_length rd_end x1 rd_sort x1 (0 : Int32) rd_word to_unsurePair to_unsureYears to_triedPair to_seats to_slack to_sawInches to_quarrelChance to_people to_forkBits to_unsure to_tried to_triedFedBits tf_seatOf tf_one tf_other tf_kind tf_years tf_sawn tf_pairs tf_gone bd_unsurePair bd_unsureYears bd_triedPair bd_seats bd_slack bd_sawInches bd_quarrelChance bd_people bd_forkBits bd_unsure bd_tried bd_triedFedBits bf_seatOf bf_one bf_other bf_kind bf_years bf_sawn bf_pairs bf_gone nw_seatOf nw_one nw_other nw_kind nw_years nw_sawn nw_pairs nw_gone sc_seatOf sc_handle sc_both sc_slopOf sc_forkBits sc_canBits sc_bestBits sc_bestSlops sl_bits sl_count se_bestRow se_row se_pairAt se_hope se_hopeAt se_slopAt se_farBits se_gain se_worth se_bestWorth se_fresh ch_both ch_cost ch_bit ch_items ch_leastCost ch_leastBits cl_bits cl_count fi_sets fi_count ps_act ps_whom ps_amount ps_next ps_count i0_seatOf i0_one i0_other i0_kind i0_years i0_sawn i0_pairs i0_gone i1_seatOf i1_one i1_other i1_kind i1_years i1_sawn i1_pairs i1_gone i2_seatOf i2_one i2_other i2_kind i2_years i2_sawn i2_pairs i2_gone)) C G fX7_41 (wX_at4) rfl rfl (Nat.le_of_ble_eq_true rfl) wX_set_rd_value dX7_step_26 (fun H locs G => ?_)
  refine lv_aload_n hx hb dX7_step_29 rfl (lv_at hl 0 rfl) ?_
  refine lv_lconst (v := 0) hx hb dX7_step_30 (by decide) ?_
  refine x_put (ws' := (wX E ad x_imageCount x_lastTrouble x_lastFault x_lastPlace pa_names pa_faultNumber pa_faultPlace rd_tape rd_length rd_end x1 rd_sort x1 (0 : Int32) (0 : Int64) to_unsurePair to_unsureYears to_triedPair to_seats to_slack to_sawInches to_quarrelChance to_people to_forkBits to_unsure to_tried to_triedFedBits tf_seatOf tf_one tf_other tf_kind tf_years tf_sawn tf_pairs tf_gone bd_unsurePair bd_unsureYears bd_triedPair bd_seats bd_slack bd_sawInches bd_quarrelChance bd_people bd_forkBits bd_unsure bd_tried bd_triedFedBits bf_seatOf bf_one bf_other bf_kind bf_years bf_sawn bf_pairs bf_gone nw_seatOf nw_one nw_other nw_kind nw_years nw_sawn nw_pairs nw_gone sc_seatOf sc_handle sc_both sc_slopOf sc_forkBits sc_canBits sc_bestBits sc_bestSlops sl_bits sl_count se_bestRow se_row se_pairAt se_hope se_hopeAt se_slopAt se_farBits se_gain se_worth se_bestWorth se_fresh ch_both ch_cost ch_bit ch_items ch_leastCost ch_leastBits cl_bits cl_count fi_sets fi_count ps_act ps_whom ps_amount ps_next ps_count i0_seatOf i0_one i0_other i0_kind i0_years i0_sawn i0_pairs i0_gone i1_seatOf i1_one i1_other i1_kind i1_years i1_sawn i1_pairs i1_gone i2_seatOf i2_one i2_other i2_kind i2_years i2_sawn i2_pairs i2_gone)) C G fX7_44 (wX_at4) rfl rfl (Nat.le_of_ble_eq_true rfl) wX_set_rd_word dX7_step_31 (fun H locs G => ?_)
  refine lv_aload_n hx hb dX7_step_34 rfl (lv_at hl 0 rfl) ?_
  refine x_get C G fX7_38.g (wX_at4) rfl dX7_step_35 ?_
  refine lv_aload_n hx hb dX7_step_38 rfl (lv_at hl 0 rfl) ?_
  refine x_get C G fX7_25.g (wX_at4) rfl dX7_step_39 ?_
  obtain ⟨x2, hrx2, hf⟩ := bd_go hf
  have Jx2 : ∀ (H : Heap) (locs : List Loc) (ls : Array Slot), xG s E A (wX E ad x_imageCount x_lastTrouble x_lastFault x_lastPlace pa_names pa_faultNumber pa_faultPlace rd_tape rd_length rd_end x1 rd_sort x1 (0 : Int32) (0 : Int64) to_unsurePair to_unsureYears to_triedPair to_seats to_slack to_sawInches to_quarrelChance to_people to_forkBits to_unsure to_tried to_triedFedBits tf_seatOf tf_one tf_other tf_kind tf_years tf_sawn tf_pairs tf_gone bd_unsurePair bd_unsureYears bd_triedPair bd_seats bd_slack bd_sawInches bd_quarrelChance bd_people bd_forkBits bd_unsure bd_tried bd_triedFedBits bf_seatOf bf_one bf_other bf_kind bf_years bf_sawn bf_pairs bf_gone nw_seatOf nw_one nw_other nw_kind nw_years nw_sawn nw_pairs nw_gone sc_seatOf sc_handle sc_both sc_slopOf sc_forkBits sc_canBits sc_bestBits sc_bestSlops sl_bits sl_count se_bestRow se_row se_pairAt se_hope se_hopeAt se_slopAt se_farBits se_gain se_worth se_bestWorth se_fresh ch_both ch_cost ch_bit ch_items ch_leastCost ch_leastBits cl_bits cl_count fi_sets fi_count ps_act ps_whom ps_amount ps_next ps_count i0_seatOf i0_one i0_other i0_kind i0_years i0_sawn i0_pairs i0_gone i1_seatOf i1_one i1_other i1_kind i1_years i1_sawn i1_pairs i1_gone i2_seatOf i2_one i2_other i2_kind i2_years i2_sawn i2_pairs i2_gone) H locs → lv_has ls 2 [(0, .ref (ad 4))] → W p l e (xR 1 24) s m args below meth c H locs 0 0 (MQ below (xqV E A (wX E ad x_imageCount x_lastTrouble x_lastFault x_lastPlace pa_names pa_faultNumber pa_faultPlace rd_tape rd_length rd_end R0.1 R0.2.1 R0.2.2.1 R0.2.2.2.1 R0.2.2.2.2 to_unsurePair to_unsureYears to_triedPair to_seats to_slack to_sawInches to_quarrelChance to_people to_forkBits to_unsure to_tried to_triedFedBits tf_seatOf tf_one tf_other tf_kind tf_years tf_sawn tf_pairs tf_gone bd_unsurePair bd_unsureYears bd_triedPair bd_seats bd_slack bd_sawInches bd_quarrelChance bd_people bd_forkBits bd_unsure bd_tried bd_triedFedBits bf_seatOf bf_one bf_other bf_kind bf_years bf_sawn bf_pairs bf_gone nw_seatOf nw_one nw_other nw_kind nw_years nw_sawn nw_pairs nw_gone sc_seatOf sc_handle sc_both sc_slopOf sc_forkBits sc_canBits sc_bestBits sc_bestSlops sl_bits sl_count se_bestRow se_row se_pairAt se_hope se_hopeAt se_slopAt se_farBits se_gain se_worth se_bestWorth se_fresh ch_both ch_cost ch_bit ch_items ch_leastCost ch_leastBits cl_bits cl_count fi_sets fi_count ps_act ps_whom ps_amount ps_next ps_count i0_seatOf i0_one i0_other i0_kind i0_years i0_sawn i0_pairs i0_gone i1_seatOf i1_one i1_other i1_kind i1_years i1_sawn i1_pairs i1_gone i2_seatOf i2_one i2_other i2_kind i2_years i2_sawn i2_pairs i2_gone)) args s 0 0 A) (F0 m 58 ls [.int x2]) := by
    intro H locs ls G hl
    refine lv_istore_n (lv' := [(1, .int x2), (0, .ref (ad 4))]) hx hb dX7_step_58 rfl hl (by decide) rfl (fun ls hl => ?_)
    refine lv_aload_n hx hb dX7_step_59 rfl (lv_at hl 1 rfl) ?_
    refine x_get C G fX7_38.g (wX_at4) rfl dX7_step_60 ?_
    refine lv_aload_n hx hb dX7_step_63 rfl (lv_at hl 1 rfl) ?_
    refine x_get C G fX7_25.g (wX_at4) rfl dX7_step_64 ?_
    refine lv_icmp_lt (tgt := 78) hx hb dX7_step_67 (by decide) (fun h => ?_) (fun h => ?_)
    · have hf := it_t h hf
      refine lv_iload_n hx hb dX7_step_78 rfl (lv_at hl 0 rfl) ?_
      refine lv_bipush (v := 59) hx hb dX7_step_79 (by decide) ?_
      refine lv_icmp_ne (tgt := 102) hx hb dX7_step_81 (by decide) (fun h => ?_) (fun h => ?_)
      · have hf := it_f h hf
        refine lv_iload_n hx hb dX7_step_102 rfl (lv_at hl 0 rfl) ?_
        refine lv_bipush (v := 48) hx hb dX7_step_103 (by decide) ?_
        obtain ⟨b3, hr, hf⟩ := bd_go hf
        cases b3 with
        | true =>
          have hf := it_t rfl hf
          have J : ∀ (H : Heap) (locs : List Loc), xG s E A (wX E ad x_imageCount x_lastTrouble x_lastFault x_lastPlace pa_names pa_faultNumber pa_faultPlace rd_tape rd_length rd_end x1 rd_sort x1 (0 : Int32) (0 : Int64) to_unsurePair to_unsureYears to_triedPair to_seats to_slack to_sawInches to_quarrelChance to_people to_forkBits to_unsure to_tried to_triedFedBits tf_seatOf tf_one tf_other tf_kind tf_years tf_sawn tf_pairs tf_gone bd_unsurePair bd_unsureYears bd_triedPair bd_seats bd_slack bd_sawInches bd_quarrelChance bd_people bd_forkBits bd_unsure bd_tried bd_triedFedBits bf_seatOf bf_one bf_other bf_kind bf_years bf_sawn bf_pairs bf_gone nw_seatOf nw_one nw_other nw_kind nw_years nw_sawn nw_pairs nw_gone sc_seatOf sc_handle sc_both sc_slopOf sc_forkBits sc_canBits sc_bestBits sc_bestSlops sl_bits sl_count se_bestRow se_row se_pairAt se_hope se_hopeAt se_slopAt se_farBits se_gain se_worth se_bestWorth se_fresh ch_both ch_cost ch_bit ch_items ch_leastCost ch_leastBits cl_bits cl_count fi_sets fi_count ps_act ps_whom ps_amount ps_next ps_count i0_seatOf i0_one i0_other i0_kind i0_years i0_sawn i0_pairs i0_gone i1_seatOf i1_one i1_other i1_kind i1_years i1_sawn i1_pairs i1_gone i2_seatOf i2_one i2_other i2_kind i2_years i2_sawn i2_pairs i2_gone) H locs → W p l e (xR 1 24) s m args below meth c H locs 0 0 (MQ below (xqV E A (wX E ad x_imageCount x_lastTrouble x_lastFault x_lastPlace pa_names pa_faultNumber pa_faultPlace rd_tape rd_length rd_end R0.1 R0.2.1 R0.2.2.1 R0.2.2.2.1 R0.2.2.2.2 to_unsurePair to_unsureYears to_triedPair to_seats to_slack to_sawInches to_quarrelChance to_people to_forkBits to_unsure to_tried to_triedFedBits tf_seatOf tf_one tf_other tf_kind tf_years tf_sawn tf_pairs tf_gone bd_unsurePair bd_unsureYears bd_triedPair bd_seats bd_slack bd_sawInches bd_quarrelChance bd_people bd_forkBits bd_unsure bd_tried bd_triedFedBits bf_seatOf bf_one bf_other bf_kind bf_years bf_sawn bf_pairs bf_gone nw_seatOf nw_one nw_other nw_kind nw_years nw_sawn nw_pairs nw_gone sc_seatOf sc_handle sc_both sc_slopOf sc_forkBits sc_canBits sc_bestBits sc_bestSlops sl_bits sl_count se_bestRow se_row se_pairAt se_hope se_hopeAt se_slopAt se_farBits se_gain se_worth se_bestWorth se_fresh ch_both ch_cost ch_bit ch_items ch_leastCost ch_leastBits cl_bits cl_count fi_sets fi_count ps_act ps_whom ps_amount ps_next ps_count i0_seatOf i0_one i0_other i0_kind i0_years i0_sawn i0_pairs i0_gone i1_seatOf i1_one i1_other i1_kind i1_years i1_sawn i1_pairs i1_gone i2_seatOf i2_one i2_other i2_kind i2_years i2_sawn i2_pairs i2_gone)) args s 0 0 A) (F0 m 137 ls []) := by
            intro H locs G
            refine lv_iload_n hx hb dX7_step_137 rfl (lv_at hl 0 rfl) ?_
            refine lv_bipush (v := 97) hx hb dX7_step_138 (by decide) ?_
            obtain ⟨b4, hr, hf⟩ := bd_go hf
            cases b4 with
            | true =>
              have hf := it_t rfl hf
              have J : ∀ (H : Heap) (locs : List Loc), xG s E A (wX E ad x_imageCount x_lastTrouble x_lastFault x_lastPlace pa_names pa_faultNumber pa_faultPlace rd_tape rd_length rd_end x1 rd_sort x1 (0 : Int32) (0 : Int64) to_unsurePair to_unsureYears to_triedPair to_seats to_slack to_sawInches to_quarrelChance to_people to_forkBits to_unsure to_tried to_triedFedBits tf_seatOf tf_one tf_other tf_kind tf_years tf_sawn tf_pairs tf_gone bd_unsurePair bd_unsureYears bd_triedPair bd_seats bd_slack bd_sawInches bd_quarrelChance bd_people bd_forkBits bd_unsure bd_tried bd_triedFedBits bf_seatOf bf_one bf_other bf_kind bf_years bf_sawn bf_pairs bf_gone nw_seatOf nw_one nw_other nw_kind nw_years nw_sawn nw_pairs nw_gone sc_seatOf sc_handle sc_both sc_slopOf sc_forkBits sc_canBits sc_bestBits sc_bestSlops sl_bits sl_count se_bestRow se_row se_pairAt se_hope se_hopeAt se_slopAt se_farBits se_gain se_worth se_bestWorth se_fresh ch_both ch_cost ch_bit ch_items ch_leastCost ch_leastBits cl_bits cl_count fi_sets fi_count ps_act ps_whom ps_amount ps_next ps_count i0_seatOf i0_one i0_other i0_kind i0_years i0_sawn i0_pairs i0_gone i1_seatOf i1_one i1_other i1_kind i1_years i1_sawn i1_pairs i1_gone i2_seatOf i2_one i2_other i2_kind i2_years i2_sawn i2_pairs i2_gone) H locs → W p l e (xR 1 24) s m args below meth c H locs 0 0 (MQ below (xqV E A (wX E ad x_imageCount x_lastTrouble x_lastFault x_lastPlace pa_names pa_faultNumber pa_faultPlace rd_tape rd_length rd_end R0.1 R0.2.1 R0.2.2.1 R0.2.2.2.1 R0.2.2.2.2 to_unsurePair to_unsureYears to_triedPair to_seats to_slack to_sawInches to_quarrelChance to_people to_forkBits to_unsure to_tried to_triedFedBits tf_seatOf tf_one tf_other tf_kind tf_years tf_sawn tf_pairs tf_gone bd_unsurePair bd_unsureYears bd_triedPair bd_seats bd_slack bd_sawInches bd_quarrelChance bd_people bd_forkBits bd_unsure bd_tried bd_triedFedBits bf_seatOf bf_one bf_other bf_kind bf_years bf_sawn bf_pairs bf_gone nw_seatOf nw_one nw_other nw_kind nw_years nw_sawn nw_pairs nw_gone sc_seatOf sc_handle sc_both sc_slopOf sc_forkBits sc_canBits sc_bestBits sc_bestSlops sl_bits sl_count se_bestRow se_row se_pairAt se_hope se_hopeAt se_slopAt se_farBits se_gain se_worth se_bestWorth se_fresh ch_both ch_cost ch_bit ch_items ch_leastCost ch_leastBits cl_bits cl_count fi_sets fi_count ps_act ps_whom ps_amount ps_next ps_count i0_seatOf i0_one i0_other i0_kind i0_years i0_sawn i0_pairs i0_gone i1_seatOf i1_one i1_other i1_kind i1_years i1_sawn i1_pairs i1_gone i2_seatOf i2_one i2_other i2_kind i2_years i2_sawn i2_pairs i2_gone)) args s 0 0 A) (F0 m 172 ls []) := by
                intro H locs G
                refine lv_aload_n hx hb dX7_step_172 rfl (lv_at hl 1 rfl) ?_
                refine lv_iconst (v := 4) hx hb dX7_step_173 (by decide) ?_
                refine x_put (ws' := (wX E ad x_imageCount x_lastTrouble x_lastFault x_lastPlace pa_names pa_faultNumber pa_faultPlace rd_tape rd_length rd_end x1 (4 : Int32) x1 (0 : Int32) (0 : Int64) to_unsurePair to_unsureYears to_triedPair to_seats to_slack to_sawInches to_quarrelChance to_people to_forkBits to_unsure to_tried to_triedFedBits tf_seatOf tf_one tf_other tf_kind tf_years tf_sawn tf_pairs tf_gone bd_unsurePair bd_unsureYears bd_triedPair bd_seats bd_slack bd_sawInches bd_quarrelChance bd_people bd_forkBits bd_unsure bd_tried bd_triedFedBits bf_seatOf bf_one bf_other bf_kind bf_years bf_sawn bf_pairs bf_gone nw_seatOf nw_one nw_other nw_kind nw_years nw_sawn nw_pairs nw_gone sc_seatOf sc_handle sc_both sc_slopOf sc_forkBits sc_canBits sc_bestBits sc_bestSlops sl_bits sl_count se_bestRow se_row se_pairAt se_hope se_hopeAt se_slopAt se_farBits se_gain se_worth se_bestWorth se_fresh ch_both ch_cost ch_bit ch_items ch_leastCost ch_leastBits cl_bits cl_count fi_sets fi_count ps_act ps_whom ps_amount ps_next ps_count i0_seatOf i0_one i0_other i0_kind i0_years i0_sawn i0_pairs i0_gone i1_seatOf i1_one i1_other i1_kind i1_years i1_sawn i1_pairs i1_gone i2_seatOf i2_one i2_other i2_kind i2_years i2_sawn i2_pairs i2_gone)) C G fX7_48 (wX_at4) rfl rfl (Nat.le_of_ble_eq_true rfl) wX_set_rd_sort dX7_step_174 (fun H locs G => ?_)
                obtain rfl := Option.some.inj hf
                exact xV_ret C G dX7_step_177
              have hf := hr
              clear hr
              refine lv_icmp_lt (tgt := 172) hx hb dX7_step_140 (by decide) (fun h => ?_) (fun h => ?_)
              · have hf := it_t h hf
                exact J _ _ G
              · have hf := it_f h hf
                refine lv_iload_n hx hb dX7_step_143 rfl (lv_at hl 0 rfl) ?_
                refine lv_bipush (v := 122) hx hb dX7_step_144 (by decide) ?_
                refine lv_icmp_gt (tgt := 172) hx hb dX7_step_146 (by decide) (fun h => ?_) (fun h => ?_)
                · have hf := it_t h hf
                  exact J _ _ G
                · have hf := it_f h hf
                  exact absurd (Option.some.inj hf) (by decide)
            | false =>
              have hf := it_f (by decide) hf
              have J : ∀ (H : Heap) (locs : List Loc), xG s E A (wX E ad x_imageCount x_lastTrouble x_lastFault x_lastPlace pa_names pa_faultNumber pa_faultPlace rd_tape rd_length rd_end x1 rd_sort x1 (0 : Int32) (0 : Int64) to_unsurePair to_unsureYears to_triedPair to_seats to_slack to_sawInches to_quarrelChance to_people to_forkBits to_unsure to_tried to_triedFedBits tf_seatOf tf_one tf_other tf_kind tf_years tf_sawn tf_pairs tf_gone bd_unsurePair bd_unsureYears bd_triedPair bd_seats bd_slack bd_sawInches bd_quarrelChance bd_people bd_forkBits bd_unsure bd_tried bd_triedFedBits bf_seatOf bf_one bf_other bf_kind bf_years bf_sawn bf_pairs bf_gone nw_seatOf nw_one nw_other nw_kind nw_years nw_sawn nw_pairs nw_gone sc_seatOf sc_handle sc_both sc_slopOf sc_forkBits sc_canBits sc_bestBits sc_bestSlops sl_bits sl_count se_bestRow se_row se_pairAt se_hope se_hopeAt se_slopAt se_farBits se_gain se_worth se_bestWorth se_fresh ch_both ch_cost ch_bit ch_items ch_leastCost ch_leastBits cl_bits cl_count fi_sets fi_count ps_act ps_whom ps_amount ps_next ps_count i0_seatOf i0_one i0_other i0_kind i0_years i0_sawn i0_pairs i0_gone i1_seatOf i1_one i1_other i1_kind i1_years i1_sawn i1_pairs i1_gone i2_seatOf i2_one i2_other i2_kind i2_years i2_sawn i2_pairs i2_gone) H locs → W p l e (xR 1 24) s m args below meth c H locs 0 0 (MQ below (xqV E A (wX E ad x_imageCount x_lastTrouble x_lastFault x_lastPlace pa_names pa_faultNumber pa_faultPlace rd_tape rd_length rd_end R0.1 R0.2.1 R0.2.2.1 R0.2.2.2.1 R0.2.2.2.2 to_unsurePair to_unsureYears to_triedPair to_seats to_slack to_sawInches to_quarrelChance to_people to_forkBits to_unsure to_tried to_triedFedBits tf_seatOf tf_one tf_other tf_kind tf_years tf_sawn tf_pairs tf_gone bd_unsurePair bd_unsureYears bd_triedPair bd_seats bd_slack bd_sawInches bd_quarrelChance bd_people bd_forkBits bd_unsure bd_tried bd_triedFedBits bf_seatOf bf_one bf_other bf_kind bf_years bf_sawn bf_pairs bf_gone nw_seatOf nw_one nw_other nw_kind nw_years nw_sawn nw_pairs nw_gone sc_seatOf sc_handle sc_both sc_slopOf sc_forkBits sc_canBits sc_bestBits sc_bestSlops sl_bits sl_count se_bestRow se_row se_pairAt se_hope se_hopeAt se_slopAt se_farBits se_gain se_worth se_bestWorth se_fresh ch_both ch_cost ch_bit ch_items ch_leastCost ch_leastBits cl_bits cl_count fi_sets fi_count ps_act ps_whom ps_amount ps_next ps_count i0_seatOf i0_one i0_other i0_kind i0_years i0_sawn i0_pairs i0_gone i1_seatOf i1_one i1_other i1_kind i1_years i1_sawn i1_pairs i1_gone i2_seatOf i2_one i2_other i2_kind i2_years i2_sawn i2_pairs i2_gone)) args s 0 0 A) (F0 m 149 ls []) := by
                intro H locs G
                refine lv_aload_n hx hb dX7_step_149 rfl (lv_at hl 1 rfl) ?_
                refine lv_aload_n hx hb dX7_step_150 rfl (lv_at hl 1 rfl) ?_
                refine lv_aload_n hx hb dX7_step_151 rfl (lv_at hl 1 rfl) ?_
                refine x_get C G fX7_38.g (wX_at4) rfl dX7_step_152 ?_
                refine lv_bipush (v := 97) hx hb dX7_step_155 (by decide) ?_
                refine lv_bipush (v := 122) hx hb dX7_step_157 (by decide) ?_
                obtain ⟨x5, hc, hf⟩ := bd_go hf
                refine xI_V C G (c_Reader_skip_rd hc) mX7_skip kX7_34 (wX_at4) rfl ⟨Nat.le_of_ble_eq_true rfl, Nat.le_of_ble_eq_true rfl⟩ rfl hl.1 rfl (Nat.le_of_ble_eq_true rfl) ⟨Nat.le_refl _, Nat.le_refl _⟩ dX7_step_159 (fun hz H locs G => ?_)
                refine x_put (ws' := (wX E ad x_imageCount x_lastTrouble x_lastFault x_lastPlace pa_names pa_faultNumber pa_faultPlace rd_tape rd_length rd_end x5 rd_sort x1 (0 : Int32) (0 : Int64) to_unsurePair to_unsureYears to_triedPair to_seats to_slack to_sawInches to_quarrelChance to_people to_forkBits to_unsure to_tried to_triedFedBits tf_seatOf tf_one tf_other tf_kind tf_years tf_sawn tf_pairs tf_gone bd_unsurePair bd_unsureYears bd_triedPair bd_seats bd_slack bd_sawInches bd_quarrelChance bd_people bd_forkBits bd_unsure bd_tried bd_triedFedBits bf_seatOf bf_one bf_other bf_kind bf_years bf_sawn bf_pairs bf_gone nw_seatOf nw_one nw_other nw_kind nw_years nw_sawn nw_pairs nw_gone sc_seatOf sc_handle sc_both sc_slopOf sc_forkBits sc_canBits sc_bestBits sc_bestSlops sl_bits sl_count se_bestRow se_row se_pairAt se_hope se_hopeAt se_slopAt se_farBits se_gain se_worth se_bestWorth se_fresh ch_both ch_cost ch_bit ch_items ch_leastCost ch_leastBits cl_bits cl_count fi_sets fi_count ps_act ps_whom ps_amount ps_next ps_count i0_seatOf i0_one i0_other i0_kind i0_years i0_sawn i0_pairs i0_gone i1_seatOf i1_one i1_other i1_kind i1_years i1_sawn i1_pairs i1_gone i2_seatOf i2_one i2_other i2_kind i2_years i2_sawn i2_pairs i2_gone)) C G fX7_28 (wX_at4) rfl rfl (Nat.le_of_ble_eq_true rfl) wX_set_rd_next dX7_step_162 (fun H locs G => ?_)
                refine lv_aload_n hx hb dX7_step_165 rfl (lv_at hl 1 rfl) ?_
                obtain ⟨x6, hc, hf⟩ := bd_go hf
                refine xV_V C G (c_Reader_takeWord_rd hc) mX7_takeWord kX7_54 (wX_at4) rfl ⟨Nat.le_of_ble_eq_true rfl, Nat.le_of_ble_eq_true rfl⟩ rfl hl.1 rfl (Nat.le_of_ble_eq_true rfl) ⟨Nat.le_refl _, Nat.le_refl _⟩ dX7_step_166 (fun H locs G => ?_)
                refine lv_goto (tgt := 177) hx hb dX7_step_169 (by decide) ?_
                obtain rfl := Option.some.inj hf
                exact xV_ret C G dX7_step_177
              have hf := hr
              clear hr
              refine lv_icmp_lt (tgt := 172) hx hb dX7_step_140 (by decide) (fun h => ?_) (fun h => ?_)
              · have hf := it_t h hf
                exact absurd (Option.some.inj hf) (by decide)
              · have hf := it_f h hf
                refine lv_iload_n hx hb dX7_step_143 rfl (lv_at hl 0 rfl) ?_
                refine lv_bipush (v := 122) hx hb dX7_step_144 (by decide) ?_
                refine lv_icmp_gt (tgt := 172) hx hb dX7_step_146 (by decide) (fun h => ?_) (fun h => ?_)
                · have hf := it_t h hf
                  exact absurd (Option.some.inj hf) (by decide)
                · have hf := it_f h hf
                  exact J _ _ G
          have hf := hr
          clear hr
          refine lv_icmp_lt (tgt := 137) hx hb dX7_step_105 (by decide) (fun h => ?_) (fun h => ?_)
          · have hf := it_t h hf
            exact J _ _ G
          · have hf := it_f h hf
            refine lv_iload_n hx hb dX7_step_108 rfl (lv_at hl 0 rfl) ?_
            refine lv_bipush (v := 57) hx hb dX7_step_109 (by decide) ?_
            refine lv_icmp_gt (tgt := 137) hx hb dX7_step_111 (by decide) (fun h => ?_) (fun h => ?_)
            · have hf := it_t h hf
              exact J _ _ G
            · have hf := it_f h hf
              exact absurd (Option.some.inj hf) (by decide)
        | false =>
          have hf := it_f (by decide) hf
          have J : ∀ (H : Heap) (locs : List Loc), xG s E A (wX E ad x_imageCount x_lastTrouble x_lastFault x_lastPlace pa_names pa_faultNumber pa_faultPlace rd_tape rd_length rd_end x1 rd_sort x1 (0 : Int32) (0 : Int64) to_unsurePair to_unsureYears to_triedPair to_seats to_slack to_sawInches to_quarrelChance to_people to_forkBits to_unsure to_tried to_triedFedBits tf_seatOf tf_one tf_other tf_kind tf_years tf_sawn tf_pairs tf_gone bd_unsurePair bd_unsureYears bd_triedPair bd_seats bd_slack bd_sawInches bd_quarrelChance bd_people bd_forkBits bd_unsure bd_tried bd_triedFedBits bf_seatOf bf_one bf_other bf_kind bf_years bf_sawn bf_pairs bf_gone nw_seatOf nw_one nw_other nw_kind nw_years nw_sawn nw_pairs nw_gone sc_seatOf sc_handle sc_both sc_slopOf sc_forkBits sc_canBits sc_bestBits sc_bestSlops sl_bits sl_count se_bestRow se_row se_pairAt se_hope se_hopeAt se_slopAt se_farBits se_gain se_worth se_bestWorth se_fresh ch_both ch_cost ch_bit ch_items ch_leastCost ch_leastBits cl_bits cl_count fi_sets fi_count ps_act ps_whom ps_amount ps_next ps_count i0_seatOf i0_one i0_other i0_kind i0_years i0_sawn i0_pairs i0_gone i1_seatOf i1_one i1_other i1_kind i1_years i1_sawn i1_pairs i1_gone i2_seatOf i2_one i2_other i2_kind i2_years i2_sawn i2_pairs i2_gone) H locs → W p l e (xR 1 24) s m args below meth c H locs 0 0 (MQ below (xqV E A (wX E ad x_imageCount x_lastTrouble x_lastFault x_lastPlace pa_names pa_faultNumber pa_faultPlace rd_tape rd_length rd_end R0.1 R0.2.1 R0.2.2.1 R0.2.2.2.1 R0.2.2.2.2 to_unsurePair to_unsureYears to_triedPair to_seats to_slack to_sawInches to_quarrelChance to_people to_forkBits to_unsure to_tried to_triedFedBits tf_seatOf tf_one tf_other tf_kind tf_years tf_sawn tf_pairs tf_gone bd_unsurePair bd_unsureYears bd_triedPair bd_seats bd_slack bd_sawInches bd_quarrelChance bd_people bd_forkBits bd_unsure bd_tried bd_triedFedBits bf_seatOf bf_one bf_other bf_kind bf_years bf_sawn bf_pairs bf_gone nw_seatOf nw_one nw_other nw_kind nw_years nw_sawn nw_pairs nw_gone sc_seatOf sc_handle sc_both sc_slopOf sc_forkBits sc_canBits sc_bestBits sc_bestSlops sl_bits sl_count se_bestRow se_row se_pairAt se_hope se_hopeAt se_slopAt se_farBits se_gain se_worth se_bestWorth se_fresh ch_both ch_cost ch_bit ch_items ch_leastCost ch_leastBits cl_bits cl_count fi_sets fi_count ps_act ps_whom ps_amount ps_next ps_count i0_seatOf i0_one i0_other i0_kind i0_years i0_sawn i0_pairs i0_gone i1_seatOf i1_one i1_other i1_kind i1_years i1_sawn i1_pairs i1_gone i2_seatOf i2_one i2_other i2_kind i2_years i2_sawn i2_pairs i2_gone)) args s 0 0 A) (F0 m 114 ls []) := by
            intro H locs G
            refine lv_aload_n hx hb dX7_step_114 rfl (lv_at hl 1 rfl) ?_
            refine lv_aload_n hx hb dX7_step_115 rfl (lv_at hl 1 rfl) ?_
            refine lv_aload_n hx hb dX7_step_116 rfl (lv_at hl 1 rfl) ?_
            refine x_get C G fX7_38.g (wX_at4) rfl dX7_step_117 ?_
            refine lv_bipush (v := 48) hx hb dX7_step_120 (by decide) ?_
            refine lv_bipush (v := 57) hx hb dX7_step_122 (by decide) ?_
            obtain ⟨x7, hc, hf⟩ := bd_go hf
            refine xI_V C G (c_Reader_skip_rd hc) mX7_skip kX7_34 (wX_at4) rfl ⟨Nat.le_of_ble_eq_true rfl, Nat.le_of_ble_eq_true rfl⟩ rfl hl.1 rfl (Nat.le_of_ble_eq_true rfl) ⟨Nat.le_refl _, Nat.le_refl _⟩ dX7_step_124 (fun hz H locs G => ?_)
            refine x_put (ws' := (wX E ad x_imageCount x_lastTrouble x_lastFault x_lastPlace pa_names pa_faultNumber pa_faultPlace rd_tape rd_length rd_end x7 rd_sort x1 (0 : Int32) (0 : Int64) to_unsurePair to_unsureYears to_triedPair to_seats to_slack to_sawInches to_quarrelChance to_people to_forkBits to_unsure to_tried to_triedFedBits tf_seatOf tf_one tf_other tf_kind tf_years tf_sawn tf_pairs tf_gone bd_unsurePair bd_unsureYears bd_triedPair bd_seats bd_slack bd_sawInches bd_quarrelChance bd_people bd_forkBits bd_unsure bd_tried bd_triedFedBits bf_seatOf bf_one bf_other bf_kind bf_years bf_sawn bf_pairs bf_gone nw_seatOf nw_one nw_other nw_kind nw_years nw_sawn nw_pairs nw_gone sc_seatOf sc_handle sc_both sc_slopOf sc_forkBits sc_canBits sc_bestBits sc_bestSlops sl_bits sl_count se_bestRow se_row se_pairAt se_hope se_hopeAt se_slopAt se_farBits se_gain se_worth se_bestWorth se_fresh ch_both ch_cost ch_bit ch_items ch_leastCost ch_leastBits cl_bits cl_count fi_sets fi_count ps_act ps_whom ps_amount ps_next ps_count i0_seatOf i0_one i0_other i0_kind i0_years i0_sawn i0_pairs i0_gone i1_seatOf i1_one i1_other i1_kind i1_years i1_sawn i1_pairs i1_gone i2_seatOf i2_one i2_other i2_kind i2_years i2_sawn i2_pairs i2_gone)) C G fX7_28 (wX_at4) rfl rfl (Nat.le_of_ble_eq_true rfl) wX_set_rd_next dX7_step_127 (fun H locs G => ?_)
            refine lv_aload_n hx hb dX7_step_130 rfl (lv_at hl 1 rfl) ?_
            obtain ⟨x8, hc, hf⟩ := bd_go hf
            refine xV_V C G (c_Reader_takeWhole_rd hc) mX7_takeWhole kX7_51 (wX_at4) rfl ⟨Nat.le_of_ble_eq_true rfl, Nat.le_of_ble_eq_true rfl⟩ rfl hl.1 rfl (Nat.le_of_ble_eq_true rfl) ⟨Nat.le_refl _, Nat.le_refl _⟩ dX7_step_131 (fun H locs G => ?_)
            refine lv_goto (tgt := 177) hx hb dX7_step_134 (by decide) ?_
            obtain rfl := Option.some.inj hf
            exact xV_ret C G dX7_step_177
          have hf := hr
          clear hr
          refine lv_icmp_lt (tgt := 137) hx hb dX7_step_105 (by decide) (fun h => ?_) (fun h => ?_)
          · have hf := it_t h hf
            exact absurd (Option.some.inj hf) (by decide)
          · have hf := it_f h hf
            refine lv_iload_n hx hb dX7_step_108 rfl (lv_at hl 0 rfl) ?_
            refine lv_bipush (v := 57) hx hb dX7_step_109 (by decide) ?_
            refine lv_icmp_gt (tgt := 137) hx hb dX7_step_111 (by decide) (fun h => ?_) (fun h => ?_)
            · have hf := it_t h hf
              exact absurd (Option.some.inj hf) (by decide)
            · have hf := it_f h hf
              exact J _ _ G
      · have hf := it_t h hf
        refine lv_aload_n hx hb dX7_step_84 rfl (lv_at hl 1 rfl) ?_
        refine lv_iconst (v := 3) hx hb dX7_step_85 (by decide) ?_
        refine x_put (ws' := (wX E ad x_imageCount x_lastTrouble x_lastFault x_lastPlace pa_names pa_faultNumber pa_faultPlace rd_tape rd_length rd_end x1 (3 : Int32) x1 (0 : Int32) (0 : Int64) to_unsurePair to_unsureYears to_triedPair to_seats to_slack to_sawInches to_quarrelChance to_people to_forkBits to_unsure to_tried to_triedFedBits tf_seatOf tf_one tf_other tf_kind tf_years tf_sawn tf_pairs tf_gone bd_unsurePair bd_unsureYears bd_triedPair bd_seats bd_slack bd_sawInches bd_quarrelChance bd_people bd_forkBits bd_unsure bd_tried bd_triedFedBits bf_seatOf bf_one bf_other bf_kind bf_years bf_sawn bf_pairs bf_gone nw_seatOf nw_one nw_other nw_kind nw_years nw_sawn nw_pairs nw_gone sc_seatOf sc_handle sc_both sc_slopOf sc_forkBits sc_canBits sc_bestBits sc_bestSlops sl_bits sl_count se_bestRow se_row se_pairAt se_hope se_hopeAt se_slopAt se_farBits se_gain se_worth se_bestWorth se_fresh ch_both ch_cost ch_bit ch_items ch_leastCost ch_leastBits cl_bits cl_count fi_sets fi_count ps_act ps_whom ps_amount ps_next ps_count i0_seatOf i0_one i0_other i0_kind i0_years i0_sawn i0_pairs i0_gone i1_seatOf i1_one i1_other i1_kind i1_years i1_sawn i1_pairs i1_gone i2_seatOf i2_one i2_other i2_kind i2_years i2_sawn i2_pairs i2_gone)) C G fX7_48 (wX_at4) rfl rfl (Nat.le_of_ble_eq_true rfl) wX_set_rd_sort dX7_step_86 (fun H locs G => ?_)
        refine lv_aload_n hx hb dX7_step_89 rfl (lv_at hl 1 rfl) ?_
        refine lv_aload_n hx hb dX7_step_90 rfl (lv_at hl 1 rfl) ?_
        refine x_get C G fX7_38.g (wX_at4) rfl dX7_step_91 ?_
        refine lv_iconst (v := 1) hx hb dX7_step_94 (by decide) ?_
        refine lv_iadd hx hb dX7_step_95 ?_
        refine lv_topi (fun x9 ex9 => ?_)
        have hf := lt_go ex9 hf
        refine x_put (ws' := (wX E ad x_imageCount x_lastTrouble x_lastFault x_lastPlace pa_names pa_faultNumber pa_faultPlace rd_tape rd_length rd_end x9 (3 : Int32) x1 (0 : Int32) (0 : Int64) to_unsurePair to_unsureYears to_triedPair to_seats to_slack to_sawInches to_quarrelChance to_people to_forkBits to_unsure to_tried to_triedFedBits tf_seatOf tf_one tf_other tf_kind tf_years tf_sawn tf_pairs tf_gone bd_unsurePair bd_unsureYears bd_triedPair bd_seats bd_slack bd_sawInches bd_quarrelChance bd_people bd_forkBits bd_unsure bd_tried bd_triedFedBits bf_seatOf bf_one bf_other bf_kind bf_years bf_sawn bf_pairs bf_gone nw_seatOf nw_one nw_other nw_kind nw_years nw_sawn nw_pairs nw_gone sc_seatOf sc_handle sc_both sc_slopOf sc_forkBits sc_canBits sc_bestBits sc_bestSlops sl_bits sl_count se_bestRow se_row se_pairAt se_hope se_hopeAt se_slopAt se_farBits se_gain se_worth se_bestWorth se_fresh ch_both ch_cost ch_bit ch_items ch_leastCost ch_leastBits cl_bits cl_count fi_sets fi_count ps_act ps_whom ps_amount ps_next ps_count i0_seatOf i0_one i0_other i0_kind i0_years i0_sawn i0_pairs i0_gone i1_seatOf i1_one i1_other i1_kind i1_years i1_sawn i1_pairs i1_gone i2_seatOf i2_one i2_other i2_kind i2_years i2_sawn i2_pairs i2_gone)) C G fX7_28 (wX_at4) rfl rfl (Nat.le_of_ble_eq_true rfl) wX_set_rd_next dX7_step_96 (fun H locs G => ?_)
        refine lv_goto (tgt := 177) hx hb dX7_step_99 (by decide) ?_
        obtain rfl := Option.some.inj hf
        exact xV_ret C G dX7_step_177
    · have hf := it_f h hf
      refine lv_aload_n hx hb dX7_step_70 rfl (lv_at hl 1 rfl) ?_
      refine lv_iconst (v := 0) hx hb dX7_step_71 (by decide) ?_
      refine x_put (ws' := (wX E ad x_imageCount x_lastTrouble x_lastFault x_lastPlace pa_names pa_faultNumber pa_faultPlace rd_tape rd_length rd_end x1 (0 : Int32) x1 (0 : Int32) (0 : Int64) to_unsurePair to_unsureYears to_triedPair to_seats to_slack to_sawInches to_quarrelChance to_people to_forkBits to_unsure to_tried to_triedFedBits tf_seatOf tf_one tf_other tf_kind tf_years tf_sawn tf_pairs tf_gone bd_unsurePair bd_unsureYears bd_triedPair bd_seats bd_slack bd_sawInches bd_quarrelChance bd_people bd_forkBits bd_unsure bd_tried bd_triedFedBits bf_seatOf bf_one bf_other bf_kind bf_years bf_sawn bf_pairs bf_gone nw_seatOf nw_one nw_other nw_kind nw_years nw_sawn nw_pairs nw_gone sc_seatOf sc_handle sc_both sc_slopOf sc_forkBits sc_canBits sc_bestBits sc_bestSlops sl_bits sl_count se_bestRow se_row se_pairAt se_hope se_hopeAt se_slopAt se_farBits se_gain se_worth se_bestWorth se_fresh ch_both ch_cost ch_bit ch_items ch_leastCost ch_leastBits cl_bits cl_count fi_sets fi_count ps_act ps_whom ps_amount ps_next ps_count i0_seatOf i0_one i0_other i0_kind i0_years i0_sawn i0_pairs i0_gone i1_seatOf i1_one i1_other i1_kind i1_years i1_sawn i1_pairs i1_gone i2_seatOf i2_one i2_other i2_kind i2_years i2_sawn i2_pairs i2_gone)) C G fX7_48 (wX_at4) rfl rfl (Nat.le_of_ble_eq_true rfl) wX_set_rd_sort dX7_step_72 (fun H locs G => ?_)
      refine lv_goto (tgt := 177) hx hb dX7_step_75 (by decide) ?_
      obtain rfl := Option.some.inj hf
      exact xV_ret C G dX7_step_177
  have hf := hrx2
  refine lv_icmp_ge (tgt := 57) hx hb dX7_step_42 (by decide) (fun h => ?_) (fun h => ?_)
  · have hf := it_t h hf
    refine lv_iconst (v := 0) hx hb dX7_step_57 (by decide) ?_
    obtain rfl := Option.some.inj hf
    exact Jx2 _ _ _ G (lv_sub hl [0] rfl)
  · have hf := it_f h hf
    refine lv_aload_n hx hb dX7_step_45 rfl (lv_at hl 0 rfl) ?_
    refine x_get C G fX7_9 (wX_at4) rfl dX7_step_46 ?_
    refine lv_aload_n hx hb dX7_step_49 rfl (lv_at hl 0 rfl) ?_
    refine x_get C G fX7_38.g (wX_at4) rfl dX7_step_50 ?_
    have hi := ck_in hf
    have hf := ck_go hf
    refine x_bald C G (wX_at5) hi dX7_step_53 ?_
    refine lv_goto (tgt := 58) hx hb dX7_step_54 (by decide) ?_
    obtain rfl := Option.some.inj hf
    exact Jx2 _ _ _ G (lv_sub hl [0] rfl)
set_option maxHeartbeats 4000000 in
set_option maxRecDepth 100000 in
theorem c_Reader_begin_rd {l : Launch} {E : xE} {ad : Nat → Nat} {x_imageCount x_lastTrouble x_lastFault x_lastPlace pa_faultNumber pa_faultPlace rd_length rd_end rd_next rd_sort rd_start rd_value to_seats to_slack to_sawInches to_quarrelChance to_people to_forkBits to_unsure to_tried to_triedFedBits tf_pairs tf_gone bd_seats bd_slack bd_sawInches bd_quarrelChance bd_people bd_forkBits bd_unsure bd_tried bd_triedFedBits bf_pairs bf_gone nw_pairs nw_gone sc_forkBits sc_canBits sc_bestBits sc_bestSlops sl_count se_bestWorth se_fresh ch_items ch_leastCost ch_leastBits cl_count fi_count ps_next ps_count i0_pairs i0_gone i1_pairs i1_gone i2_pairs i2_gone : Int32} {pa_names : Nat → Int64} {rd_tape to_unsurePair to_unsureYears to_triedPair tf_seatOf tf_one tf_other tf_kind tf_years tf_sawn bd_unsurePair bd_unsureYears bd_triedPair bf_seatOf bf_one bf_other bf_kind bf_years bf_sawn nw_seatOf nw_one nw_other nw_kind nw_years nw_sawn sc_seatOf sc_handle sc_both sc_slopOf sl_bits se_bestRow se_row se_pairAt se_hope se_hopeAt se_slopAt se_farBits se_gain se_worth ch_both ch_cost ch_bit cl_bits fi_sets ps_act ps_whom ps_amount i0_seatOf i0_one i0_other i0_kind i0_years i0_sawn i1_seatOf i1_one i1_other i1_kind i1_years i1_sawn i2_seatOf i2_one i2_other i2_kind i2_years i2_sawn : Nat → Int32} {rd_word : Int64} {l1 : Int32} {R0 : Int32 × Int32 × Int32 × Int32 × Int32 × Int64} (hf : f_Reader_begin l1 rd_tape = some R0) : xV l E yX7_begin cX7_begin 2 none 2 45 [.ref (ad 4), .int l1] (wX E ad x_imageCount x_lastTrouble x_lastFault x_lastPlace pa_names pa_faultNumber pa_faultPlace rd_tape rd_length rd_end rd_next rd_sort rd_start rd_value rd_word to_unsurePair to_unsureYears to_triedPair to_seats to_slack to_sawInches to_quarrelChance to_people to_forkBits to_unsure to_tried to_triedFedBits tf_seatOf tf_one tf_other tf_kind tf_years tf_sawn tf_pairs tf_gone bd_unsurePair bd_unsureYears bd_triedPair bd_seats bd_slack bd_sawInches bd_quarrelChance bd_people bd_forkBits bd_unsure bd_tried bd_triedFedBits bf_seatOf bf_one bf_other bf_kind bf_years bf_sawn bf_pairs bf_gone nw_seatOf nw_one nw_other nw_kind nw_years nw_sawn nw_pairs nw_gone sc_seatOf sc_handle sc_both sc_slopOf sc_forkBits sc_canBits sc_bestBits sc_bestSlops sl_bits sl_count se_bestRow se_row se_pairAt se_hope se_hopeAt se_slopAt se_farBits se_gain se_worth se_bestWorth se_fresh ch_both ch_cost ch_bit ch_items ch_leastCost ch_leastBits cl_bits cl_count fi_sets fi_count ps_act ps_whom ps_amount ps_next ps_count i0_seatOf i0_one i0_other i0_kind i0_years i0_sawn i0_pairs i0_gone i1_seatOf i1_one i1_other i1_kind i1_years i1_sawn i1_pairs i1_gone i2_seatOf i2_one i2_other i2_kind i2_years i2_sawn i2_pairs i2_gone) (wX E ad x_imageCount x_lastTrouble x_lastFault x_lastPlace pa_names pa_faultNumber pa_faultPlace rd_tape rd_length R0.1 R0.2.1 R0.2.2.1 R0.2.2.2.1 R0.2.2.2.2.1 R0.2.2.2.2.2 to_unsurePair to_unsureYears to_triedPair to_seats to_slack to_sawInches to_quarrelChance to_people to_forkBits to_unsure to_tried to_triedFedBits tf_seatOf tf_one tf_other tf_kind tf_years tf_sawn tf_pairs tf_gone bd_unsurePair bd_unsureYears bd_triedPair bd_seats bd_slack bd_sawInches bd_quarrelChance bd_people bd_forkBits bd_unsure bd_tried bd_triedFedBits bf_seatOf bf_one bf_other bf_kind bf_years bf_sawn bf_pairs bf_gone nw_seatOf nw_one nw_other nw_kind nw_years nw_sawn nw_pairs nw_gone sc_seatOf sc_handle sc_both sc_slopOf sc_forkBits sc_canBits sc_bestBits sc_bestSlops sl_bits sl_count se_bestRow se_row se_pairAt se_hope se_hopeAt se_slopAt se_farBits se_gain se_worth se_bestWorth se_fresh ch_both ch_cost ch_bit ch_items ch_leastCost ch_leastBits cl_bits cl_count fi_sets fi_count ps_act ps_whom ps_amount ps_next ps_count i0_seatOf i0_one i0_other i0_kind i0_years i0_sawn i0_pairs i0_gone i1_seatOf i1_one i1_other i1_kind i1_years i1_sawn i1_pairs i1_gone i2_seatOf i2_one i2_other i2_kind i2_years i2_sawn i2_pairs i2_gone) := by
  refine xV_of (by decide) (Nat.le_of_ble_eq_true rfl) (fun p e s m args below meth c A C ls hl G => ?_)
  have hx := C.1
  have hb := C.2.1
  have hl : lv_has ls 2 [(0, .ref (ad 4)), (1, .int l1)] := hl
  unfold f_Reader_begin at hf
  refine lv_aload_n hx hb dX7_begin_0 rfl (lv_at hl 0 rfl) ?_
  refine lv_iload_n hx hb dX7_begin_1 rfl (lv_at hl 1 rfl) ?_
  refine lv_sipush (v := 800) hx hb dX7_begin_2 (by decide) ?_
  refine x_min C mMath_min kX7_19 hl.1 (Nat.le_of_ble_eq_true rfl) (Nat.le_of_ble_eq_true rfl) ⟨Nat.le_refl _, Nat.le_refl _⟩ dX7_begin_5 ?_
  refine lv_topi (fun x1 ex1 => ?_)
  have hf := lt_go ex1 hf
  refine x_put (ws' := (wX E ad x_imageCount x_lastTrouble x_lastFault x_lastPlace pa_names pa_faultNumber pa_faultPlace rd_tape rd_length x1 rd_next rd_sort rd_start rd_value rd_word to_unsurePair to_unsureYears to_triedPair to_seats to_slack to_sawInches to_quarrelChance to_people to_forkBits to_unsure to_tried to_triedFedBits tf_seatOf tf_one tf_other tf_kind tf_years tf_sawn tf_pairs tf_gone bd_unsurePair bd_unsureYears bd_triedPair bd_seats bd_slack bd_sawInches bd_quarrelChance bd_people bd_forkBits bd_unsure bd_tried bd_triedFedBits bf_seatOf bf_one bf_other bf_kind bf_years bf_sawn bf_pairs bf_gone nw_seatOf nw_one nw_other nw_kind nw_years nw_sawn nw_pairs nw_gone sc_seatOf sc_handle sc_both sc_slopOf sc_forkBits sc_canBits sc_bestBits sc_bestSlops sl_bits sl_count se_bestRow se_row se_pairAt se_hope se_hopeAt se_slopAt se_farBits se_gain se_worth se_bestWorth se_fresh ch_both ch_cost ch_bit ch_items ch_leastCost ch_leastBits cl_bits cl_count fi_sets fi_count ps_act ps_whom ps_amount ps_next ps_count i0_seatOf i0_one i0_other i0_kind i0_years i0_sawn i0_pairs i0_gone i1_seatOf i1_one i1_other i1_kind i1_years i1_sawn i1_pairs i1_gone i2_seatOf i2_one i2_other i2_kind i2_years i2_sawn i2_pairs i2_gone)) C G fX7_25 (wX_at4) rfl rfl (Nat.le_of_ble_eq_true rfl) wX_set_rd_end dX7_begin_8 (fun H locs G => ?_)
  refine lv_aload_n hx hb dX7_begin_11 rfl (lv_at hl 0 rfl) ?_
  refine lv_iconst (v := 0) hx hb dX7_begin_12 (by decide) ?_
  refine x_put (ws' := (wX E ad x_imageCount x_lastTrouble x_lastFault x_lastPlace pa_names pa_faultNumber pa_faultPlace rd_tape rd_length x1 (0 : Int32) rd_sort rd_start rd_value rd_word to_unsurePair to_unsureYears to_triedPair to_seats to_slack to_sawInches to_quarrelChance to_people to_forkBits to_unsure to_tried to_triedFedBits tf_seatOf tf_one tf_other tf_kind tf_years tf_sawn tf_pairs tf_gone bd_unsurePair bd_unsureYears bd_triedPair bd_seats bd_slack bd_sawInches bd_quarrelChance bd_people bd_forkBits bd_unsure bd_tried bd_triedFedBits bf_seatOf bf_one bf_other bf_kind bf_years bf_sawn bf_pairs bf_gone nw_seatOf nw_one nw_other nw_kind nw_years nw_sawn nw_pairs nw_gone sc_seatOf sc_handle sc_both sc_slopOf sc_forkBits sc_canBits sc_bestBits sc_bestSlops sl_bits sl_count se_bestRow se_row se_pairAt se_hope se_hopeAt se_slopAt se_farBits se_gain se_worth se_bestWorth se_fresh ch_both ch_cost ch_bit ch_items ch_leastCost ch_leastBits cl_bits cl_count fi_sets fi_count ps_act ps_whom ps_amount ps_next ps_count i0_seatOf i0_one i0_other i0_kind i0_years i0_sawn i0_pairs i0_gone i1_seatOf i1_one i1_other i1_kind i1_years i1_sawn i1_pairs i1_gone i2_seatOf i2_one i2_other i2_kind i2_years i2_sawn i2_pairs i2_gone)) C G fX7_28 (wX_at4) rfl rfl (Nat.le_of_ble_eq_true rfl) wX_set_rd_next dX7_begin_13 (fun H locs G => ?_)
  refine lv_aload_n hx hb dX7_begin_16 rfl (lv_at hl 0 rfl) ?_
  obtain ⟨x2, hc, hf⟩ := bd_go hf
  refine xV_V C G (c_Reader_step_rd hc) mX7_step kX7_31 (wX_at4) rfl ⟨Nat.le_of_ble_eq_true rfl, Nat.le_of_ble_eq_true rfl⟩ rfl hl.1 rfl (Nat.le_of_ble_eq_true rfl) ⟨Nat.le_refl _, Nat.le_refl _⟩ dX7_begin_17 (fun H locs G => ?_)
  obtain rfl := Option.some.inj hf
  exact xV_ret C G dX7_begin_20
set_option maxHeartbeats 4000000 in
set_option maxRecDepth 100000 in
theorem c_Parser_useOfWord_pa {l : Launch} {E : xE} {ad : Nat → Nat} {x_imageCount x_lastTrouble x_lastFault x_lastPlace pa_faultNumber pa_faultPlace rd_length rd_end rd_next rd_sort rd_start rd_value to_seats to_slack to_sawInches to_quarrelChance to_people to_forkBits to_unsure to_tried to_triedFedBits tf_pairs tf_gone bd_seats bd_slack bd_sawInches bd_quarrelChance bd_people bd_forkBits bd_unsure bd_tried bd_triedFedBits bf_pairs bf_gone nw_pairs nw_gone sc_forkBits sc_canBits sc_bestBits sc_bestSlops sl_count se_bestWorth se_fresh ch_items ch_leastCost ch_leastBits cl_count fi_count ps_next ps_count i0_pairs i0_gone i1_pairs i1_gone i2_pairs i2_gone : Int32} {pa_names : Nat → Int64} {rd_tape to_unsurePair to_unsureYears to_triedPair tf_seatOf tf_one tf_other tf_kind tf_years tf_sawn bd_unsurePair bd_unsureYears bd_triedPair bf_seatOf bf_one bf_other bf_kind bf_years bf_sawn nw_seatOf nw_one nw_other nw_kind nw_years nw_sawn sc_seatOf sc_handle sc_both sc_slopOf sl_bits se_bestRow se_row se_pairAt se_hope se_hopeAt se_slopAt se_farBits se_gain se_worth ch_both ch_cost ch_bit cl_bits fi_sets ps_act ps_whom ps_amount i0_seatOf i0_one i0_other i0_kind i0_years i0_sawn i1_seatOf i1_one i1_other i1_kind i1_years i1_sawn i2_seatOf i2_one i2_other i2_kind i2_years i2_sawn : Nat → Int32} {rd_word : Int64} {R0 : Int32} (hf : f_Parser_useOfWord rd_word = some R0) : xI l E yX5_useOfWord cX5_useOfWord 3 (some .int) 0 0 [.ref (ad 2)] (wX E ad x_imageCount x_lastTrouble x_lastFault x_lastPlace pa_names pa_faultNumber pa_faultPlace rd_tape rd_length rd_end rd_next rd_sort rd_start rd_value rd_word to_unsurePair to_unsureYears to_triedPair to_seats to_slack to_sawInches to_quarrelChance to_people to_forkBits to_unsure to_tried to_triedFedBits tf_seatOf tf_one tf_other tf_kind tf_years tf_sawn tf_pairs tf_gone bd_unsurePair bd_unsureYears bd_triedPair bd_seats bd_slack bd_sawInches bd_quarrelChance bd_people bd_forkBits bd_unsure bd_tried bd_triedFedBits bf_seatOf bf_one bf_other bf_kind bf_years bf_sawn bf_pairs bf_gone nw_seatOf nw_one nw_other nw_kind nw_years nw_sawn nw_pairs nw_gone sc_seatOf sc_handle sc_both sc_slopOf sc_forkBits sc_canBits sc_bestBits sc_bestSlops sl_bits sl_count se_bestRow se_row se_pairAt se_hope se_hopeAt se_slopAt se_farBits se_gain se_worth se_bestWorth se_fresh ch_both ch_cost ch_bit ch_items ch_leastCost ch_leastBits cl_bits cl_count fi_sets fi_count ps_act ps_whom ps_amount ps_next ps_count i0_seatOf i0_one i0_other i0_kind i0_years i0_sawn i0_pairs i0_gone i1_seatOf i1_one i1_other i1_kind i1_years i1_sawn i1_pairs i1_gone i2_seatOf i2_one i2_other i2_kind i2_years i2_sawn i2_pairs i2_gone) (wX E ad x_imageCount x_lastTrouble x_lastFault x_lastPlace pa_names pa_faultNumber pa_faultPlace rd_tape rd_length rd_end rd_next rd_sort rd_start rd_value rd_word to_unsurePair to_unsureYears to_triedPair to_seats to_slack to_sawInches to_quarrelChance to_people to_forkBits to_unsure to_tried to_triedFedBits tf_seatOf tf_one tf_other tf_kind tf_years tf_sawn tf_pairs tf_gone bd_unsurePair bd_unsureYears bd_triedPair bd_seats bd_slack bd_sawInches bd_quarrelChance bd_people bd_forkBits bd_unsure bd_tried bd_triedFedBits bf_seatOf bf_one bf_other bf_kind bf_years bf_sawn bf_pairs bf_gone nw_seatOf nw_one nw_other nw_kind nw_years nw_sawn nw_pairs nw_gone sc_seatOf sc_handle sc_both sc_slopOf sc_forkBits sc_canBits sc_bestBits sc_bestSlops sl_bits sl_count se_bestRow se_row se_pairAt se_hope se_hopeAt se_slopAt se_farBits se_gain se_worth se_bestWorth se_fresh ch_both ch_cost ch_bit ch_items ch_leastCost ch_leastBits cl_bits cl_count fi_sets fi_count ps_act ps_whom ps_amount ps_next ps_count i0_seatOf i0_one i0_other i0_kind i0_years i0_sawn i0_pairs i0_gone i1_seatOf i1_one i1_other i1_kind i1_years i1_sawn i1_pairs i1_gone i2_seatOf i2_one i2_other i2_kind i2_years i2_sawn i2_pairs i2_gone) R0 := by
  refine xI_of (by decide) (Nat.le_of_ble_eq_true rfl) (fun p e s m args below meth c A C ls hl G => ?_)
  have hx := C.1
  have hb := C.2.1
  have hl : lv_has ls 3 [(0, .ref (ad 2))] := hl
  unfold f_Parser_useOfWord at hf
  refine lv_aload_n hx hb dX5_useOfWord_0 rfl (lv_at hl 0 rfl) ?_
  refine x_get C G fX5_12 (wX_at2) rfl dX5_useOfWord_1 ?_
  refine x_get C G fX5_63.g (wX_at4) rfl dX5_useOfWord_4 ?_
  refine lv_lstore_n (lv' := [(1, .long rd_word), (0, .ref (ad 2))]) hx hb dX5_useOfWord_7 rfl hl (by decide) rfl (fun ls hl => ?_)
  refine lv_lload_n hx hb dX5_useOfWord_8 rfl (lv_at hl 0 rfl) ?_
  refine lv_ldc2 hx hb C.2.2.2.1 (C.2.2.2.2.1 _ qX5_67) dX5_useOfWord_9 ?_
  refine W.lcmp hx hb dX5_useOfWord_12 ?_
  refine lv_if_ne (tgt := 18) hx hb dX5_useOfWord_13 (by decide) (fun h => ?_) (fun h => ?_)
  · have hf := it_f h hf
    refine lv_lload_n hx hb dX5_useOfWord_18 rfl (lv_at hl 0 rfl) ?_
    refine lv_ldc2 hx hb C.2.2.2.1 (C.2.2.2.2.1 _ qX5_69) dX5_useOfWord_19 ?_
    refine W.lcmp hx hb dX5_useOfWord_22 ?_
    refine lv_if_ne (tgt := 28) hx hb dX5_useOfWord_23 (by decide) (fun h => ?_) (fun h => ?_)
    · have hf := it_f h hf
      refine lv_lload_n hx hb dX5_useOfWord_28 rfl (lv_at hl 0 rfl) ?_
      refine lv_ldc2 hx hb C.2.2.2.1 (C.2.2.2.2.1 _ qX5_71) dX5_useOfWord_29 ?_
      refine W.lcmp hx hb dX5_useOfWord_32 ?_
      refine lv_if_ne (tgt := 38) hx hb dX5_useOfWord_33 (by decide) (fun h => ?_) (fun h => ?_)
      · have hf := it_f h hf
        refine lv_lload_n hx hb dX5_useOfWord_38 rfl (lv_at hl 0 rfl) ?_
        refine lv_ldc2 hx hb C.2.2.2.1 (C.2.2.2.2.1 _ qX5_73) dX5_useOfWord_39 ?_
        refine W.lcmp hx hb dX5_useOfWord_42 ?_
        refine lv_if_ne (tgt := 48) hx hb dX5_useOfWord_43 (by decide) (fun h => ?_) (fun h => ?_)
        · have hf := it_f h hf
          refine lv_lload_n hx hb dX5_useOfWord_48 rfl (lv_at hl 0 rfl) ?_
          refine lv_ldc2 hx hb C.2.2.2.1 (C.2.2.2.2.1 _ qX5_75) dX5_useOfWord_49 ?_
          refine W.lcmp hx hb dX5_useOfWord_52 ?_
          refine lv_if_ne (tgt := 58) hx hb dX5_useOfWord_53 (by decide) (fun h => ?_) (fun h => ?_)
          · have hf := it_f h hf
            refine lv_lload_n hx hb dX5_useOfWord_58 rfl (lv_at hl 0 rfl) ?_
            refine lv_ldc2 hx hb C.2.2.2.1 (C.2.2.2.2.1 _ qX5_77) dX5_useOfWord_59 ?_
            refine W.lcmp hx hb dX5_useOfWord_62 ?_
            refine lv_if_ne (tgt := 68) hx hb dX5_useOfWord_63 (by decide) (fun h => ?_) (fun h => ?_)
            · have hf := it_f h hf
              refine lv_lload_n hx hb dX5_useOfWord_68 rfl (lv_at hl 0 rfl) ?_
              refine lv_lconst (v := 0) hx hb dX5_useOfWord_69 (by decide) ?_
              refine W.lcmp hx hb dX5_useOfWord_70 ?_
              refine lv_if_eq (tgt := 79) hx hb dX5_useOfWord_71 (by decide) (fun h => ?_) (fun h => ?_)
              · have hf := it_t h hf
                refine lv_bipush (v := 7) hx hb dX5_useOfWord_79 (by decide) ?_
                obtain rfl := Option.some.inj hf
                exact xI_ret C G rfl dX5_useOfWord_81
              · have hf := it_f h hf
                refine lv_bipush (v := 6) hx hb dX5_useOfWord_74 (by decide) ?_
                refine lv_goto (tgt := 81) hx hb dX5_useOfWord_76 (by decide) ?_
                obtain rfl := Option.some.inj hf
                exact xI_ret C G rfl dX5_useOfWord_81
            · have hf := it_t h hf
              refine lv_iconst (v := 5) hx hb dX5_useOfWord_66 (by decide) ?_
              obtain rfl := Option.some.inj hf
              exact xI_ret C G rfl dX5_useOfWord_67
          · have hf := it_t h hf
            refine lv_iconst (v := 4) hx hb dX5_useOfWord_56 (by decide) ?_
            obtain rfl := Option.some.inj hf
            exact xI_ret C G rfl dX5_useOfWord_57
        · have hf := it_t h hf
          refine lv_iconst (v := 3) hx hb dX5_useOfWord_46 (by decide) ?_
          obtain rfl := Option.some.inj hf
          exact xI_ret C G rfl dX5_useOfWord_47
      · have hf := it_t h hf
        refine lv_iconst (v := 2) hx hb dX5_useOfWord_36 (by decide) ?_
        obtain rfl := Option.some.inj hf
        exact xI_ret C G rfl dX5_useOfWord_37
    · have hf := it_t h hf
      refine lv_iconst (v := 1) hx hb dX5_useOfWord_26 (by decide) ?_
      obtain rfl := Option.some.inj hf
      exact xI_ret C G rfl dX5_useOfWord_27
  · have hf := it_t h hf
    refine lv_iconst (v := 0) hx hb dX5_useOfWord_16 (by decide) ?_
    obtain rfl := Option.some.inj hf
    exact xI_ret C G rfl dX5_useOfWord_17
set_option maxHeartbeats 4000000 in
set_option maxRecDepth 100000 in
theorem c_JInt_bitCount_any {l : Launch} {E : xE} {ws : va_W} {l0 : Int32} {R0 : Int32} (hf : f_JInt_bitCount l0 = some R0) : xI l E yJ6_bitCount_0f7a4 cJ6_bitCount_0f7a4 1 (some .int) 0 0 [.int l0] ws ws R0 := by
  refine xI_of (by decide) (Nat.le_of_ble_eq_true rfl) (fun p e s m args below meth c A C ls hl G => ?_)
  have hx := C.1
  have hb := C.2.1
  have hl : lv_has ls 1 [(0, .int l0)] := hl
  unfold f_JInt_bitCount at hf
  refine lv_iload_n hx hb dJ6_bitCount_0f7a4_0 rfl (lv_at hl 0 rfl) ?_
  refine lv_iload_n hx hb dJ6_bitCount_0f7a4_1 rfl (lv_at hl 0 rfl) ?_
  refine lv_iconst (v := 1) hx hb dJ6_bitCount_0f7a4_2 (by decide) ?_
  refine lv_iushr hx hb dJ6_bitCount_0f7a4_3 rfl ?_
  refine lv_ldcw hx hb C.2.2.2.1 (C.2.2.2.2.1 _ qJ6_265) dJ6_bitCount_0f7a4_4 ?_
  refine lv_iand hx hb dJ6_bitCount_0f7a4_7 ?_
  refine lv_isub hx hb dJ6_bitCount_0f7a4_8 ?_
  refine lv_topi (fun x1 ex1 => ?_)
  have hf := lt_go ex1 hf
  refine lv_istore_n (lv' := [(0, .int x1)]) hx hb dJ6_bitCount_0f7a4_9 rfl hl (by decide) rfl (fun ls hl => ?_)
  refine lv_iload_n hx hb dJ6_bitCount_0f7a4_10 rfl (lv_at hl 0 rfl) ?_
  refine lv_ldcw hx hb C.2.2.2.1 (C.2.2.2.2.1 _ qJ6_266) dJ6_bitCount_0f7a4_11 ?_
  refine lv_iand hx hb dJ6_bitCount_0f7a4_14 ?_
  refine lv_iload_n hx hb dJ6_bitCount_0f7a4_15 rfl (lv_at hl 0 rfl) ?_
  refine lv_iconst (v := 2) hx hb dJ6_bitCount_0f7a4_16 (by decide) ?_
  refine lv_iushr hx hb dJ6_bitCount_0f7a4_17 rfl ?_
  refine lv_ldcw hx hb C.2.2.2.1 (C.2.2.2.2.1 _ qJ6_266) dJ6_bitCount_0f7a4_18 ?_
  refine lv_iand hx hb dJ6_bitCount_0f7a4_21 ?_
  refine lv_iadd hx hb dJ6_bitCount_0f7a4_22 ?_
  refine lv_topi (fun x2 ex2 => ?_)
  have hf := lt_go ex2 hf
  refine lv_istore_n (lv' := [(0, .int x2)]) hx hb dJ6_bitCount_0f7a4_23 rfl hl (by decide) rfl (fun ls hl => ?_)
  refine lv_iload_n hx hb dJ6_bitCount_0f7a4_24 rfl (lv_at hl 0 rfl) ?_
  refine lv_iload_n hx hb dJ6_bitCount_0f7a4_25 rfl (lv_at hl 0 rfl) ?_
  refine lv_iconst (v := 4) hx hb dJ6_bitCount_0f7a4_26 (by decide) ?_
  refine lv_iushr hx hb dJ6_bitCount_0f7a4_27 rfl ?_
  refine lv_iadd hx hb dJ6_bitCount_0f7a4_28 ?_
  refine lv_ldcw hx hb C.2.2.2.1 (C.2.2.2.2.1 _ qJ6_267) dJ6_bitCount_0f7a4_29 ?_
  refine lv_iand hx hb dJ6_bitCount_0f7a4_32 ?_
  refine lv_topi (fun x3 ex3 => ?_)
  have hf := lt_go ex3 hf
  refine lv_istore_n (lv' := [(0, .int x3)]) hx hb dJ6_bitCount_0f7a4_33 rfl hl (by decide) rfl (fun ls hl => ?_)
  refine lv_iload_n hx hb dJ6_bitCount_0f7a4_34 rfl (lv_at hl 0 rfl) ?_
  refine lv_iload_n hx hb dJ6_bitCount_0f7a4_35 rfl (lv_at hl 0 rfl) ?_
  refine lv_bipush (v := 8) hx hb dJ6_bitCount_0f7a4_36 (by decide) ?_
  refine lv_iushr hx hb dJ6_bitCount_0f7a4_38 rfl ?_
  refine lv_iadd hx hb dJ6_bitCount_0f7a4_39 ?_
  refine lv_topi (fun x4 ex4 => ?_)
  have hf := lt_go ex4 hf
  refine lv_istore_n (lv' := [(0, .int x4)]) hx hb dJ6_bitCount_0f7a4_40 rfl hl (by decide) rfl (fun ls hl => ?_)
  refine lv_iload_n hx hb dJ6_bitCount_0f7a4_41 rfl (lv_at hl 0 rfl) ?_
  refine lv_iload_n hx hb dJ6_bitCount_0f7a4_42 rfl (lv_at hl 0 rfl) ?_
  refine lv_bipush (v := 16) hx hb dJ6_bitCount_0f7a4_43 (by decide) ?_
  refine lv_iushr hx hb dJ6_bitCount_0f7a4_45 rfl ?_
  refine lv_iadd hx hb dJ6_bitCount_0f7a4_46 ?_
  refine lv_topi (fun x5 ex5 => ?_)
  have hf := lt_go ex5 hf
  refine lv_istore_n (lv' := [(0, .int x5)]) hx hb dJ6_bitCount_0f7a4_47 rfl hl (by decide) rfl (fun ls hl => ?_)
  refine lv_iload_n hx hb dJ6_bitCount_0f7a4_48 rfl (lv_at hl 0 rfl) ?_
  refine lv_bipush (v := 63) hx hb dJ6_bitCount_0f7a4_49 (by decide) ?_
  refine lv_iand hx hb dJ6_bitCount_0f7a4_51 ?_
  obtain rfl := Option.some.inj hf
  exact xI_ret C G rfl dJ6_bitCount_0f7a4_52
set_option maxHeartbeats 4000000 in
set_option maxRecDepth 100000 in
theorem c_Parser_isFull_pa {l : Launch} {E : xE} {ad : Nat → Nat} {x_imageCount x_lastTrouble x_lastFault x_lastPlace pa_faultNumber pa_faultPlace rd_length rd_end rd_next rd_sort rd_start rd_value to_seats to_slack to_sawInches to_quarrelChance to_people to_forkBits to_unsure to_tried to_triedFedBits tf_pairs tf_gone bd_seats bd_slack bd_sawInches bd_quarrelChance bd_people bd_forkBits bd_unsure bd_tried bd_triedFedBits bf_pairs bf_gone nw_pairs nw_gone sc_forkBits sc_canBits sc_bestBits sc_bestSlops sl_count se_bestWorth se_fresh ch_items ch_leastCost ch_leastBits cl_count fi_count ps_next ps_count i0_pairs i0_gone i1_pairs i1_gone i2_pairs i2_gone : Int32} {pa_names : Nat → Int64} {rd_tape to_unsurePair to_unsureYears to_triedPair tf_seatOf tf_one tf_other tf_kind tf_years tf_sawn bd_unsurePair bd_unsureYears bd_triedPair bf_seatOf bf_one bf_other bf_kind bf_years bf_sawn nw_seatOf nw_one nw_other nw_kind nw_years nw_sawn sc_seatOf sc_handle sc_both sc_slopOf sl_bits se_bestRow se_row se_pairAt se_hope se_hopeAt se_slopAt se_farBits se_gain se_worth ch_both ch_cost ch_bit cl_bits fi_sets ps_act ps_whom ps_amount i0_seatOf i0_one i0_other i0_kind i0_years i0_sawn i1_seatOf i1_one i1_other i1_kind i1_years i1_sawn i2_seatOf i2_one i2_other i2_kind i2_years i2_sawn : Nat → Int32} {rd_word : Int64} {l1 : Int32} {R0 : Int32} (hf : f_Parser_isFull l1 to_people to_forkBits to_unsure to_tried tf_pairs = some R0) : xI l E yX5_isFull cX5_isFull 2 (some .boolean) 1 20 [.ref (ad 2), .int l1] (wX E ad x_imageCount x_lastTrouble x_lastFault x_lastPlace pa_names pa_faultNumber pa_faultPlace rd_tape rd_length rd_end rd_next rd_sort rd_start rd_value rd_word to_unsurePair to_unsureYears to_triedPair to_seats to_slack to_sawInches to_quarrelChance to_people to_forkBits to_unsure to_tried to_triedFedBits tf_seatOf tf_one tf_other tf_kind tf_years tf_sawn tf_pairs tf_gone bd_unsurePair bd_unsureYears bd_triedPair bd_seats bd_slack bd_sawInches bd_quarrelChance bd_people bd_forkBits bd_unsure bd_tried bd_triedFedBits bf_seatOf bf_one bf_other bf_kind bf_years bf_sawn bf_pairs bf_gone nw_seatOf nw_one nw_other nw_kind nw_years nw_sawn nw_pairs nw_gone sc_seatOf sc_handle sc_both sc_slopOf sc_forkBits sc_canBits sc_bestBits sc_bestSlops sl_bits sl_count se_bestRow se_row se_pairAt se_hope se_hopeAt se_slopAt se_farBits se_gain se_worth se_bestWorth se_fresh ch_both ch_cost ch_bit ch_items ch_leastCost ch_leastBits cl_bits cl_count fi_sets fi_count ps_act ps_whom ps_amount ps_next ps_count i0_seatOf i0_one i0_other i0_kind i0_years i0_sawn i0_pairs i0_gone i1_seatOf i1_one i1_other i1_kind i1_years i1_sawn i1_pairs i1_gone i2_seatOf i2_one i2_other i2_kind i2_years i2_sawn i2_pairs i2_gone) (wX E ad x_imageCount x_lastTrouble x_lastFault x_lastPlace pa_names pa_faultNumber pa_faultPlace rd_tape rd_length rd_end rd_next rd_sort rd_start rd_value rd_word to_unsurePair to_unsureYears to_triedPair to_seats to_slack to_sawInches to_quarrelChance to_people to_forkBits to_unsure to_tried to_triedFedBits tf_seatOf tf_one tf_other tf_kind tf_years tf_sawn tf_pairs tf_gone bd_unsurePair bd_unsureYears bd_triedPair bd_seats bd_slack bd_sawInches bd_quarrelChance bd_people bd_forkBits bd_unsure bd_tried bd_triedFedBits bf_seatOf bf_one bf_other bf_kind bf_years bf_sawn bf_pairs bf_gone nw_seatOf nw_one nw_other nw_kind nw_years nw_sawn nw_pairs nw_gone sc_seatOf sc_handle sc_both sc_slopOf sc_forkBits sc_canBits sc_bestBits sc_bestSlops sl_bits sl_count se_bestRow se_row se_pairAt se_hope se_hopeAt se_slopAt se_farBits se_gain se_worth se_bestWorth se_fresh ch_both ch_cost ch_bit ch_items ch_leastCost ch_leastBits cl_bits cl_count fi_sets fi_count ps_act ps_whom ps_amount ps_next ps_count i0_seatOf i0_one i0_other i0_kind i0_years i0_sawn i0_pairs i0_gone i1_seatOf i1_one i1_other i1_kind i1_years i1_sawn i1_pairs i1_gone i2_seatOf i2_one i2_other i2_kind i2_years i2_sawn i2_pairs i2_gone) R0 := by
  refine xI_of (by decide) (Nat.le_of_ble_eq_true rfl) (fun p e s m args below meth c A C ls hl G => ?_)
  have hx := C.1
  have hb := C.2.1
  have hl : lv_has ls 2 [(0, .ref (ad 2)), (1, .int l1)] := hl
  unfold f_Parser_isFull at hf
  refine lv_iload_n hx hb dX5_isFull_0 rfl (lv_at hl 1 rfl) ?_
  by_cases hs1 : l1 = (1 : Int32)
  · have hf := it_t hs1 hf
    refine x_tab (k := 1) (tgt := 36) hx hb dX5_isFull_1 hs1 (by decide) (by decide) rfl (by decide) ?_
    refine lv_aload_n hx hb dX5_isFull_36 rfl (lv_at hl 0 rfl) ?_
    refine x_get C G fX5_21 (wX_at2) rfl dX5_isFull_37 ?_
    refine x_get C G fX5_50.g (wX_at6) rfl dX5_isFull_40 ?_
    refine lv_iconst (v := 5) hx hb dX5_isFull_43 (by decide) ?_
    refine lv_icmp_lt (tgt := 51) hx hb dX5_isFull_44 (by decide) (fun h => ?_) (fun h => ?_)
    · have hf := it_t h hf
      refine lv_iconst (v := 0) hx hb dX5_isFull_51 (by decide) ?_
      obtain rfl := Option.some.inj hf
      exact xI_ret (r := (0 : Int32)) C G rfl dX5_isFull_52
    · have hf := it_f h hf
      refine lv_iconst (v := 1) hx hb dX5_isFull_47 (by decide) ?_
      refine lv_goto (tgt := 52) hx hb dX5_isFull_48 (by decide) ?_
      obtain rfl := Option.some.inj hf
      exact xI_ret (r := (1 : Int32)) C G rfl dX5_isFull_52
  have hf := it_f hs1 hf
  by_cases hs2 : l1 = (2 : Int32)
  · have hf := it_t hs2 hf
    refine x_tab (k := 2) (tgt := 53) hx hb dX5_isFull_1 hs2 (by decide) (by decide) rfl (by decide) ?_
    refine lv_aload_n hx hb dX5_isFull_53 rfl (lv_at hl 0 rfl) ?_
    refine x_get C G fX5_21 (wX_at2) rfl dX5_isFull_54 ?_
    refine x_get C G fX5_107.g (wX_at6) rfl dX5_isFull_57 ?_
    obtain ⟨x1, hc, hf⟩ := bd_go hf
    refine xI_S C G (c_JInt_bitCount_any hc) mJ6_bitCount_0f7a4 kX5_110 ⟨Nat.le_of_ble_eq_true rfl, Nat.le_of_ble_eq_true rfl⟩ rfl hl.1 rfl (Nat.le_of_ble_eq_true rfl) ⟨Nat.le_refl _, Nat.le_refl _⟩ dX5_isFull_60 (fun hz H locs G => ?_)
    refine lv_iconst (v := 4) hx hb dX5_isFull_63 (by decide) ?_
    refine lv_icmp_lt (tgt := 71) hx hb dX5_isFull_64 (by decide) (fun h => ?_) (fun h => ?_)
    · have hf := it_t h hf
      refine lv_iconst (v := 0) hx hb dX5_isFull_71 (by decide) ?_
      obtain rfl := Option.some.inj hf
      exact xI_ret (r := (0 : Int32)) C G rfl dX5_isFull_72
    · have hf := it_f h hf
      refine lv_iconst (v := 1) hx hb dX5_isFull_67 (by decide) ?_
      refine lv_goto (tgt := 72) hx hb dX5_isFull_68 (by decide) ?_
      obtain rfl := Option.some.inj hf
      exact xI_ret (r := (1 : Int32)) C G rfl dX5_isFull_72
  have hf := it_f hs2 hf
  by_cases hs3 : l1 = (3 : Int32)
  · have hf := it_t hs3 hf
    refine x_tab (k := 3) (tgt := 73) hx hb dX5_isFull_1 hs3 (by decide) (by decide) rfl (by decide) ?_
    refine lv_aload_n hx hb dX5_isFull_73 rfl (lv_at hl 0 rfl) ?_
    refine x_get C G fX5_21 (wX_at2) rfl dX5_isFull_74 ?_
    refine x_get C G fX5_116 (wX_at6) rfl dX5_isFull_77 ?_
    refine x_get C G fX5_120.g (wX_at10) rfl dX5_isFull_80 ?_
    refine lv_bipush (v := 10) hx hb dX5_isFull_83 (by decide) ?_
    refine lv_icmp_lt (tgt := 92) hx hb dX5_isFull_85 (by decide) (fun h => ?_) (fun h => ?_)
    · have hf := it_t h hf
      refine lv_iconst (v := 0) hx hb dX5_isFull_92 (by decide) ?_
      obtain rfl := Option.some.inj hf
      exact xI_ret (r := (0 : Int32)) C G rfl dX5_isFull_93
    · have hf := it_f h hf
      refine lv_iconst (v := 1) hx hb dX5_isFull_88 (by decide) ?_
      refine lv_goto (tgt := 93) hx hb dX5_isFull_89 (by decide) ?_
      obtain rfl := Option.some.inj hf
      exact xI_ret (r := (1 : Int32)) C G rfl dX5_isFull_93
  have hf := it_f hs3 hf
  by_cases hs4 : l1 = (4 : Int32)
  · have hf := it_t hs4 hf
    refine x_tab (k := 4) (tgt := 94) hx hb dX5_isFull_1 hs4 (by decide) (by decide) rfl (by decide) ?_
    refine lv_aload_n hx hb dX5_isFull_94 rfl (lv_at hl 0 rfl) ?_
    refine x_get C G fX5_21 (wX_at2) rfl dX5_isFull_95 ?_
    refine x_get C G fX5_125.g (wX_at6) rfl dX5_isFull_98 ?_
    refine lv_iconst (v := 4) hx hb dX5_isFull_101 (by decide) ?_
    refine lv_icmp_lt (tgt := 109) hx hb dX5_isFull_102 (by decide) (fun h => ?_) (fun h => ?_)
    · have hf := it_t h hf
      refine lv_iconst (v := 0) hx hb dX5_isFull_109 (by decide) ?_
      obtain rfl := Option.some.inj hf
      exact xI_ret (r := (0 : Int32)) C G rfl dX5_isFull_110
    · have hf := it_f h hf
      refine lv_iconst (v := 1) hx hb dX5_isFull_105 (by decide) ?_
      refine lv_goto (tgt := 110) hx hb dX5_isFull_106 (by decide) ?_
      obtain rfl := Option.some.inj hf
      exact xI_ret (r := (1 : Int32)) C G rfl dX5_isFull_110
  have hf := it_f hs4 hf
  by_cases hs5 : l1 = (5 : Int32)
  · have hf := it_t hs5 hf
    refine x_tab (k := 5) (tgt := 111) hx hb dX5_isFull_1 hs5 (by decide) (by decide) rfl (by decide) ?_
    refine lv_aload_n hx hb dX5_isFull_111 rfl (lv_at hl 0 rfl) ?_
    refine x_get C G fX5_21 (wX_at2) rfl dX5_isFull_112 ?_
    refine x_get C G fX5_128.g (wX_at6) rfl dX5_isFull_115 ?_
    refine lv_bipush (v := 6) hx hb dX5_isFull_118 (by decide) ?_
    refine lv_icmp_lt (tgt := 127) hx hb dX5_isFull_120 (by decide) (fun h => ?_) (fun h => ?_)
    · have hf := it_t h hf
      refine lv_iconst (v := 0) hx hb dX5_isFull_127 (by decide) ?_
      obtain rfl := Option.some.inj hf
      exact xI_ret (r := (0 : Int32)) C G rfl dX5_isFull_128
    · have hf := it_f h hf
      refine lv_iconst (v := 1) hx hb dX5_isFull_123 (by decide) ?_
      refine lv_goto (tgt := 128) hx hb dX5_isFull_124 (by decide) ?_
      obtain rfl := Option.some.inj hf
      exact xI_ret (r := (1 : Int32)) C G rfl dX5_isFull_128
  have hf := it_f hs5 hf
  refine lv_tableOut (tgt := 129) hx hb dX5_isFull_1 (by have w1 := x_ne 1 rfl hs1; have w2 := x_ne 2 rfl hs2; have w3 := x_ne 3 rfl hs3; have w4 := x_ne 4 rfl hs4; have w5 := x_ne 5 rfl hs5; omega) (by decide) ?_
  refine lv_iconst (v := 0) hx hb dX5_isFull_129 (by decide) ?_
  obtain rfl := Option.some.inj hf
  exact xI_ret (r := (0 : Int32)) C G rfl dX5_isFull_130
set_option maxHeartbeats 4000000 in
set_option maxRecDepth 100000 in
theorem c_Parser_wrong_pa {l : Launch} {E : xE} {ad : Nat → Nat} {x_imageCount x_lastTrouble x_lastFault x_lastPlace pa_faultNumber pa_faultPlace rd_length rd_end rd_next rd_sort rd_start rd_value to_seats to_slack to_sawInches to_quarrelChance to_people to_forkBits to_unsure to_tried to_triedFedBits tf_pairs tf_gone bd_seats bd_slack bd_sawInches bd_quarrelChance bd_people bd_forkBits bd_unsure bd_tried bd_triedFedBits bf_pairs bf_gone nw_pairs nw_gone sc_forkBits sc_canBits sc_bestBits sc_bestSlops sl_count se_bestWorth se_fresh ch_items ch_leastCost ch_leastBits cl_count fi_count ps_next ps_count i0_pairs i0_gone i1_pairs i1_gone i2_pairs i2_gone : Int32} {pa_names : Nat → Int64} {rd_tape to_unsurePair to_unsureYears to_triedPair tf_seatOf tf_one tf_other tf_kind tf_years tf_sawn bd_unsurePair bd_unsureYears bd_triedPair bf_seatOf bf_one bf_other bf_kind bf_years bf_sawn nw_seatOf nw_one nw_other nw_kind nw_years nw_sawn sc_seatOf sc_handle sc_both sc_slopOf sl_bits se_bestRow se_row se_pairAt se_hope se_hopeAt se_slopAt se_farBits se_gain se_worth ch_both ch_cost ch_bit cl_bits fi_sets ps_act ps_whom ps_amount i0_seatOf i0_one i0_other i0_kind i0_years i0_sawn i1_seatOf i1_one i1_other i1_kind i1_years i1_sawn i2_seatOf i2_one i2_other i2_kind i2_years i2_sawn : Nat → Int32} {rd_word : Int64} {l1 : Int32} {R0 : Int32 × Int32 × Int32} (hf : f_Parser_wrong l1 rd_start = some R0) : xI l E yX5_wrong cX5_wrong 2 (some .boolean) 0 0 [.ref (ad 2), .int l1] (wX E ad x_imageCount x_lastTrouble x_lastFault x_lastPlace pa_names pa_faultNumber pa_faultPlace rd_tape rd_length rd_end rd_next rd_sort rd_start rd_value rd_word to_unsurePair to_unsureYears to_triedPair to_seats to_slack to_sawInches to_quarrelChance to_people to_forkBits to_unsure to_tried to_triedFedBits tf_seatOf tf_one tf_other tf_kind tf_years tf_sawn tf_pairs tf_gone bd_unsurePair bd_unsureYears bd_triedPair bd_seats bd_slack bd_sawInches bd_quarrelChance bd_people bd_forkBits bd_unsure bd_tried bd_triedFedBits bf_seatOf bf_one bf_other bf_kind bf_years bf_sawn bf_pairs bf_gone nw_seatOf nw_one nw_other nw_kind nw_years nw_sawn nw_pairs nw_gone sc_seatOf sc_handle sc_both sc_slopOf sc_forkBits sc_canBits sc_bestBits sc_bestSlops sl_bits sl_count se_bestRow se_row se_pairAt se_hope se_hopeAt se_slopAt se_farBits se_gain se_worth se_bestWorth se_fresh ch_both ch_cost ch_bit ch_items ch_leastCost ch_leastBits cl_bits cl_count fi_sets fi_count ps_act ps_whom ps_amount ps_next ps_count i0_seatOf i0_one i0_other i0_kind i0_years i0_sawn i0_pairs i0_gone i1_seatOf i1_one i1_other i1_kind i1_years i1_sawn i1_pairs i1_gone i2_seatOf i2_one i2_other i2_kind i2_years i2_sawn i2_pairs i2_gone) (wX E ad x_imageCount x_lastTrouble x_lastFault x_lastPlace pa_names R0.2.1 R0.2.2 rd_tape rd_length rd_end rd_next rd_sort rd_start rd_value rd_word to_unsurePair to_unsureYears to_triedPair to_seats to_slack to_sawInches to_quarrelChance to_people to_forkBits to_unsure to_tried to_triedFedBits tf_seatOf tf_one tf_other tf_kind tf_years tf_sawn tf_pairs tf_gone bd_unsurePair bd_unsureYears bd_triedPair bd_seats bd_slack bd_sawInches bd_quarrelChance bd_people bd_forkBits bd_unsure bd_tried bd_triedFedBits bf_seatOf bf_one bf_other bf_kind bf_years bf_sawn bf_pairs bf_gone nw_seatOf nw_one nw_other nw_kind nw_years nw_sawn nw_pairs nw_gone sc_seatOf sc_handle sc_both sc_slopOf sc_forkBits sc_canBits sc_bestBits sc_bestSlops sl_bits sl_count se_bestRow se_row se_pairAt se_hope se_hopeAt se_slopAt se_farBits se_gain se_worth se_bestWorth se_fresh ch_both ch_cost ch_bit ch_items ch_leastCost ch_leastBits cl_bits cl_count fi_sets fi_count ps_act ps_whom ps_amount ps_next ps_count i0_seatOf i0_one i0_other i0_kind i0_years i0_sawn i0_pairs i0_gone i1_seatOf i1_one i1_other i1_kind i1_years i1_sawn i1_pairs i1_gone i2_seatOf i2_one i2_other i2_kind i2_years i2_sawn i2_pairs i2_gone) R0.1 := by
  refine xI_of (by decide) (Nat.le_of_ble_eq_true rfl) (fun p e s m args below meth c A C ls hl G => ?_)
  have hx := C.1
  have hb := C.2.1
  have hl : lv_has ls 2 [(0, .ref (ad 2)), (1, .int l1)] := hl
  unfold f_Parser_wrong at hf
  refine lv_aload_n hx hb dX5_wrong_0 rfl (lv_at hl 0 rfl) ?_
  refine lv_iload_n hx hb dX5_wrong_1 rfl (lv_at hl 1 rfl) ?_
  refine x_put (ws' := (wX E ad x_imageCount x_lastTrouble x_lastFault x_lastPlace pa_names l1 pa_faultPlace rd_tape rd_length rd_end rd_next rd_sort rd_start rd_value rd_word to_unsurePair to_unsureYears to_triedPair to_seats to_slack to_sawInches to_quarrelChance to_people to_forkBits to_unsure to_tried to_triedFedBits tf_seatOf tf_one tf_other tf_kind tf_years tf_sawn tf_pairs tf_gone bd_unsurePair bd_unsureYears bd_triedPair bd_seats bd_slack bd_sawInches bd_quarrelChance bd_people bd_forkBits bd_unsure bd_tried bd_triedFedBits bf_seatOf bf_one bf_other bf_kind bf_years bf_sawn bf_pairs bf_gone nw_seatOf nw_one nw_other nw_kind nw_years nw_sawn nw_pairs nw_gone sc_seatOf sc_handle sc_both sc_slopOf sc_forkBits sc_canBits sc_bestBits sc_bestSlops sl_bits sl_count se_bestRow se_row se_pairAt se_hope se_hopeAt se_slopAt se_farBits se_gain se_worth se_bestWorth se_fresh ch_both ch_cost ch_bit ch_items ch_leastCost ch_leastBits cl_bits cl_count fi_sets fi_count ps_act ps_whom ps_amount ps_next ps_count i0_seatOf i0_one i0_other i0_kind i0_years i0_sawn i0_pairs i0_gone i1_seatOf i1_one i1_other i1_kind i1_years i1_sawn i1_pairs i1_gone i2_seatOf i2_one i2_other i2_kind i2_years i2_sawn i2_pairs i2_gone)) C G fX5_32 (wX_at2) rfl rfl (Nat.le_of_ble_eq_true rfl) wX_set_pa_faultNumber dX5_wrong_2 (fun H locs G => ?_)
  refine lv_aload_n hx hb dX5_wrong_5 rfl (lv_at hl 0 rfl) ?_
  refine lv_aload_n hx hb dX5_wrong_6 rfl (lv_at hl 0 rfl) ?_
  refine x_get C G fX5_12 (wX_at2) rfl dX5_wrong_7 ?_
  refine x_get C G fX5_60.g (wX_at4) rfl dX5_wrong_10 ?_
  refine x_put (ws' := (wX E ad x_imageCount x_lastTrouble x_lastFault x_lastPlace pa_names l1 rd_start rd_tape rd_length rd_end rd_next rd_sort rd_start rd_value rd_word to_unsurePair to_unsureYears to_triedPair to_seats to_slack to_sawInches to_quarrelChance to_people to_forkBits to_unsure to_tried to_triedFedBits tf_seatOf tf_one tf_other tf_kind tf_years tf_sawn tf_pairs tf_gone bd_unsurePair bd_unsureYears bd_triedPair bd_seats bd_slack bd_sawInches bd_quarrelChance bd_people bd_forkBits bd_unsure bd_tried bd_triedFedBits bf_seatOf bf_one bf_other bf_kind bf_years bf_sawn bf_pairs bf_gone nw_seatOf nw_one nw_other nw_kind nw_years nw_sawn nw_pairs nw_gone sc_seatOf sc_handle sc_both sc_slopOf sc_forkBits sc_canBits sc_bestBits sc_bestSlops sl_bits sl_count se_bestRow se_row se_pairAt se_hope se_hopeAt se_slopAt se_farBits se_gain se_worth se_bestWorth se_fresh ch_both ch_cost ch_bit ch_items ch_leastCost ch_leastBits cl_bits cl_count fi_sets fi_count ps_act ps_whom ps_amount ps_next ps_count i0_seatOf i0_one i0_other i0_kind i0_years i0_sawn i0_pairs i0_gone i1_seatOf i1_one i1_other i1_kind i1_years i1_sawn i1_pairs i1_gone i2_seatOf i2_one i2_other i2_kind i2_years i2_sawn i2_pairs i2_gone)) C G fX5_36 (wX_at2) rfl rfl (Nat.le_of_ble_eq_true rfl) wX_set_pa_faultPlace dX5_wrong_13 (fun H locs G => ?_)
  refine lv_iconst (v := 0) hx hb dX5_wrong_16 (by decide) ?_
  obtain rfl := Option.some.inj hf
  exact xI_ret (r := (0 : Int32)) C G rfl dX5_wrong_17
set_option maxHeartbeats 4000000 in
set_option maxRecDepth 100000 in
theorem c_Parser_isKeyword_pa {l : Launch} {E : xE} {ad : Nat → Nat} {x_imageCount x_lastTrouble x_lastFault x_lastPlace pa_faultNumber pa_faultPlace rd_length rd_end rd_next rd_sort rd_start rd_value to_seats to_slack to_sawInches to_quarrelChance to_people to_forkBits to_unsure to_tried to_triedFedBits tf_pairs tf_gone bd_seats bd_slack bd_sawInches bd_quarrelChance bd_people bd_forkBits bd_unsure bd_tried bd_triedFedBits bf_pairs bf_gone nw_pairs nw_gone sc_forkBits sc_canBits sc_bestBits sc_bestSlops sl_count se_bestWorth se_fresh ch_items ch_leastCost ch_leastBits cl_count fi_count ps_next ps_count i0_pairs i0_gone i1_pairs i1_gone i2_pairs i2_gone : Int32} {pa_names : Nat → Int64} {rd_tape to_unsurePair to_unsureYears to_triedPair tf_seatOf tf_one tf_other tf_kind tf_years tf_sawn bd_unsurePair bd_unsureYears bd_triedPair bf_seatOf bf_one bf_other bf_kind bf_years bf_sawn nw_seatOf nw_one nw_other nw_kind nw_years nw_sawn sc_seatOf sc_handle sc_both sc_slopOf sl_bits se_bestRow se_row se_pairAt se_hope se_hopeAt se_slopAt se_farBits se_gain se_worth ch_both ch_cost ch_bit cl_bits fi_sets ps_act ps_whom ps_amount i0_seatOf i0_one i0_other i0_kind i0_years i0_sawn i1_seatOf i1_one i1_other i1_kind i1_years i1_sawn i2_seatOf i2_one i2_other i2_kind i2_years i2_sawn : Nat → Int32} {rd_word : Int64} {l1 : Int64} {R0 : Int32 × Int32 × Int32} (hf : f_Parser_isKeyword l1 pa_faultNumber pa_faultPlace rd_start rd_word = some R0) : xI l E yX5_isKeyword cX5_isKeyword 3 (some .boolean) 1 21 [.ref (ad 2), .long l1] (wX E ad x_imageCount x_lastTrouble x_lastFault x_lastPlace pa_names pa_faultNumber pa_faultPlace rd_tape rd_length rd_end rd_next rd_sort rd_start rd_value rd_word to_unsurePair to_unsureYears to_triedPair to_seats to_slack to_sawInches to_quarrelChance to_people to_forkBits to_unsure to_tried to_triedFedBits tf_seatOf tf_one tf_other tf_kind tf_years tf_sawn tf_pairs tf_gone bd_unsurePair bd_unsureYears bd_triedPair bd_seats bd_slack bd_sawInches bd_quarrelChance bd_people bd_forkBits bd_unsure bd_tried bd_triedFedBits bf_seatOf bf_one bf_other bf_kind bf_years bf_sawn bf_pairs bf_gone nw_seatOf nw_one nw_other nw_kind nw_years nw_sawn nw_pairs nw_gone sc_seatOf sc_handle sc_both sc_slopOf sc_forkBits sc_canBits sc_bestBits sc_bestSlops sl_bits sl_count se_bestRow se_row se_pairAt se_hope se_hopeAt se_slopAt se_farBits se_gain se_worth se_bestWorth se_fresh ch_both ch_cost ch_bit ch_items ch_leastCost ch_leastBits cl_bits cl_count fi_sets fi_count ps_act ps_whom ps_amount ps_next ps_count i0_seatOf i0_one i0_other i0_kind i0_years i0_sawn i0_pairs i0_gone i1_seatOf i1_one i1_other i1_kind i1_years i1_sawn i1_pairs i1_gone i2_seatOf i2_one i2_other i2_kind i2_years i2_sawn i2_pairs i2_gone) (wX E ad x_imageCount x_lastTrouble x_lastFault x_lastPlace pa_names R0.2.1 R0.2.2 rd_tape rd_length rd_end rd_next rd_sort rd_start rd_value rd_word to_unsurePair to_unsureYears to_triedPair to_seats to_slack to_sawInches to_quarrelChance to_people to_forkBits to_unsure to_tried to_triedFedBits tf_seatOf tf_one tf_other tf_kind tf_years tf_sawn tf_pairs tf_gone bd_unsurePair bd_unsureYears bd_triedPair bd_seats bd_slack bd_sawInches bd_quarrelChance bd_people bd_forkBits bd_unsure bd_tried bd_triedFedBits bf_seatOf bf_one bf_other bf_kind bf_years bf_sawn bf_pairs bf_gone nw_seatOf nw_one nw_other nw_kind nw_years nw_sawn nw_pairs nw_gone sc_seatOf sc_handle sc_both sc_slopOf sc_forkBits sc_canBits sc_bestBits sc_bestSlops sl_bits sl_count se_bestRow se_row se_pairAt se_hope se_hopeAt se_slopAt se_farBits se_gain se_worth se_bestWorth se_fresh ch_both ch_cost ch_bit ch_items ch_leastCost ch_leastBits cl_bits cl_count fi_sets fi_count ps_act ps_whom ps_amount ps_next ps_count i0_seatOf i0_one i0_other i0_kind i0_years i0_sawn i0_pairs i0_gone i1_seatOf i1_one i1_other i1_kind i1_years i1_sawn i1_pairs i1_gone i2_seatOf i2_one i2_other i2_kind i2_years i2_sawn i2_pairs i2_gone) R0.1 := by
  refine xI_of (by decide) (Nat.le_of_ble_eq_true rfl) (fun p e s m args below meth c A C ls hl G => ?_)
  have hx := C.1
  have hb := C.2.1
  have hl : lv_has ls 3 [(0, .ref (ad 2)), (1, .long l1)] := hl
  unfold f_Parser_isKeyword at hf
  refine lv_aload_n hx hb dX5_isKeyword_0 rfl (lv_at hl 0 rfl) ?_
  refine x_get C G fX5_12 (wX_at2) rfl dX5_isKeyword_1 ?_
  refine x_get C G fX5_63.g (wX_at4) rfl dX5_isKeyword_4 ?_
  refine lv_lload_n hx hb dX5_isKeyword_7 rfl (lv_at hl 1 rfl) ?_
  refine W.lcmp hx hb dX5_isKeyword_8 ?_
  refine lv_if_eq (tgt := 20) hx hb dX5_isKeyword_9 (by decide) (fun h => ?_) (fun h => ?_)
  · have hf := it_t h hf
    refine lv_iconst (v := 1) hx hb dX5_isKeyword_20 (by decide) ?_
    refine lv_goto (tgt := 25) hx hb dX5_isKeyword_21 (by decide) ?_
    obtain rfl := Option.some.inj hf
    exact xI_ret (r := (1 : Int32)) C G rfl dX5_isKeyword_25
  · have hf := it_f h hf
    refine lv_aload_n hx hb dX5_isKeyword_12 rfl (lv_at hl 0 rfl) ?_
    refine lv_iconst (v := 1) hx hb dX5_isKeyword_13 (by decide) ?_
    obtain ⟨x1, hc, hf⟩ := bd_go hf
    refine xI_V C G (c_Parser_wrong_pa hc) mX5_wrong kX5_53 (wX_at2) rfl ⟨Nat.le_of_ble_eq_true rfl, Nat.le_of_ble_eq_true rfl⟩ rfl hl.1 rfl (Nat.le_of_ble_eq_true rfl) ⟨Nat.le_refl _, Nat.le_refl _⟩ dX5_isKeyword_14 (fun hz1 H locs G => ?_)
    refine lv_if_eq (tgt := 24) hx hb dX5_isKeyword_17 (by decide) (fun h => ?_) (fun h => ?_)
    · have hf := it_t h hf
      refine lv_iconst (v := 0) hx hb dX5_isKeyword_24 (by decide) ?_
      obtain rfl := Option.some.inj hf
      exact xI_ret (r := (0 : Int32)) C G rfl dX5_isKeyword_25
    · have hf := it_f h hf
      refine lv_iconst (v := 1) hx hb dX5_isKeyword_20 (by decide) ?_
      refine lv_goto (tgt := 25) hx hb dX5_isKeyword_21 (by decide) ?_
      obtain rfl := Option.some.inj hf
      exact xI_ret (r := (1 : Int32)) C G rfl dX5_isKeyword_25
set_option maxHeartbeats 4000000 in
set_option maxRecDepth 100000 in
theorem c_Parser_isWhole_pa {l : Launch} {E : xE} {ad : Nat → Nat} {x_imageCount x_lastTrouble x_lastFault x_lastPlace pa_faultNumber pa_faultPlace rd_length rd_end rd_next rd_sort rd_start rd_value to_seats to_slack to_sawInches to_quarrelChance to_people to_forkBits to_unsure to_tried to_triedFedBits tf_pairs tf_gone bd_seats bd_slack bd_sawInches bd_quarrelChance bd_people bd_forkBits bd_unsure bd_tried bd_triedFedBits bf_pairs bf_gone nw_pairs nw_gone sc_forkBits sc_canBits sc_bestBits sc_bestSlops sl_count se_bestWorth se_fresh ch_items ch_leastCost ch_leastBits cl_count fi_count ps_next ps_count i0_pairs i0_gone i1_pairs i1_gone i2_pairs i2_gone : Int32} {pa_names : Nat → Int64} {rd_tape to_unsurePair to_unsureYears to_triedPair tf_seatOf tf_one tf_other tf_kind tf_years tf_sawn bd_unsurePair bd_unsureYears bd_triedPair bf_seatOf bf_one bf_other bf_kind bf_years bf_sawn nw_seatOf nw_one nw_other nw_kind nw_years nw_sawn sc_seatOf sc_handle sc_both sc_slopOf sl_bits se_bestRow se_row se_pairAt se_hope se_hopeAt se_slopAt se_farBits se_gain se_worth ch_both ch_cost ch_bit cl_bits fi_sets ps_act ps_whom ps_amount i0_seatOf i0_one i0_other i0_kind i0_years i0_sawn i1_seatOf i1_one i1_other i1_kind i1_years i1_sawn i2_seatOf i2_one i2_other i2_kind i2_years i2_sawn : Nat → Int32} {rd_word : Int64} {l1 : Int32} {l2 : Int32} {R0 : Int32 × Int32 × Int32} (hf : f_Parser_isWhole l1 l2 pa_faultNumber pa_faultPlace rd_sort rd_start rd_value = some R0) : xI l E yX5_isWhole cX5_isWhole 3 (some .boolean) 1 21 [.ref (ad 2), .int l1, .int l2] (wX E ad x_imageCount x_lastTrouble x_lastFault x_lastPlace pa_names pa_faultNumber pa_faultPlace rd_tape rd_length rd_end rd_next rd_sort rd_start rd_value rd_word to_unsurePair to_unsureYears to_triedPair to_seats to_slack to_sawInches to_quarrelChance to_people to_forkBits to_unsure to_tried to_triedFedBits tf_seatOf tf_one tf_other tf_kind tf_years tf_sawn tf_pairs tf_gone bd_unsurePair bd_unsureYears bd_triedPair bd_seats bd_slack bd_sawInches bd_quarrelChance bd_people bd_forkBits bd_unsure bd_tried bd_triedFedBits bf_seatOf bf_one bf_other bf_kind bf_years bf_sawn bf_pairs bf_gone nw_seatOf nw_one nw_other nw_kind nw_years nw_sawn nw_pairs nw_gone sc_seatOf sc_handle sc_both sc_slopOf sc_forkBits sc_canBits sc_bestBits sc_bestSlops sl_bits sl_count se_bestRow se_row se_pairAt se_hope se_hopeAt se_slopAt se_farBits se_gain se_worth se_bestWorth se_fresh ch_both ch_cost ch_bit ch_items ch_leastCost ch_leastBits cl_bits cl_count fi_sets fi_count ps_act ps_whom ps_amount ps_next ps_count i0_seatOf i0_one i0_other i0_kind i0_years i0_sawn i0_pairs i0_gone i1_seatOf i1_one i1_other i1_kind i1_years i1_sawn i1_pairs i1_gone i2_seatOf i2_one i2_other i2_kind i2_years i2_sawn i2_pairs i2_gone) (wX E ad x_imageCount x_lastTrouble x_lastFault x_lastPlace pa_names R0.2.1 R0.2.2 rd_tape rd_length rd_end rd_next rd_sort rd_start rd_value rd_word to_unsurePair to_unsureYears to_triedPair to_seats to_slack to_sawInches to_quarrelChance to_people to_forkBits to_unsure to_tried to_triedFedBits tf_seatOf tf_one tf_other tf_kind tf_years tf_sawn tf_pairs tf_gone bd_unsurePair bd_unsureYears bd_triedPair bd_seats bd_slack bd_sawInches bd_quarrelChance bd_people bd_forkBits bd_unsure bd_tried bd_triedFedBits bf_seatOf bf_one bf_other bf_kind bf_years bf_sawn bf_pairs bf_gone nw_seatOf nw_one nw_other nw_kind nw_years nw_sawn nw_pairs nw_gone sc_seatOf sc_handle sc_both sc_slopOf sc_forkBits sc_canBits sc_bestBits sc_bestSlops sl_bits sl_count se_bestRow se_row se_pairAt se_hope se_hopeAt se_slopAt se_farBits se_gain se_worth se_bestWorth se_fresh ch_both ch_cost ch_bit ch_items ch_leastCost ch_leastBits cl_bits cl_count fi_sets fi_count ps_act ps_whom ps_amount ps_next ps_count i0_seatOf i0_one i0_other i0_kind i0_years i0_sawn i0_pairs i0_gone i1_seatOf i1_one i1_other i1_kind i1_years i1_sawn i1_pairs i1_gone i2_seatOf i2_one i2_other i2_kind i2_years i2_sawn i2_pairs i2_gone) R0.1 := by
  refine xI_of (by decide) (Nat.le_of_ble_eq_true rfl) (fun p e s m args below meth c A C ls hl G => ?_)
  have hx := C.1
  have hb := C.2.1
  have hl : lv_has ls 3 [(0, .ref (ad 2)), (1, .int l1), (2, .int l2)] := hl
  unfold f_Parser_isWhole at hf
  refine lv_aload_n hx hb dX5_isWhole_0 rfl (lv_at hl 0 rfl) ?_
  refine x_get C G fX5_12 (wX_at2) rfl dX5_isWhole_1 ?_
  refine x_get C G fX5_47.g (wX_at4) rfl dX5_isWhole_4 ?_
  refine lv_iconst (v := 2) hx hb dX5_isWhole_7 (by decide) ?_
  refine lv_icmp_eq (tgt := 17) hx hb dX5_isWhole_8 (by decide) (fun h => ?_) (fun h => ?_)
  · have hf := it_t h hf
    refine lv_aload_n hx hb dX5_isWhole_17 rfl (lv_at hl 0 rfl) ?_
    refine x_get C G fX5_12 (wX_at2) rfl dX5_isWhole_18 ?_
    refine x_get C G fX5_166.g (wX_at4) rfl dX5_isWhole_21 ?_
    refine lv_iload_n hx hb dX5_isWhole_24 rfl (lv_at hl 1 rfl) ?_
    obtain ⟨b1, hr, hf⟩ := bd_go hf
    cases b1 with
    | true =>
      have hf := it_t rfl hf
      have J : ∀ (H : Heap) (locs : List Loc), xG s E A (wX E ad x_imageCount x_lastTrouble x_lastFault x_lastPlace pa_names pa_faultNumber pa_faultPlace rd_tape rd_length rd_end rd_next rd_sort rd_start rd_value rd_word to_unsurePair to_unsureYears to_triedPair to_seats to_slack to_sawInches to_quarrelChance to_people to_forkBits to_unsure to_tried to_triedFedBits tf_seatOf tf_one tf_other tf_kind tf_years tf_sawn tf_pairs tf_gone bd_unsurePair bd_unsureYears bd_triedPair bd_seats bd_slack bd_sawInches bd_quarrelChance bd_people bd_forkBits bd_unsure bd_tried bd_triedFedBits bf_seatOf bf_one bf_other bf_kind bf_years bf_sawn bf_pairs bf_gone nw_seatOf nw_one nw_other nw_kind nw_years nw_sawn nw_pairs nw_gone sc_seatOf sc_handle sc_both sc_slopOf sc_forkBits sc_canBits sc_bestBits sc_bestSlops sl_bits sl_count se_bestRow se_row se_pairAt se_hope se_hopeAt se_slopAt se_farBits se_gain se_worth se_bestWorth se_fresh ch_both ch_cost ch_bit ch_items ch_leastCost ch_leastBits cl_bits cl_count fi_sets fi_count ps_act ps_whom ps_amount ps_next ps_count i0_seatOf i0_one i0_other i0_kind i0_years i0_sawn i0_pairs i0_gone i1_seatOf i1_one i1_other i1_kind i1_years i1_sawn i1_pairs i1_gone i2_seatOf i2_one i2_other i2_kind i2_years i2_sawn i2_pairs i2_gone) H locs → W p l e (xR 1 21) s m args below meth c H locs 0 0 (MQ below (xqI E A (wX E ad x_imageCount x_lastTrouble x_lastFault x_lastPlace pa_names R0.2.1 R0.2.2 rd_tape rd_length rd_end rd_next rd_sort rd_start rd_value rd_word to_unsurePair to_unsureYears to_triedPair to_seats to_slack to_sawInches to_quarrelChance to_people to_forkBits to_unsure to_tried to_triedFedBits tf_seatOf tf_one tf_other tf_kind tf_years tf_sawn tf_pairs tf_gone bd_unsurePair bd_unsureYears bd_triedPair bd_seats bd_slack bd_sawInches bd_quarrelChance bd_people bd_forkBits bd_unsure bd_tried bd_triedFedBits bf_seatOf bf_one bf_other bf_kind bf_years bf_sawn bf_pairs bf_gone nw_seatOf nw_one nw_other nw_kind nw_years nw_sawn nw_pairs nw_gone sc_seatOf sc_handle sc_both sc_slopOf sc_forkBits sc_canBits sc_bestBits sc_bestSlops sl_bits sl_count se_bestRow se_row se_pairAt se_hope se_hopeAt se_slopAt se_farBits se_gain se_worth se_bestWorth se_fresh ch_both ch_cost ch_bit ch_items ch_leastCost ch_leastBits cl_bits cl_count fi_sets fi_count ps_act ps_whom ps_amount ps_next ps_count i0_seatOf i0_one i0_other i0_kind i0_years i0_sawn i0_pairs i0_gone i1_seatOf i1_one i1_other i1_kind i1_years i1_sawn i1_pairs i1_gone i2_seatOf i2_one i2_other i2_kind i2_years i2_sawn i2_pairs i2_gone) (some .boolean) R0.1) args s 0 0 A) (F0 m 39 ls []) := by
        intro H locs G
        refine lv_aload_n hx hb dX5_isWhole_39 rfl (lv_at hl 0 rfl) ?_
        refine lv_iconst (v := 4) hx hb dX5_isWhole_40 (by decide) ?_
        obtain ⟨x2, hc, hf⟩ := bd_go hf
        refine xI_V C G (c_Parser_wrong_pa hc) mX5_wrong kX5_53 (wX_at2) rfl ⟨Nat.le_of_ble_eq_true rfl, Nat.le_of_ble_eq_true rfl⟩ rfl hl.1 rfl (Nat.le_of_ble_eq_true rfl) ⟨Nat.le_refl _, Nat.le_refl _⟩ dX5_isWhole_41 (fun hz2 H locs G => ?_)
        refine lv_if_eq (tgt := 51) hx hb dX5_isWhole_44 (by decide) (fun h => ?_) (fun h => ?_)
        · have hf := it_t h hf
          refine lv_iconst (v := 0) hx hb dX5_isWhole_51 (by decide) ?_
          obtain rfl := Option.some.inj hf
          exact xI_ret (r := (0 : Int32)) C G rfl dX5_isWhole_52
        · have hf := it_f h hf
          refine lv_iconst (v := 1) hx hb dX5_isWhole_47 (by decide) ?_
          refine lv_goto (tgt := 52) hx hb dX5_isWhole_48 (by decide) ?_
          obtain rfl := Option.some.inj hf
          exact xI_ret (r := (1 : Int32)) C G rfl dX5_isWhole_52
      have hf := hr
      clear hr
      refine lv_icmp_lt (tgt := 39) hx hb dX5_isWhole_25 (by decide) (fun h => ?_) (fun h => ?_)
      · have hf := it_t h hf
        exact J _ _ G
      · have hf := it_f h hf
        refine lv_aload_n hx hb dX5_isWhole_28 rfl (lv_at hl 0 rfl) ?_
        refine x_get C G fX5_12 (wX_at2) rfl dX5_isWhole_29 ?_
        refine x_get C G fX5_166.g (wX_at4) rfl dX5_isWhole_32 ?_
        refine lv_iload_n hx hb dX5_isWhole_35 rfl (lv_at hl 2 rfl) ?_
        refine lv_icmp_le (tgt := 47) hx hb dX5_isWhole_36 (by decide) (fun h => ?_) (fun h => ?_)
        · have hf := it_t h hf
          exact absurd (Option.some.inj hf) (by decide)
        · have hf := it_f h hf
          exact J _ _ G
    | false =>
      have hf := it_f (by decide) hf
      have J : ∀ (H : Heap) (locs : List Loc), xG s E A (wX E ad x_imageCount x_lastTrouble x_lastFault x_lastPlace pa_names pa_faultNumber pa_faultPlace rd_tape rd_length rd_end rd_next rd_sort rd_start rd_value rd_word to_unsurePair to_unsureYears to_triedPair to_seats to_slack to_sawInches to_quarrelChance to_people to_forkBits to_unsure to_tried to_triedFedBits tf_seatOf tf_one tf_other tf_kind tf_years tf_sawn tf_pairs tf_gone bd_unsurePair bd_unsureYears bd_triedPair bd_seats bd_slack bd_sawInches bd_quarrelChance bd_people bd_forkBits bd_unsure bd_tried bd_triedFedBits bf_seatOf bf_one bf_other bf_kind bf_years bf_sawn bf_pairs bf_gone nw_seatOf nw_one nw_other nw_kind nw_years nw_sawn nw_pairs nw_gone sc_seatOf sc_handle sc_both sc_slopOf sc_forkBits sc_canBits sc_bestBits sc_bestSlops sl_bits sl_count se_bestRow se_row se_pairAt se_hope se_hopeAt se_slopAt se_farBits se_gain se_worth se_bestWorth se_fresh ch_both ch_cost ch_bit ch_items ch_leastCost ch_leastBits cl_bits cl_count fi_sets fi_count ps_act ps_whom ps_amount ps_next ps_count i0_seatOf i0_one i0_other i0_kind i0_years i0_sawn i0_pairs i0_gone i1_seatOf i1_one i1_other i1_kind i1_years i1_sawn i1_pairs i1_gone i2_seatOf i2_one i2_other i2_kind i2_years i2_sawn i2_pairs i2_gone) H locs → W p l e (xR 1 21) s m args below meth c H locs 0 0 (MQ below (xqI E A (wX E ad x_imageCount x_lastTrouble x_lastFault x_lastPlace pa_names R0.2.1 R0.2.2 rd_tape rd_length rd_end rd_next rd_sort rd_start rd_value rd_word to_unsurePair to_unsureYears to_triedPair to_seats to_slack to_sawInches to_quarrelChance to_people to_forkBits to_unsure to_tried to_triedFedBits tf_seatOf tf_one tf_other tf_kind tf_years tf_sawn tf_pairs tf_gone bd_unsurePair bd_unsureYears bd_triedPair bd_seats bd_slack bd_sawInches bd_quarrelChance bd_people bd_forkBits bd_unsure bd_tried bd_triedFedBits bf_seatOf bf_one bf_other bf_kind bf_years bf_sawn bf_pairs bf_gone nw_seatOf nw_one nw_other nw_kind nw_years nw_sawn nw_pairs nw_gone sc_seatOf sc_handle sc_both sc_slopOf sc_forkBits sc_canBits sc_bestBits sc_bestSlops sl_bits sl_count se_bestRow se_row se_pairAt se_hope se_hopeAt se_slopAt se_farBits se_gain se_worth se_bestWorth se_fresh ch_both ch_cost ch_bit ch_items ch_leastCost ch_leastBits cl_bits cl_count fi_sets fi_count ps_act ps_whom ps_amount ps_next ps_count i0_seatOf i0_one i0_other i0_kind i0_years i0_sawn i0_pairs i0_gone i1_seatOf i1_one i1_other i1_kind i1_years i1_sawn i1_pairs i1_gone i2_seatOf i2_one i2_other i2_kind i2_years i2_sawn i2_pairs i2_gone) (some .boolean) R0.1) args s 0 0 A) (F0 m 47 ls []) := by
        intro H locs G
        refine lv_iconst (v := 1) hx hb dX5_isWhole_47 (by decide) ?_
        refine lv_goto (tgt := 52) hx hb dX5_isWhole_48 (by decide) ?_
        obtain rfl := Option.some.inj hf
        exact xI_ret (r := (1 : Int32)) C G rfl dX5_isWhole_52
      have hf := hr
      clear hr
      refine lv_icmp_lt (tgt := 39) hx hb dX5_isWhole_25 (by decide) (fun h => ?_) (fun h => ?_)
      · have hf := it_t h hf
        exact absurd (Option.some.inj hf) (by decide)
      · have hf := it_f h hf
        refine lv_aload_n hx hb dX5_isWhole_28 rfl (lv_at hl 0 rfl) ?_
        refine x_get C G fX5_12 (wX_at2) rfl dX5_isWhole_29 ?_
        refine x_get C G fX5_166.g (wX_at4) rfl dX5_isWhole_32 ?_
        refine lv_iload_n hx hb dX5_isWhole_35 rfl (lv_at hl 2 rfl) ?_
        refine lv_icmp_le (tgt := 47) hx hb dX5_isWhole_36 (by decide) (fun h => ?_) (fun h => ?_)
        · have hf := it_t h hf
          exact J _ _ G
        · have hf := it_f h hf
          exact absurd (Option.some.inj hf) (by decide)
  · have hf := it_f h hf
    refine lv_aload_n hx hb dX5_isWhole_11 rfl (lv_at hl 0 rfl) ?_
    refine lv_iconst (v := 1) hx hb dX5_isWhole_12 (by decide) ?_
    obtain ⟨x3, hc, hf⟩ := bd_go hf
    refine xI_V C G (c_Parser_wrong_pa hc) mX5_wrong kX5_53 (wX_at2) rfl ⟨Nat.le_of_ble_eq_true rfl, Nat.le_of_ble_eq_true rfl⟩ rfl hl.1 rfl (Nat.le_of_ble_eq_true rfl) ⟨Nat.le_refl _, Nat.le_refl _⟩ dX5_isWhole_13 (fun hz3 H locs G => ?_)
    obtain rfl := Option.some.inj hf
    exact xI_ret (r := x3.1) C G (hz3 _ rfl) dX5_isWhole_16
set_option maxHeartbeats 4000000 in
set_option maxRecDepth 100000 in
theorem c_Parser_amount_pa {l : Launch} {E : xE} {ad : Nat → Nat} {x_imageCount x_lastTrouble x_lastFault x_lastPlace pa_faultNumber pa_faultPlace rd_length rd_end rd_next rd_sort rd_start rd_value to_seats to_slack to_sawInches to_quarrelChance to_people to_forkBits to_unsure to_tried to_triedFedBits tf_pairs tf_gone bd_seats bd_slack bd_sawInches bd_quarrelChance bd_people bd_forkBits bd_unsure bd_tried bd_triedFedBits bf_pairs bf_gone nw_pairs nw_gone sc_forkBits sc_canBits sc_bestBits sc_bestSlops sl_count se_bestWorth se_fresh ch_items ch_leastCost ch_leastBits cl_count fi_count ps_next ps_count i0_pairs i0_gone i1_pairs i1_gone i2_pairs i2_gone : Int32} {pa_names : Nat → Int64} {rd_tape to_unsurePair to_unsureYears to_triedPair tf_seatOf tf_one tf_other tf_kind tf_years tf_sawn bd_unsurePair bd_unsureYears bd_triedPair bf_seatOf bf_one bf_other bf_kind bf_years bf_sawn nw_seatOf nw_one nw_other nw_kind nw_years nw_sawn sc_seatOf sc_handle sc_both sc_slopOf sl_bits se_bestRow se_row se_pairAt se_hope se_hopeAt se_slopAt se_farBits se_gain se_worth ch_both ch_cost ch_bit cl_bits fi_sets ps_act ps_whom ps_amount i0_seatOf i0_one i0_other i0_kind i0_years i0_sawn i1_seatOf i1_one i1_other i1_kind i1_years i1_sawn i2_seatOf i2_one i2_other i2_kind i2_years i2_sawn : Nat → Int32} {rd_word : Int64} {l1 : Int64} {l3 : Int32} {l4 : Int32} {R0 : Int32 × Int32 × Int32 × Int32 × Int32 × Int32 × Int32 × Int64} (hf : f_Parser_amount l1 l3 l4 pa_faultNumber pa_faultPlace rd_tape rd_end rd_next rd_sort rd_start rd_value rd_word = some R0) : xI l E yX5_amount cX5_amount 6 (some .int) 2 45 [.ref (ad 2), .long l1, .int l3, .int l4] (wX E ad x_imageCount x_lastTrouble x_lastFault x_lastPlace pa_names pa_faultNumber pa_faultPlace rd_tape rd_length rd_end rd_next rd_sort rd_start rd_value rd_word to_unsurePair to_unsureYears to_triedPair to_seats to_slack to_sawInches to_quarrelChance to_people to_forkBits to_unsure to_tried to_triedFedBits tf_seatOf tf_one tf_other tf_kind tf_years tf_sawn tf_pairs tf_gone bd_unsurePair bd_unsureYears bd_triedPair bd_seats bd_slack bd_sawInches bd_quarrelChance bd_people bd_forkBits bd_unsure bd_tried bd_triedFedBits bf_seatOf bf_one bf_other bf_kind bf_years bf_sawn bf_pairs bf_gone nw_seatOf nw_one nw_other nw_kind nw_years nw_sawn nw_pairs nw_gone sc_seatOf sc_handle sc_both sc_slopOf sc_forkBits sc_canBits sc_bestBits sc_bestSlops sl_bits sl_count se_bestRow se_row se_pairAt se_hope se_hopeAt se_slopAt se_farBits se_gain se_worth se_bestWorth se_fresh ch_both ch_cost ch_bit ch_items ch_leastCost ch_leastBits cl_bits cl_count fi_sets fi_count ps_act ps_whom ps_amount ps_next ps_count i0_seatOf i0_one i0_other i0_kind i0_years i0_sawn i0_pairs i0_gone i1_seatOf i1_one i1_other i1_kind i1_years i1_sawn i1_pairs i1_gone i2_seatOf i2_one i2_other i2_kind i2_years i2_sawn i2_pairs i2_gone) (wX E ad x_imageCount x_lastTrouble x_lastFault x_lastPlace pa_names R0.2.1 R0.2.2.1 rd_tape rd_length rd_end R0.2.2.2.1 R0.2.2.2.2.1 R0.2.2.2.2.2.1 R0.2.2.2.2.2.2.1 R0.2.2.2.2.2.2.2 to_unsurePair to_unsureYears to_triedPair to_seats to_slack to_sawInches to_quarrelChance to_people to_forkBits to_unsure to_tried to_triedFedBits tf_seatOf tf_one tf_other tf_kind tf_years tf_sawn tf_pairs tf_gone bd_unsurePair bd_unsureYears bd_triedPair bd_seats bd_slack bd_sawInches bd_quarrelChance bd_people bd_forkBits bd_unsure bd_tried bd_triedFedBits bf_seatOf bf_one bf_other bf_kind bf_years bf_sawn bf_pairs bf_gone nw_seatOf nw_one nw_other nw_kind nw_years nw_sawn nw_pairs nw_gone sc_seatOf sc_handle sc_both sc_slopOf sc_forkBits sc_canBits sc_bestBits sc_bestSlops sl_bits sl_count se_bestRow se_row se_pairAt se_hope se_hopeAt se_slopAt se_farBits se_gain se_worth se_bestWorth se_fresh ch_both ch_cost ch_bit ch_items ch_leastCost ch_leastBits cl_bits cl_count fi_sets fi_count ps_act ps_whom ps_amount ps_next ps_count i0_seatOf i0_one i0_other i0_kind i0_years i0_sawn i0_pairs i0_gone i1_seatOf i1_one i1_other i1_kind i1_years i1_sawn i1_pairs i1_gone i2_seatOf i2_one i2_other i2_kind i2_years i2_sawn i2_pairs i2_gone) R0.1 := by
  refine xI_of (by decide) (Nat.le_of_ble_eq_true rfl) (fun p e s m args below meth c A C ls hl G => ?_)
  have hx := C.1
  have hb := C.2.1
  have hl : lv_has ls 6 [(0, .ref (ad 2)), (1, .long l1), (3, .int l3), (4, .int l4)] := hl
  unfold f_Parser_amount at hf
  refine lv_aload_n hx hb dX5_amount_0 rfl (lv_at hl 0 rfl) ?_
  refine lv_lload_n hx hb dX5_amount_1 rfl (lv_at hl 1 rfl) ?_
  obtain ⟨x1, hc, hf⟩ := bd_go hf
  refine xI_V C G (c_Parser_isKeyword_pa hc) mX5_isKeyword kX5_158 (wX_at2) rfl ⟨Nat.le_of_ble_eq_true rfl, Nat.le_of_ble_eq_true rfl⟩ rfl hl.1 rfl (Nat.le_of_ble_eq_true rfl) ⟨Nat.le_refl _, Nat.le_refl _⟩ dX5_amount_2 (fun hz1 H locs G => ?_)
  refine lv_if_ne (tgt := 10) hx hb dX5_amount_5 (by decide) (fun h => ?_) (fun h => ?_)
  · have hf := it_f h hf
    refine lv_aload_n hx hb dX5_amount_10 rfl (lv_at hl 0 rfl) ?_
    refine x_get C G fX5_12 (wX_at2) rfl dX5_amount_11 ?_
    obtain ⟨x2, hc, hf⟩ := bd_go hf
    refine xV_V C G (c_Reader_step_rd hc) mX7_step kX5_57 (wX_at4) rfl ⟨Nat.le_of_ble_eq_true rfl, Nat.le_of_ble_eq_true rfl⟩ rfl hl.1 rfl (Nat.le_of_ble_eq_true rfl) ⟨Nat.le_refl _, Nat.le_refl _⟩ dX5_amount_14 (fun H locs G => ?_)
    refine lv_aload_n hx hb dX5_amount_17 rfl (lv_at hl 0 rfl) ?_
    refine lv_iload_n hx hb dX5_amount_18 rfl (lv_at hl 2 rfl) ?_
    refine lv_iload hx hb dX5_amount_19 (lv_at hl 3 rfl) ?_
    obtain ⟨x3, hc, hf⟩ := bd_go hf
    refine xI_V C G (c_Parser_isWhole_pa hc) mX5_isWhole kX5_162 (wX_at2) rfl ⟨Nat.le_of_ble_eq_true rfl, Nat.le_of_ble_eq_true rfl⟩ rfl hl.1 rfl (Nat.le_of_ble_eq_true rfl) ⟨Nat.le_refl _, Nat.le_refl _⟩ dX5_amount_21 (fun hz3 H locs G => ?_)
    refine lv_if_ne (tgt := 29) hx hb dX5_amount_24 (by decide) (fun h => ?_) (fun h => ?_)
    · have hf := it_f h hf
      refine lv_aload_n hx hb dX5_amount_29 rfl (lv_at hl 0 rfl) ?_
      refine x_get C G fX5_12 (wX_at2) rfl dX5_amount_30 ?_
      refine x_get C G fX5_166.g (wX_at4) rfl dX5_amount_33 ?_
      refine lv_istore (lv' := [(5, .int x2.2.2.2.1), (0, .ref (ad 2)), (1, .long l1), (3, .int l3), (4, .int l4)]) hx hb dX5_amount_36 hl (by decide) rfl (fun ls hl => ?_)
      refine lv_aload_n hx hb dX5_amount_38 rfl (lv_at hl 1 rfl) ?_
      refine x_get C G fX5_12 (wX_at2) rfl dX5_amount_39 ?_
      obtain ⟨x4, hc, hf⟩ := bd_go hf
      refine xV_V C G (c_Reader_step_rd hc) mX7_step kX5_57 (wX_at4) rfl ⟨Nat.le_of_ble_eq_true rfl, Nat.le_of_ble_eq_true rfl⟩ rfl hl.1 rfl (Nat.le_of_ble_eq_true rfl) ⟨Nat.le_refl _, Nat.le_refl _⟩ dX5_amount_42 (fun H locs G => ?_)
      refine lv_iload hx hb dX5_amount_45 (lv_at hl 0 rfl) ?_
      obtain rfl := Option.some.inj hf
      exact xI_ret C G rfl dX5_amount_47
    · have hf := it_t h hf
      refine lv_iconst (v := -1) hx hb dX5_amount_27 (by decide) ?_
      obtain rfl := Option.some.inj hf
      exact xI_ret C G rfl dX5_amount_28
  · have hf := it_t h hf
    refine lv_iconst (v := -1) hx hb dX5_amount_8 (by decide) ?_
    obtain rfl := Option.some.inj hf
    exact xI_ret C G rfl dX5_amount_9
set_option maxHeartbeats 4000000 in
set_option maxRecDepth 100000 in
theorem c_Parser_tableLine_pa {l : Launch} {E : xE} {ad : Nat → Nat} {x_imageCount x_lastTrouble x_lastFault x_lastPlace pa_faultNumber pa_faultPlace rd_length rd_end rd_next rd_sort rd_start rd_value to_seats to_slack to_sawInches to_quarrelChance to_people to_forkBits to_unsure to_tried to_triedFedBits tf_pairs tf_gone bd_seats bd_slack bd_sawInches bd_quarrelChance bd_people bd_forkBits bd_unsure bd_tried bd_triedFedBits bf_pairs bf_gone nw_pairs nw_gone sc_forkBits sc_canBits sc_bestBits sc_bestSlops sl_count se_bestWorth se_fresh ch_items ch_leastCost ch_leastBits cl_count fi_count ps_next ps_count i0_pairs i0_gone i1_pairs i1_gone i2_pairs i2_gone : Int32} {pa_names : Nat → Int64} {rd_tape to_unsurePair to_unsureYears to_triedPair tf_seatOf tf_one tf_other tf_kind tf_years tf_sawn bd_unsurePair bd_unsureYears bd_triedPair bf_seatOf bf_one bf_other bf_kind bf_years bf_sawn nw_seatOf nw_one nw_other nw_kind nw_years nw_sawn sc_seatOf sc_handle sc_both sc_slopOf sl_bits se_bestRow se_row se_pairAt se_hope se_hopeAt se_slopAt se_farBits se_gain se_worth ch_both ch_cost ch_bit cl_bits fi_sets ps_act ps_whom ps_amount i0_seatOf i0_one i0_other i0_kind i0_years i0_sawn i1_seatOf i1_one i1_other i1_kind i1_years i1_sawn i2_seatOf i2_one i2_other i2_kind i2_years i2_sawn : Nat → Int32} {rd_word : Int64} {R0 : Int32 × Int32 × Int32 × Int32 × Int32 × Int32 × Int32 × Int64 × Int32 × Int32 × Int32 × Int32} (hf : f_Parser_tableLine pa_faultNumber pa_faultPlace rd_tape rd_end rd_next rd_sort rd_start rd_value rd_word to_seats to_slack to_sawInches to_quarrelChance = some R0) : xI l E yX5_tableLine cX5_tableLine 5 (some .boolean) 3 70 [.ref (ad 2)] (wX E ad x_imageCount x_lastTrouble x_lastFault x_lastPlace pa_names pa_faultNumber pa_faultPlace rd_tape rd_length rd_end rd_next rd_sort rd_start rd_value rd_word to_unsurePair to_unsureYears to_triedPair to_seats to_slack to_sawInches to_quarrelChance to_people to_forkBits to_unsure to_tried to_triedFedBits tf_seatOf tf_one tf_other tf_kind tf_years tf_sawn tf_pairs tf_gone bd_unsurePair bd_unsureYears bd_triedPair bd_seats bd_slack bd_sawInches bd_quarrelChance bd_people bd_forkBits bd_unsure bd_tried bd_triedFedBits bf_seatOf bf_one bf_other bf_kind bf_years bf_sawn bf_pairs bf_gone nw_seatOf nw_one nw_other nw_kind nw_years nw_sawn nw_pairs nw_gone sc_seatOf sc_handle sc_both sc_slopOf sc_forkBits sc_canBits sc_bestBits sc_bestSlops sl_bits sl_count se_bestRow se_row se_pairAt se_hope se_hopeAt se_slopAt se_farBits se_gain se_worth se_bestWorth se_fresh ch_both ch_cost ch_bit ch_items ch_leastCost ch_leastBits cl_bits cl_count fi_sets fi_count ps_act ps_whom ps_amount ps_next ps_count i0_seatOf i0_one i0_other i0_kind i0_years i0_sawn i0_pairs i0_gone i1_seatOf i1_one i1_other i1_kind i1_years i1_sawn i1_pairs i1_gone i2_seatOf i2_one i2_other i2_kind i2_years i2_sawn i2_pairs i2_gone) (wX E ad x_imageCount x_lastTrouble x_lastFault x_lastPlace pa_names R0.2.1 R0.2.2.1 rd_tape rd_length rd_end R0.2.2.2.1 R0.2.2.2.2.1 R0.2.2.2.2.2.1 R0.2.2.2.2.2.2.1 R0.2.2.2.2.2.2.2.1 to_unsurePair to_unsureYears to_triedPair R0.2.2.2.2.2.2.2.2.1 R0.2.2.2.2.2.2.2.2.2.1 R0.2.2.2.2.2.2.2.2.2.2.1 R0.2.2.2.2.2.2.2.2.2.2.2 to_people to_forkBits to_unsure to_tried to_triedFedBits tf_seatOf tf_one tf_other tf_kind tf_years tf_sawn tf_pairs tf_gone bd_unsurePair bd_unsureYears bd_triedPair bd_seats bd_slack bd_sawInches bd_quarrelChance bd_people bd_forkBits bd_unsure bd_tried bd_triedFedBits bf_seatOf bf_one bf_other bf_kind bf_years bf_sawn bf_pairs bf_gone nw_seatOf nw_one nw_other nw_kind nw_years nw_sawn nw_pairs nw_gone sc_seatOf sc_handle sc_both sc_slopOf sc_forkBits sc_canBits sc_bestBits sc_bestSlops sl_bits sl_count se_bestRow se_row se_pairAt se_hope se_hopeAt se_slopAt se_farBits se_gain se_worth se_bestWorth se_fresh ch_both ch_cost ch_bit ch_items ch_leastCost ch_leastBits cl_bits cl_count fi_sets fi_count ps_act ps_whom ps_amount ps_next ps_count i0_seatOf i0_one i0_other i0_kind i0_years i0_sawn i0_pairs i0_gone i1_seatOf i1_one i1_other i1_kind i1_years i1_sawn i1_pairs i1_gone i2_seatOf i2_one i2_other i2_kind i2_years i2_sawn i2_pairs i2_gone) R0.1 := by
  refine xI_of (by decide) (Nat.le_of_ble_eq_true rfl) (fun p e s m args below meth c A C ls hl G => ?_)
  have hx := C.1
  have hb := C.2.1
  have hl : lv_has ls 5 [(0, .ref (ad 2))] := hl
  unfold f_Parser_tableLine at hf
  refine lv_aload_n hx hb dX5_tableLine_0 rfl (lv_at hl 0 rfl) ?_
  refine lv_ldc2 hx hb C.2.2.2.1 (C.2.2.2.2.1 _ qX5_131) dX5_tableLine_1 ?_
  refine lv_iconst (v := 2) hx hb dX5_tableLine_4 (by decide) ?_
  refine lv_bipush (v := 10) hx hb dX5_tableLine_5 (by decide) ?_
  obtain ⟨x1, hc, hf⟩ := bd_go hf
  refine xI_V C G (c_Parser_amount_pa hc) mX5_amount kX5_133 (wX_at2) rfl ⟨Nat.le_of_ble_eq_true rfl, Nat.le_of_ble_eq_true rfl⟩ rfl hl.1 rfl (Nat.le_of_ble_eq_true rfl) ⟨Nat.le_refl _, Nat.le_refl _⟩ dX5_tableLine_7 (fun hz H locs G => ?_)
  refine lv_istore_n (lv' := [(1, .int x1.1), (0, .ref (ad 2))]) hx hb dX5_tableLine_10 rfl hl (by decide) rfl (fun ls hl => ?_)
  refine lv_iload_n hx hb dX5_tableLine_11 rfl (lv_at hl 0 rfl) ?_
  obtain ⟨x2, hrx2, hf⟩ := bd_go hf
  have Jx2 : ∀ (H : Heap) (locs : List Loc) (ls : Array Slot), xG s E A (wX E ad x_imageCount x_lastTrouble x_lastFault x_lastPlace pa_names x2.2.1 x2.2.2.1 rd_tape rd_length rd_end x2.2.2.2.1 x2.2.2.2.2.1 x2.2.2.2.2.2.1 x2.2.2.2.2.2.2.1 x2.2.2.2.2.2.2.2 to_unsurePair to_unsureYears to_triedPair to_seats to_slack to_sawInches to_quarrelChance to_people to_forkBits to_unsure to_tried to_triedFedBits tf_seatOf tf_one tf_other tf_kind tf_years tf_sawn tf_pairs tf_gone bd_unsurePair bd_unsureYears bd_triedPair bd_seats bd_slack bd_sawInches bd_quarrelChance bd_people bd_forkBits bd_unsure bd_tried bd_triedFedBits bf_seatOf bf_one bf_other bf_kind bf_years bf_sawn bf_pairs bf_gone nw_seatOf nw_one nw_other nw_kind nw_years nw_sawn nw_pairs nw_gone sc_seatOf sc_handle sc_both sc_slopOf sc_forkBits sc_canBits sc_bestBits sc_bestSlops sl_bits sl_count se_bestRow se_row se_pairAt se_hope se_hopeAt se_slopAt se_farBits se_gain se_worth se_bestWorth se_fresh ch_both ch_cost ch_bit ch_items ch_leastCost ch_leastBits cl_bits cl_count fi_sets fi_count ps_act ps_whom ps_amount ps_next ps_count i0_seatOf i0_one i0_other i0_kind i0_years i0_sawn i0_pairs i0_gone i1_seatOf i1_one i1_other i1_kind i1_years i1_sawn i1_pairs i1_gone i2_seatOf i2_one i2_other i2_kind i2_years i2_sawn i2_pairs i2_gone) H locs → lv_has ls 5 [(0, .ref (ad 2)), (1, .int x1.1)] → W p l e (xR 3 70) s m args below meth c H locs 0 0 (MQ below (xqI E A (wX E ad x_imageCount x_lastTrouble x_lastFault x_lastPlace pa_names R0.2.1 R0.2.2.1 rd_tape rd_length rd_end R0.2.2.2.1 R0.2.2.2.2.1 R0.2.2.2.2.2.1 R0.2.2.2.2.2.2.1 R0.2.2.2.2.2.2.2.1 to_unsurePair to_unsureYears to_triedPair R0.2.2.2.2.2.2.2.2.1 R0.2.2.2.2.2.2.2.2.2.1 R0.2.2.2.2.2.2.2.2.2.2.1 R0.2.2.2.2.2.2.2.2.2.2.2 to_people to_forkBits to_unsure to_tried to_triedFedBits tf_seatOf tf_one tf_other tf_kind tf_years tf_sawn tf_pairs tf_gone bd_unsurePair bd_unsureYears bd_triedPair bd_seats bd_slack bd_sawInches bd_quarrelChance bd_people bd_forkBits bd_unsure bd_tried bd_triedFedBits bf_seatOf bf_one bf_other bf_kind bf_years bf_sawn bf_pairs bf_gone nw_seatOf nw_one nw_other nw_kind nw_years nw_sawn nw_pairs nw_gone sc_seatOf sc_handle sc_both sc_slopOf sc_forkBits sc_canBits sc_bestBits sc_bestSlops sl_bits sl_count se_bestRow se_row se_pairAt se_hope se_hopeAt se_slopAt se_farBits se_gain se_worth se_bestWorth se_fresh ch_both ch_cost ch_bit ch_items ch_leastCost ch_leastBits cl_bits cl_count fi_sets fi_count ps_act ps_whom ps_amount ps_next ps_count i0_seatOf i0_one i0_other i0_kind i0_years i0_sawn i0_pairs i0_gone i1_seatOf i1_one i1_other i1_kind i1_years i1_sawn i1_pairs i1_gone i2_seatOf i2_one i2_other i2_kind i2_years i2_sawn i2_pairs i2_gone) (some .boolean) R0.1) args s 0 0 A) (F0 m 28 ls [.int x2.1]) := by
    intro H locs ls G hl
    refine lv_istore_n (lv' := [(2, .int x2.1), (0, .ref (ad 2)), (1, .int x1.1)]) hx hb dX5_tableLine_28 rfl hl (by decide) rfl (fun ls hl => ?_)
    refine lv_iload_n hx hb dX5_tableLine_29 rfl (lv_at hl 0 rfl) ?_
    obtain ⟨x3, hrx3, hf⟩ := bd_go hf
    have Jx3 : ∀ (H : Heap) (locs : List Loc) (ls : Array Slot), xG s E A (wX E ad x_imageCount x_lastTrouble x_lastFault x_lastPlace pa_names x3.2.1 x3.2.2.1 rd_tape rd_length rd_end x3.2.2.2.1 x3.2.2.2.2.1 x3.2.2.2.2.2.1 x3.2.2.2.2.2.2.1 x3.2.2.2.2.2.2.2 to_unsurePair to_unsureYears to_triedPair to_seats to_slack to_sawInches to_quarrelChance to_people to_forkBits to_unsure to_tried to_triedFedBits tf_seatOf tf_one tf_other tf_kind tf_years tf_sawn tf_pairs tf_gone bd_unsurePair bd_unsureYears bd_triedPair bd_seats bd_slack bd_sawInches bd_quarrelChance bd_people bd_forkBits bd_unsure bd_tried bd_triedFedBits bf_seatOf bf_one bf_other bf_kind bf_years bf_sawn bf_pairs bf_gone nw_seatOf nw_one nw_other nw_kind nw_years nw_sawn nw_pairs nw_gone sc_seatOf sc_handle sc_both sc_slopOf sc_forkBits sc_canBits sc_bestBits sc_bestSlops sl_bits sl_count se_bestRow se_row se_pairAt se_hope se_hopeAt se_slopAt se_farBits se_gain se_worth se_bestWorth se_fresh ch_both ch_cost ch_bit ch_items ch_leastCost ch_leastBits cl_bits cl_count fi_sets fi_count ps_act ps_whom ps_amount ps_next ps_count i0_seatOf i0_one i0_other i0_kind i0_years i0_sawn i0_pairs i0_gone i1_seatOf i1_one i1_other i1_kind i1_years i1_sawn i1_pairs i1_gone i2_seatOf i2_one i2_other i2_kind i2_years i2_sawn i2_pairs i2_gone) H locs → lv_has ls 5 [(0, .ref (ad 2)), (1, .int x1.1), (2, .int x2.1)] → W p l e (xR 3 70) s m args below meth c H locs 0 0 (MQ below (xqI E A (wX E ad x_imageCount x_lastTrouble x_lastFault x_lastPlace pa_names R0.2.1 R0.2.2.1 rd_tape rd_length rd_end R0.2.2.2.1 R0.2.2.2.2.1 R0.2.2.2.2.2.1 R0.2.2.2.2.2.2.1 R0.2.2.2.2.2.2.2.1 to_unsurePair to_unsureYears to_triedPair R0.2.2.2.2.2.2.2.2.1 R0.2.2.2.2.2.2.2.2.2.1 R0.2.2.2.2.2.2.2.2.2.2.1 R0.2.2.2.2.2.2.2.2.2.2.2 to_people to_forkBits to_unsure to_tried to_triedFedBits tf_seatOf tf_one tf_other tf_kind tf_years tf_sawn tf_pairs tf_gone bd_unsurePair bd_unsureYears bd_triedPair bd_seats bd_slack bd_sawInches bd_quarrelChance bd_people bd_forkBits bd_unsure bd_tried bd_triedFedBits bf_seatOf bf_one bf_other bf_kind bf_years bf_sawn bf_pairs bf_gone nw_seatOf nw_one nw_other nw_kind nw_years nw_sawn nw_pairs nw_gone sc_seatOf sc_handle sc_both sc_slopOf sc_forkBits sc_canBits sc_bestBits sc_bestSlops sl_bits sl_count se_bestRow se_row se_pairAt se_hope se_hopeAt se_slopAt se_farBits se_gain se_worth se_bestWorth se_fresh ch_both ch_cost ch_bit ch_items ch_leastCost ch_leastBits cl_bits cl_count fi_sets fi_count ps_act ps_whom ps_amount ps_next ps_count i0_seatOf i0_one i0_other i0_kind i0_years i0_sawn i0_pairs i0_gone i1_seatOf i1_one i1_other i1_kind i1_years i1_sawn i1_pairs i1_gone i2_seatOf i2_one i2_other i2_kind i2_years i2_sawn i2_pairs i2_gone) (some .boolean) R0.1) args s 0 0 A) (F0 m 47 ls [.int x3.1]) := by
      intro H locs ls G hl
      refine lv_istore_n (lv' := [(3, .int x3.1), (0, .ref (ad 2)), (1, .int x1.1), (2, .int x2.1)]) hx hb dX5_tableLine_47 rfl hl (by decide) rfl (fun ls hl => ?_)
      refine lv_iload_n hx hb dX5_tableLine_48 rfl (lv_at hl 0 rfl) ?_
      obtain ⟨x4, hrx4, hf⟩ := bd_go hf
      have Jx4 : ∀ (H : Heap) (locs : List Loc) (ls : Array Slot), xG s E A (wX E ad x_imageCount x_lastTrouble x_lastFault x_lastPlace pa_names x4.2.1 x4.2.2.1 rd_tape rd_length rd_end x4.2.2.2.1 x4.2.2.2.2.1 x4.2.2.2.2.2.1 x4.2.2.2.2.2.2.1 x4.2.2.2.2.2.2.2 to_unsurePair to_unsureYears to_triedPair to_seats to_slack to_sawInches to_quarrelChance to_people to_forkBits to_unsure to_tried to_triedFedBits tf_seatOf tf_one tf_other tf_kind tf_years tf_sawn tf_pairs tf_gone bd_unsurePair bd_unsureYears bd_triedPair bd_seats bd_slack bd_sawInches bd_quarrelChance bd_people bd_forkBits bd_unsure bd_tried bd_triedFedBits bf_seatOf bf_one bf_other bf_kind bf_years bf_sawn bf_pairs bf_gone nw_seatOf nw_one nw_other nw_kind nw_years nw_sawn nw_pairs nw_gone sc_seatOf sc_handle sc_both sc_slopOf sc_forkBits sc_canBits sc_bestBits sc_bestSlops sl_bits sl_count se_bestRow se_row se_pairAt se_hope se_hopeAt se_slopAt se_farBits se_gain se_worth se_bestWorth se_fresh ch_both ch_cost ch_bit ch_items ch_leastCost ch_leastBits cl_bits cl_count fi_sets fi_count ps_act ps_whom ps_amount ps_next ps_count i0_seatOf i0_one i0_other i0_kind i0_years i0_sawn i0_pairs i0_gone i1_seatOf i1_one i1_other i1_kind i1_years i1_sawn i1_pairs i1_gone i2_seatOf i2_one i2_other i2_kind i2_years i2_sawn i2_pairs i2_gone) H locs → lv_has ls 5 [(0, .ref (ad 2)), (1, .int x1.1), (2, .int x2.1), (3, .int x3.1)] → W p l e (xR 3 70) s m args below meth c H locs 0 0 (MQ below (xqI E A (wX E ad x_imageCount x_lastTrouble x_lastFault x_lastPlace pa_names R0.2.1 R0.2.2.1 rd_tape rd_length rd_end R0.2.2.2.1 R0.2.2.2.2.1 R0.2.2.2.2.2.1 R0.2.2.2.2.2.2.1 R0.2.2.2.2.2.2.2.1 to_unsurePair to_unsureYears to_triedPair R0.2.2.2.2.2.2.2.2.1 R0.2.2.2.2.2.2.2.2.2.1 R0.2.2.2.2.2.2.2.2.2.2.1 R0.2.2.2.2.2.2.2.2.2.2.2 to_people to_forkBits to_unsure to_tried to_triedFedBits tf_seatOf tf_one tf_other tf_kind tf_years tf_sawn tf_pairs tf_gone bd_unsurePair bd_unsureYears bd_triedPair bd_seats bd_slack bd_sawInches bd_quarrelChance bd_people bd_forkBits bd_unsure bd_tried bd_triedFedBits bf_seatOf bf_one bf_other bf_kind bf_years bf_sawn bf_pairs bf_gone nw_seatOf nw_one nw_other nw_kind nw_years nw_sawn nw_pairs nw_gone sc_seatOf sc_handle sc_both sc_slopOf sc_forkBits sc_canBits sc_bestBits sc_bestSlops sl_bits sl_count se_bestRow se_row se_pairAt se_hope se_hopeAt se_slopAt se_farBits se_gain se_worth se_bestWorth se_fresh ch_both ch_cost ch_bit ch_items ch_leastCost ch_leastBits cl_bits cl_count fi_sets fi_count ps_act ps_whom ps_amount ps_next ps_count i0_seatOf i0_one i0_other i0_kind i0_years i0_sawn i0_pairs i0_gone i1_seatOf i1_one i1_other i1_kind i1_years i1_sawn i1_pairs i1_gone i2_seatOf i2_one i2_other i2_kind i2_years i2_sawn i2_pairs i2_gone) (some .boolean) R0.1) args s 0 0 A) (F0 m 66 ls [.int x4.1]) := by
        intro H locs ls G hl
        refine lv_istore (lv' := [(4, .int x4.1), (0, .ref (ad 2)), (1, .int x1.1), (2, .int x2.1), (3, .int x3.1)]) hx hb dX5_tableLine_66 hl (by decide) rfl (fun ls hl => ?_)
        refine lv_iload hx hb dX5_tableLine_68 (lv_at hl 0 rfl) ?_
        refine lv_if_ge (tgt := 75) hx hb dX5_tableLine_70 (by decide) (fun h => ?_) (fun h => ?_)
        · have hf := it_t h hf
          refine lv_aload_n hx hb dX5_tableLine_75 rfl (lv_at hl 1 rfl) ?_
          refine x_get C G fX5_21 (wX_at2) rfl dX5_tableLine_76 ?_
          refine lv_iload_n hx hb dX5_tableLine_79 rfl (lv_at hl 2 rfl) ?_
          refine x_put (ws' := (wX E ad x_imageCount x_lastTrouble x_lastFault x_lastPlace pa_names x4.2.1 x4.2.2.1 rd_tape rd_length rd_end x4.2.2.2.1 x4.2.2.2.2.1 x4.2.2.2.2.2.1 x4.2.2.2.2.2.2.1 x4.2.2.2.2.2.2.2 to_unsurePair to_unsureYears to_triedPair x1.1 to_slack to_sawInches to_quarrelChance to_people to_forkBits to_unsure to_tried to_triedFedBits tf_seatOf tf_one tf_other tf_kind tf_years tf_sawn tf_pairs tf_gone bd_unsurePair bd_unsureYears bd_triedPair bd_seats bd_slack bd_sawInches bd_quarrelChance bd_people bd_forkBits bd_unsure bd_tried bd_triedFedBits bf_seatOf bf_one bf_other bf_kind bf_years bf_sawn bf_pairs bf_gone nw_seatOf nw_one nw_other nw_kind nw_years nw_sawn nw_pairs nw_gone sc_seatOf sc_handle sc_both sc_slopOf sc_forkBits sc_canBits sc_bestBits sc_bestSlops sl_bits sl_count se_bestRow se_row se_pairAt se_hope se_hopeAt se_slopAt se_farBits se_gain se_worth se_bestWorth se_fresh ch_both ch_cost ch_bit ch_items ch_leastCost ch_leastBits cl_bits cl_count fi_sets fi_count ps_act ps_whom ps_amount ps_next ps_count i0_seatOf i0_one i0_other i0_kind i0_years i0_sawn i0_pairs i0_gone i1_seatOf i1_one i1_other i1_kind i1_years i1_sawn i1_pairs i1_gone i2_seatOf i2_one i2_other i2_kind i2_years i2_sawn i2_pairs i2_gone)) C G fX5_83 (wX_at6) rfl rfl (Nat.le_of_ble_eq_true rfl) wX_set_to_seats dX5_tableLine_80 (fun H locs G => ?_)
          refine lv_aload_n hx hb dX5_tableLine_83 rfl (lv_at hl 1 rfl) ?_
          refine x_get C G fX5_21 (wX_at2) rfl dX5_tableLine_84 ?_
          refine lv_iload_n hx hb dX5_tableLine_87 rfl (lv_at hl 3 rfl) ?_
          refine x_put (ws' := (wX E ad x_imageCount x_lastTrouble x_lastFault x_lastPlace pa_names x4.2.1 x4.2.2.1 rd_tape rd_length rd_end x4.2.2.2.1 x4.2.2.2.2.1 x4.2.2.2.2.2.1 x4.2.2.2.2.2.2.1 x4.2.2.2.2.2.2.2 to_unsurePair to_unsureYears to_triedPair x1.1 x2.1 to_sawInches to_quarrelChance to_people to_forkBits to_unsure to_tried to_triedFedBits tf_seatOf tf_one tf_other tf_kind tf_years tf_sawn tf_pairs tf_gone bd_unsurePair bd_unsureYears bd_triedPair bd_seats bd_slack bd_sawInches bd_quarrelChance bd_people bd_forkBits bd_unsure bd_tried bd_triedFedBits bf_seatOf bf_one bf_other bf_kind bf_years bf_sawn bf_pairs bf_gone nw_seatOf nw_one nw_other nw_kind nw_years nw_sawn nw_pairs nw_gone sc_seatOf sc_handle sc_both sc_slopOf sc_forkBits sc_canBits sc_bestBits sc_bestSlops sl_bits sl_count se_bestRow se_row se_pairAt se_hope se_hopeAt se_slopAt se_farBits se_gain se_worth se_bestWorth se_fresh ch_both ch_cost ch_bit ch_items ch_leastCost ch_leastBits cl_bits cl_count fi_sets fi_count ps_act ps_whom ps_amount ps_next ps_count i0_seatOf i0_one i0_other i0_kind i0_years i0_sawn i0_pairs i0_gone i1_seatOf i1_one i1_other i1_kind i1_years i1_sawn i1_pairs i1_gone i2_seatOf i2_one i2_other i2_kind i2_years i2_sawn i2_pairs i2_gone)) C G fX5_143 (wX_at6) rfl rfl (Nat.le_of_ble_eq_true rfl) wX_set_to_slack dX5_tableLine_88 (fun H locs G => ?_)
          refine lv_aload_n hx hb dX5_tableLine_91 rfl (lv_at hl 1 rfl) ?_
          refine x_get C G fX5_21 (wX_at2) rfl dX5_tableLine_92 ?_
          refine lv_iload_n hx hb dX5_tableLine_95 rfl (lv_at hl 4 rfl) ?_
          refine x_put (ws' := (wX E ad x_imageCount x_lastTrouble x_lastFault x_lastPlace pa_names x4.2.1 x4.2.2.1 rd_tape rd_length rd_end x4.2.2.2.1 x4.2.2.2.2.1 x4.2.2.2.2.2.1 x4.2.2.2.2.2.2.1 x4.2.2.2.2.2.2.2 to_unsurePair to_unsureYears to_triedPair x1.1 x2.1 x3.1 to_quarrelChance to_people to_forkBits to_unsure to_tried to_triedFedBits tf_seatOf tf_one tf_other tf_kind tf_years tf_sawn tf_pairs tf_gone bd_unsurePair bd_unsureYears bd_triedPair bd_seats bd_slack bd_sawInches bd_quarrelChance bd_people bd_forkBits bd_unsure bd_tried bd_triedFedBits bf_seatOf bf_one bf_other bf_kind bf_years bf_sawn bf_pairs bf_gone nw_seatOf nw_one nw_other nw_kind nw_years nw_sawn nw_pairs nw_gone sc_seatOf sc_handle sc_both sc_slopOf sc_forkBits sc_canBits sc_bestBits sc_bestSlops sl_bits sl_count se_bestRow se_row se_pairAt se_hope se_hopeAt se_slopAt se_farBits se_gain se_worth se_bestWorth se_fresh ch_both ch_cost ch_bit ch_items ch_leastCost ch_leastBits cl_bits cl_count fi_sets fi_count ps_act ps_whom ps_amount ps_next ps_count i0_seatOf i0_one i0_other i0_kind i0_years i0_sawn i0_pairs i0_gone i1_seatOf i1_one i1_other i1_kind i1_years i1_sawn i1_pairs i1_gone i2_seatOf i2_one i2_other i2_kind i2_years i2_sawn i2_pairs i2_gone)) C G fX5_146 (wX_at6) rfl rfl (Nat.le_of_ble_eq_true rfl) wX_set_to_sawInches dX5_tableLine_96 (fun H locs G => ?_)
          refine lv_aload_n hx hb dX5_tableLine_99 rfl (lv_at hl 1 rfl) ?_
          refine x_get C G fX5_21 (wX_at2) rfl dX5_tableLine_100 ?_
          refine lv_iload hx hb dX5_tableLine_103 (lv_at hl 0 rfl) ?_
          refine x_put (ws' := (wX E ad x_imageCount x_lastTrouble x_lastFault x_lastPlace pa_names x4.2.1 x4.2.2.1 rd_tape rd_length rd_end x4.2.2.2.1 x4.2.2.2.2.1 x4.2.2.2.2.2.1 x4.2.2.2.2.2.2.1 x4.2.2.2.2.2.2.2 to_unsurePair to_unsureYears to_triedPair x1.1 x2.1 x3.1 x4.1 to_people to_forkBits to_unsure to_tried to_triedFedBits tf_seatOf tf_one tf_other tf_kind tf_years tf_sawn tf_pairs tf_gone bd_unsurePair bd_unsureYears bd_triedPair bd_seats bd_slack bd_sawInches bd_quarrelChance bd_people bd_forkBits bd_unsure bd_tried bd_triedFedBits bf_seatOf bf_one bf_other bf_kind bf_years bf_sawn bf_pairs bf_gone nw_seatOf nw_one nw_other nw_kind nw_years nw_sawn nw_pairs nw_gone sc_seatOf sc_handle sc_both sc_slopOf sc_forkBits sc_canBits sc_bestBits sc_bestSlops sl_bits sl_count se_bestRow se_row se_pairAt se_hope se_hopeAt se_slopAt se_farBits se_gain se_worth se_bestWorth se_fresh ch_both ch_cost ch_bit ch_items ch_leastCost ch_leastBits cl_bits cl_count fi_sets fi_count ps_act ps_whom ps_amount ps_next ps_count i0_seatOf i0_one i0_other i0_kind i0_years i0_sawn i0_pairs i0_gone i1_seatOf i1_one i1_other i1_kind i1_years i1_sawn i1_pairs i1_gone i2_seatOf i2_one i2_other i2_kind i2_years i2_sawn i2_pairs i2_gone)) C G fX5_149 (wX_at6) rfl rfl (Nat.le_of_ble_eq_true rfl) wX_set_to_quarrelChance dX5_tableLine_105 (fun H locs G => ?_)
          refine lv_iconst (v := 1) hx hb dX5_tableLine_108 (by decide) ?_
          obtain rfl := Option.some.inj hf
          exact xI_ret (r := (1 : Int32)) C G rfl dX5_tableLine_109
        · have hf := it_f h hf
          refine lv_iconst (v := 0) hx hb dX5_tableLine_73 (by decide) ?_
          obtain rfl := Option.some.inj hf
          exact xI_ret (r := (0 : Int32)) C G rfl dX5_tableLine_74
      have hf := hrx4
      refine lv_if_ge (tgt := 56) hx hb dX5_tableLine_49 (by decide) (fun h => ?_) (fun h => ?_)
      · have hf := it_t h hf
        refine lv_aload_n hx hb dX5_tableLine_56 rfl (lv_at hl 1 rfl) ?_
        refine lv_ldc2 hx hb C.2.2.2.1 (C.2.2.2.2.1 _ qX5_141) dX5_tableLine_57 ?_
        refine lv_iconst (v := 0) hx hb dX5_tableLine_60 (by decide) ?_
        refine lv_bipush (v := 100) hx hb dX5_tableLine_61 (by decide) ?_
        obtain ⟨x5, hc, hf⟩ := bd_go hf
        refine xI_V C G (c_Parser_amount_pa hc) mX5_amount kX5_133 (wX_at2) rfl ⟨Nat.le_of_ble_eq_true rfl, Nat.le_of_ble_eq_true rfl⟩ rfl hl.1 rfl (Nat.le_of_ble_eq_true rfl) ⟨Nat.le_refl _, Nat.le_refl _⟩ dX5_tableLine_63 (fun hz H locs G => ?_)
        obtain rfl := Option.some.inj hf
        exact Jx4 _ _ _ G (lv_sub hl [1, 2, 3, 0] rfl)
      · have hf := it_f h hf
        refine lv_iconst (v := -1) hx hb dX5_tableLine_52 (by decide) ?_
        refine lv_goto (tgt := 66) hx hb dX5_tableLine_53 (by decide) ?_
        obtain rfl := Option.some.inj hf
        exact Jx4 _ _ _ G (lv_sub hl [1, 2, 3, 0] rfl)
    have hf := hrx3
    refine lv_if_ge (tgt := 37) hx hb dX5_tableLine_30 (by decide) (fun h => ?_) (fun h => ?_)
    · have hf := it_t h hf
      refine lv_aload_n hx hb dX5_tableLine_37 rfl (lv_at hl 1 rfl) ?_
      refine lv_ldc2 hx hb C.2.2.2.1 (C.2.2.2.2.1 _ qX5_139) dX5_tableLine_38 ?_
      refine lv_iconst (v := 1) hx hb dX5_tableLine_41 (by decide) ?_
      refine lv_bipush (v := 9) hx hb dX5_tableLine_42 (by decide) ?_
      obtain ⟨x6, hc, hf⟩ := bd_go hf
      refine xI_V C G (c_Parser_amount_pa hc) mX5_amount kX5_133 (wX_at2) rfl ⟨Nat.le_of_ble_eq_true rfl, Nat.le_of_ble_eq_true rfl⟩ rfl hl.1 rfl (Nat.le_of_ble_eq_true rfl) ⟨Nat.le_refl _, Nat.le_refl _⟩ dX5_tableLine_44 (fun hz H locs G => ?_)
      obtain rfl := Option.some.inj hf
      exact Jx3 _ _ _ G (lv_sub hl [1, 2, 0] rfl)
    · have hf := it_f h hf
      refine lv_iconst (v := -1) hx hb dX5_tableLine_33 (by decide) ?_
      refine lv_goto (tgt := 47) hx hb dX5_tableLine_34 (by decide) ?_
      obtain rfl := Option.some.inj hf
      exact Jx3 _ _ _ G (lv_sub hl [1, 2, 0] rfl)
  have hf := hrx2
  refine lv_if_ge (tgt := 19) hx hb dX5_tableLine_12 (by decide) (fun h => ?_) (fun h => ?_)
  · have hf := it_t h hf
    refine lv_aload_n hx hb dX5_tableLine_19 rfl (lv_at hl 1 rfl) ?_
    refine lv_ldc2 hx hb C.2.2.2.1 (C.2.2.2.2.1 _ qX5_137) dX5_tableLine_20 ?_
    refine lv_iconst (v := 0) hx hb dX5_tableLine_23 (by decide) ?_
    refine lv_iconst (v := 3) hx hb dX5_tableLine_24 (by decide) ?_
    obtain ⟨x7, hc, hf⟩ := bd_go hf
    refine xI_V C G (c_Parser_amount_pa hc) mX5_amount kX5_133 (wX_at2) rfl ⟨Nat.le_of_ble_eq_true rfl, Nat.le_of_ble_eq_true rfl⟩ rfl hl.1 rfl (Nat.le_of_ble_eq_true rfl) ⟨Nat.le_refl _, Nat.le_refl _⟩ dX5_tableLine_25 (fun hz H locs G => ?_)
    obtain rfl := Option.some.inj hf
    exact Jx2 _ _ _ G (lv_sub hl [1, 0] rfl)
  · have hf := it_f h hf
    refine lv_iconst (v := -1) hx hb dX5_tableLine_15 (by decide) ?_
    refine lv_goto (tgt := 28) hx hb dX5_tableLine_16 (by decide) ?_
    obtain rfl := Option.some.inj hf
    exact Jx2 _ _ _ G (lv_sub hl [1, 0] rfl)
set_option maxHeartbeats 4000000 in
set_option maxRecDepth 100000 in
theorem w_Parser_personNamed_pa_L2 {p : Program} {l : Launch} {e : Env} {s : State} {m : MethodId} {args : Array Value} {below : List Frame} {meth : Method} {c : Code} {A : Nat → Prop} {E : xE} {ad : Nat → Nat} {x_imageCount x_lastTrouble x_lastFault x_lastPlace pa_faultNumber pa_faultPlace rd_length rd_end rd_next rd_sort rd_start rd_value to_seats to_slack to_sawInches to_quarrelChance to_people to_forkBits to_unsure to_tried to_triedFedBits tf_pairs tf_gone bd_seats bd_slack bd_sawInches bd_quarrelChance bd_people bd_forkBits bd_unsure bd_tried bd_triedFedBits bf_pairs bf_gone nw_pairs nw_gone sc_forkBits sc_canBits sc_bestBits sc_bestSlops sl_count se_bestWorth se_fresh ch_items ch_leastCost ch_leastBits cl_count fi_count ps_next ps_count i0_pairs i0_gone i1_pairs i1_gone i2_pairs i2_gone : Int32} {pa_names : Nat → Int64} {rd_tape to_unsurePair to_unsureYears to_triedPair tf_seatOf tf_one tf_other tf_kind tf_years tf_sawn bd_unsurePair bd_unsureYears bd_triedPair bf_seatOf bf_one bf_other bf_kind bf_years bf_sawn nw_seatOf nw_one nw_other nw_kind nw_years nw_sawn sc_seatOf sc_handle sc_both sc_slopOf sl_bits se_bestRow se_row se_pairAt se_hope se_hopeAt se_slopAt se_farBits se_gain se_worth ch_both ch_cost ch_bit cl_bits fi_sets ps_act ps_whom ps_amount i0_seatOf i0_one i0_other i0_kind i0_years i0_sawn i1_seatOf i1_one i1_other i1_kind i1_years i1_sawn i2_seatOf i2_one i2_other i2_kind i2_years i2_sawn : Nat → Int32} {rd_word : Int64} {l1 : Int64} {o : (Int32) ⊕ (Unit)} {R0 : Int32} (C : xC p s m args meth c cX5_personNamed 4 RX5 E A (some .int)) (Jr : ∀ r, o = .inl r → r = R0) (J : ∀ t, o = .inr t → ∀ (H : Heap) (locs : List Loc) (ls : Array Slot), xG s E A (wX E ad x_imageCount x_lastTrouble x_lastFault x_lastPlace pa_names pa_faultNumber pa_faultPlace rd_tape rd_length rd_end rd_next rd_sort rd_start rd_value rd_word to_unsurePair to_unsureYears to_triedPair to_seats to_slack to_sawInches to_quarrelChance to_people to_forkBits to_unsure to_tried to_triedFedBits tf_seatOf tf_one tf_other tf_kind tf_years tf_sawn tf_pairs tf_gone bd_unsurePair bd_unsureYears bd_triedPair bd_seats bd_slack bd_sawInches bd_quarrelChance bd_people bd_forkBits bd_unsure bd_tried bd_triedFedBits bf_seatOf bf_one bf_other bf_kind bf_years bf_sawn bf_pairs bf_gone nw_seatOf nw_one nw_other nw_kind nw_years nw_sawn nw_pairs nw_gone sc_seatOf sc_handle sc_both sc_slopOf sc_forkBits sc_canBits sc_bestBits sc_bestSlops sl_bits sl_count se_bestRow se_row se_pairAt se_hope se_hopeAt se_slopAt se_farBits se_gain se_worth se_bestWorth se_fresh ch_both ch_cost ch_bit ch_items ch_leastCost ch_leastBits cl_bits cl_count fi_sets fi_count ps_act ps_whom ps_amount ps_next ps_count i0_seatOf i0_one i0_other i0_kind i0_years i0_sawn i0_pairs i0_gone i1_seatOf i1_one i1_other i1_kind i1_years i1_sawn i1_pairs i1_gone i2_seatOf i2_one i2_other i2_kind i2_years i2_sawn i2_pairs i2_gone) H locs → lv_has ls 4 [] → W p l e (xR 0 0) s m args below meth c H locs 0 0 (MQ below (xqI E A (wX E ad x_imageCount x_lastTrouble x_lastFault x_lastPlace pa_names pa_faultNumber pa_faultPlace rd_tape rd_length rd_end rd_next rd_sort rd_start rd_value rd_word to_unsurePair to_unsureYears to_triedPair to_seats to_slack to_sawInches to_quarrelChance to_people to_forkBits to_unsure to_tried to_triedFedBits tf_seatOf tf_one tf_other tf_kind tf_years tf_sawn tf_pairs tf_gone bd_unsurePair bd_unsureYears bd_triedPair bd_seats bd_slack bd_sawInches bd_quarrelChance bd_people bd_forkBits bd_unsure bd_tried bd_triedFedBits bf_seatOf bf_one bf_other bf_kind bf_years bf_sawn bf_pairs bf_gone nw_seatOf nw_one nw_other nw_kind nw_years nw_sawn nw_pairs nw_gone sc_seatOf sc_handle sc_both sc_slopOf sc_forkBits sc_canBits sc_bestBits sc_bestSlops sl_bits sl_count se_bestRow se_row se_pairAt se_hope se_hopeAt se_slopAt se_farBits se_gain se_worth se_bestWorth se_fresh ch_both ch_cost ch_bit ch_items ch_leastCost ch_leastBits cl_bits cl_count fi_sets fi_count ps_act ps_whom ps_amount ps_next ps_count i0_seatOf i0_one i0_other i0_kind i0_years i0_sawn i0_pairs i0_gone i1_seatOf i1_one i1_other i1_kind i1_years i1_sawn i1_pairs i1_gone i2_seatOf i2_one i2_other i2_kind i2_years i2_sawn i2_pairs i2_gone) (some .int) R0) args s 0 0 A) (F0 m 32 ls [])) :
    ∀ (n : Nat) (l3 : Int32) (H : Heap) (locs : List Loc) (ls : Array Slot), xG s E A (wX E ad x_imageCount x_lastTrouble x_lastFault x_lastPlace pa_names pa_faultNumber pa_faultPlace rd_tape rd_length rd_end rd_next rd_sort rd_start rd_value rd_word to_unsurePair to_unsureYears to_triedPair to_seats to_slack to_sawInches to_quarrelChance to_people to_forkBits to_unsure to_tried to_triedFedBits tf_seatOf tf_one tf_other tf_kind tf_years tf_sawn tf_pairs tf_gone bd_unsurePair bd_unsureYears bd_triedPair bd_seats bd_slack bd_sawInches bd_quarrelChance bd_people bd_forkBits bd_unsure bd_tried bd_triedFedBits bf_seatOf bf_one bf_other bf_kind bf_years bf_sawn bf_pairs bf_gone nw_seatOf nw_one nw_other nw_kind nw_years nw_sawn nw_pairs nw_gone sc_seatOf sc_handle sc_both sc_slopOf sc_forkBits sc_canBits sc_bestBits sc_bestSlops sl_bits sl_count se_bestRow se_row se_pairAt se_hope se_hopeAt se_slopAt se_farBits se_gain se_worth se_bestWorth se_fresh ch_both ch_cost ch_bit ch_items ch_leastCost ch_leastBits cl_bits cl_count fi_sets fi_count ps_act ps_whom ps_amount ps_next ps_count i0_seatOf i0_one i0_other i0_kind i0_years i0_sawn i0_pairs i0_gone i1_seatOf i1_one i1_other i1_kind i1_years i1_sawn i1_pairs i1_gone i2_seatOf i2_one i2_other i2_kind i2_years i2_sawn i2_pairs i2_gone) H locs → lv_has ls 4 [(0, .ref (ad 2)), (1, .long l1), (3, .int l3)] → f_Parser_personNamed_L2 l1 pa_names to_people n l3 = some o → W p l e (xR 0 0) s m args below meth c H locs 0 0 (MQ below (xqI E A (wX E ad x_imageCount x_lastTrouble x_lastFault x_lastPlace pa_names pa_faultNumber pa_faultPlace rd_tape rd_length rd_end rd_next rd_sort rd_start rd_value rd_word to_unsurePair to_unsureYears to_triedPair to_seats to_slack to_sawInches to_quarrelChance to_people to_forkBits to_unsure to_tried to_triedFedBits tf_seatOf tf_one tf_other tf_kind tf_years tf_sawn tf_pairs tf_gone bd_unsurePair bd_unsureYears bd_triedPair bd_seats bd_slack bd_sawInches bd_quarrelChance bd_people bd_forkBits bd_unsure bd_tried bd_triedFedBits bf_seatOf bf_one bf_other bf_kind bf_years bf_sawn bf_pairs bf_gone nw_seatOf nw_one nw_other nw_kind nw_years nw_sawn nw_pairs nw_gone sc_seatOf sc_handle sc_both sc_slopOf sc_forkBits sc_canBits sc_bestBits sc_bestSlops sl_bits sl_count se_bestRow se_row se_pairAt se_hope se_hopeAt se_slopAt se_farBits se_gain se_worth se_bestWorth se_fresh ch_both ch_cost ch_bit ch_items ch_leastCost ch_leastBits cl_bits cl_count fi_sets fi_count ps_act ps_whom ps_amount ps_next ps_count i0_seatOf i0_one i0_other i0_kind i0_years i0_sawn i0_pairs i0_gone i1_seatOf i1_one i1_other i1_kind i1_years i1_sawn i1_pairs i1_gone i2_seatOf i2_one i2_other i2_kind i2_years i2_sawn i2_pairs i2_gone) (some .int) R0) args s 0 0 A) (F0 m 2 ls []) := by
  have hx := C.1
  have hb := C.2.1
  intro n
  induction n with
  | zero =>
    intro l3 H locs ls G hl hf
    exact nomatch (show (none : Option ((Int32) ⊕ (Unit))) = some o from hf)
  | succ n ih =>
    intro l3 H locs ls G hl hf
    rw [f_Parser_personNamed_L2] at hf
    refine lv_iload_n hx hb dX5_personNamed_2 rfl (lv_at hl 2 rfl) ?_
    refine lv_aload_n hx hb dX5_personNamed_3 rfl (lv_at hl 0 rfl) ?_
    refine x_get C G fX5_21 (wX_at2) rfl dX5_personNamed_4 ?_
    refine x_get C G fX5_50.g (wX_at6) rfl dX5_personNamed_7 ?_
    refine lv_icmp_ge (tgt := 32) hx hb dX5_personNamed_10 (by decide) (fun h => ?_) (fun h => ?_)
    · have hf := it_t h hf
      exact J _ (Option.some.inj hf).symm _ _ _ G (lv_sub hl [] rfl)
    · have hf := it_f h hf
      refine lv_aload_n hx hb dX5_personNamed_13 rfl (lv_at hl 0 rfl) ?_
      refine x_get C G fX5_25 (wX_at2) rfl dX5_personNamed_14 ?_
      refine lv_iload_n hx hb dX5_personNamed_17 rfl (lv_at hl 2 rfl) ?_
      have hi := ck_in hf
      have hf := ck_go hf
      refine x_lald C G (wX_at3) hi dX5_personNamed_18 ?_
      refine lv_lload_n hx hb dX5_personNamed_19 rfl (lv_at hl 1 rfl) ?_
      refine W.lcmp hx hb dX5_personNamed_20 ?_
      refine lv_if_ne (tgt := 26) hx hb dX5_personNamed_21 (by decide) (fun h => ?_) (fun h => ?_)
      · have hf := it_f h hf
        obtain ⟨x1, ex1⟩ : ∃ z : Int32, z = l3 + (1 : Int32) := ⟨_, rfl⟩
        have hf := lt_go ex1 hf
        refine lv_iinc (v := x1) (lv' := [(3, .int x1), (0, .ref (ad 2)), (1, .long l1)]) hx hb dX5_personNamed_26 hl (k := 2) rfl (by rw [ex1]; rfl) (by decide) rfl (fun ls hl => ?_)
        refine lv_goto (tgt := 2) hx hb dX5_personNamed_29 (by decide) ?_
        exact ih x1 _ _ _ G (lv_sub hl [1, 2, 0] rfl) hf
      · have hf := it_t h hf
        refine lv_iload_n hx hb dX5_personNamed_24 rfl (lv_at hl 2 rfl) ?_
        obtain rfl := Jr _ (Option.some.inj hf).symm
        exact xI_ret C G rfl dX5_personNamed_25
set_option maxHeartbeats 4000000 in
set_option maxRecDepth 100000 in
theorem c_Parser_personNamed_pa {l : Launch} {E : xE} {ad : Nat → Nat} {x_imageCount x_lastTrouble x_lastFault x_lastPlace pa_faultNumber pa_faultPlace rd_length rd_end rd_next rd_sort rd_start rd_value to_seats to_slack to_sawInches to_quarrelChance to_people to_forkBits to_unsure to_tried to_triedFedBits tf_pairs tf_gone bd_seats bd_slack bd_sawInches bd_quarrelChance bd_people bd_forkBits bd_unsure bd_tried bd_triedFedBits bf_pairs bf_gone nw_pairs nw_gone sc_forkBits sc_canBits sc_bestBits sc_bestSlops sl_count se_bestWorth se_fresh ch_items ch_leastCost ch_leastBits cl_count fi_count ps_next ps_count i0_pairs i0_gone i1_pairs i1_gone i2_pairs i2_gone : Int32} {pa_names : Nat → Int64} {rd_tape to_unsurePair to_unsureYears to_triedPair tf_seatOf tf_one tf_other tf_kind tf_years tf_sawn bd_unsurePair bd_unsureYears bd_triedPair bf_seatOf bf_one bf_other bf_kind bf_years bf_sawn nw_seatOf nw_one nw_other nw_kind nw_years nw_sawn sc_seatOf sc_handle sc_both sc_slopOf sl_bits se_bestRow se_row se_pairAt se_hope se_hopeAt se_slopAt se_farBits se_gain se_worth ch_both ch_cost ch_bit cl_bits fi_sets ps_act ps_whom ps_amount i0_seatOf i0_one i0_other i0_kind i0_years i0_sawn i1_seatOf i1_one i1_other i1_kind i1_years i1_sawn i2_seatOf i2_one i2_other i2_kind i2_years i2_sawn : Nat → Int32} {rd_word : Int64} {l1 : Int64} {R0 : Int32} (hf : f_Parser_personNamed l1 pa_names to_people = some R0) : xI l E yX5_personNamed cX5_personNamed 4 (some .int) 0 0 [.ref (ad 2), .long l1] (wX E ad x_imageCount x_lastTrouble x_lastFault x_lastPlace pa_names pa_faultNumber pa_faultPlace rd_tape rd_length rd_end rd_next rd_sort rd_start rd_value rd_word to_unsurePair to_unsureYears to_triedPair to_seats to_slack to_sawInches to_quarrelChance to_people to_forkBits to_unsure to_tried to_triedFedBits tf_seatOf tf_one tf_other tf_kind tf_years tf_sawn tf_pairs tf_gone bd_unsurePair bd_unsureYears bd_triedPair bd_seats bd_slack bd_sawInches bd_quarrelChance bd_people bd_forkBits bd_unsure bd_tried bd_triedFedBits bf_seatOf bf_one bf_other bf_kind bf_years bf_sawn bf_pairs bf_gone nw_seatOf nw_one nw_other nw_kind nw_years nw_sawn nw_pairs nw_gone sc_seatOf sc_handle sc_both sc_slopOf sc_forkBits sc_canBits sc_bestBits sc_bestSlops sl_bits sl_count se_bestRow se_row se_pairAt se_hope se_hopeAt se_slopAt se_farBits se_gain se_worth se_bestWorth se_fresh ch_both ch_cost ch_bit ch_items ch_leastCost ch_leastBits cl_bits cl_count fi_sets fi_count ps_act ps_whom ps_amount ps_next ps_count i0_seatOf i0_one i0_other i0_kind i0_years i0_sawn i0_pairs i0_gone i1_seatOf i1_one i1_other i1_kind i1_years i1_sawn i1_pairs i1_gone i2_seatOf i2_one i2_other i2_kind i2_years i2_sawn i2_pairs i2_gone) (wX E ad x_imageCount x_lastTrouble x_lastFault x_lastPlace pa_names pa_faultNumber pa_faultPlace rd_tape rd_length rd_end rd_next rd_sort rd_start rd_value rd_word to_unsurePair to_unsureYears to_triedPair to_seats to_slack to_sawInches to_quarrelChance to_people to_forkBits to_unsure to_tried to_triedFedBits tf_seatOf tf_one tf_other tf_kind tf_years tf_sawn tf_pairs tf_gone bd_unsurePair bd_unsureYears bd_triedPair bd_seats bd_slack bd_sawInches bd_quarrelChance bd_people bd_forkBits bd_unsure bd_tried bd_triedFedBits bf_seatOf bf_one bf_other bf_kind bf_years bf_sawn bf_pairs bf_gone nw_seatOf nw_one nw_other nw_kind nw_years nw_sawn nw_pairs nw_gone sc_seatOf sc_handle sc_both sc_slopOf sc_forkBits sc_canBits sc_bestBits sc_bestSlops sl_bits sl_count se_bestRow se_row se_pairAt se_hope se_hopeAt se_slopAt se_farBits se_gain se_worth se_bestWorth se_fresh ch_both ch_cost ch_bit ch_items ch_leastCost ch_leastBits cl_bits cl_count fi_sets fi_count ps_act ps_whom ps_amount ps_next ps_count i0_seatOf i0_one i0_other i0_kind i0_years i0_sawn i0_pairs i0_gone i1_seatOf i1_one i1_other i1_kind i1_years i1_sawn i1_pairs i1_gone i2_seatOf i2_one i2_other i2_kind i2_years i2_sawn i2_pairs i2_gone) R0 := by
  refine xI_of (by decide) (Nat.le_of_ble_eq_true rfl) (fun p e s m args below meth c A C ls hl G => ?_)
  have hx := C.1
  have hb := C.2.1
  have hl : lv_has ls 4 [(0, .ref (ad 2)), (1, .long l1)] := hl
  unfold f_Parser_personNamed at hf
  refine lv_iconst (v := 0) hx hb dX5_personNamed_0 (by decide) ?_
  refine lv_istore_n (lv' := [(3, .int (0 : Int32)), (0, .ref (ad 2)), (1, .long l1)]) hx hb dX5_personNamed_1 rfl hl (by decide) rfl (fun ls hl => ?_)
  obtain ⟨ox2, hr, hf⟩ := bd_go hf
  have Jx2 : ∀ x2, ox2 = .inr x2 → ∀ (H : Heap) (locs : List Loc) (ls : Array Slot), xG s E A (wX E ad x_imageCount x_lastTrouble x_lastFault x_lastPlace pa_names pa_faultNumber pa_faultPlace rd_tape rd_length rd_end rd_next rd_sort rd_start rd_value rd_word to_unsurePair to_unsureYears to_triedPair to_seats to_slack to_sawInches to_quarrelChance to_people to_forkBits to_unsure to_tried to_triedFedBits tf_seatOf tf_one tf_other tf_kind tf_years tf_sawn tf_pairs tf_gone bd_unsurePair bd_unsureYears bd_triedPair bd_seats bd_slack bd_sawInches bd_quarrelChance bd_people bd_forkBits bd_unsure bd_tried bd_triedFedBits bf_seatOf bf_one bf_other bf_kind bf_years bf_sawn bf_pairs bf_gone nw_seatOf nw_one nw_other nw_kind nw_years nw_sawn nw_pairs nw_gone sc_seatOf sc_handle sc_both sc_slopOf sc_forkBits sc_canBits sc_bestBits sc_bestSlops sl_bits sl_count se_bestRow se_row se_pairAt se_hope se_hopeAt se_slopAt se_farBits se_gain se_worth se_bestWorth se_fresh ch_both ch_cost ch_bit ch_items ch_leastCost ch_leastBits cl_bits cl_count fi_sets fi_count ps_act ps_whom ps_amount ps_next ps_count i0_seatOf i0_one i0_other i0_kind i0_years i0_sawn i0_pairs i0_gone i1_seatOf i1_one i1_other i1_kind i1_years i1_sawn i1_pairs i1_gone i2_seatOf i2_one i2_other i2_kind i2_years i2_sawn i2_pairs i2_gone) H locs → lv_has ls 4 [] → W p l e (xR 0 0) s m args below meth c H locs 0 0 (MQ below (xqI E A (wX E ad x_imageCount x_lastTrouble x_lastFault x_lastPlace pa_names pa_faultNumber pa_faultPlace rd_tape rd_length rd_end rd_next rd_sort rd_start rd_value rd_word to_unsurePair to_unsureYears to_triedPair to_seats to_slack to_sawInches to_quarrelChance to_people to_forkBits to_unsure to_tried to_triedFedBits tf_seatOf tf_one tf_other tf_kind tf_years tf_sawn tf_pairs tf_gone bd_unsurePair bd_unsureYears bd_triedPair bd_seats bd_slack bd_sawInches bd_quarrelChance bd_people bd_forkBits bd_unsure bd_tried bd_triedFedBits bf_seatOf bf_one bf_other bf_kind bf_years bf_sawn bf_pairs bf_gone nw_seatOf nw_one nw_other nw_kind nw_years nw_sawn nw_pairs nw_gone sc_seatOf sc_handle sc_both sc_slopOf sc_forkBits sc_canBits sc_bestBits sc_bestSlops sl_bits sl_count se_bestRow se_row se_pairAt se_hope se_hopeAt se_slopAt se_farBits se_gain se_worth se_bestWorth se_fresh ch_both ch_cost ch_bit ch_items ch_leastCost ch_leastBits cl_bits cl_count fi_sets fi_count ps_act ps_whom ps_amount ps_next ps_count i0_seatOf i0_one i0_other i0_kind i0_years i0_sawn i0_pairs i0_gone i1_seatOf i1_one i1_other i1_kind i1_years i1_sawn i1_pairs i1_gone i2_seatOf i2_one i2_other i2_kind i2_years i2_sawn i2_pairs i2_gone) (some .int) R0) args s 0 0 A) (F0 m 32 ls []) := by
    intro x2 hq H locs ls G hl
    subst hq
    have hf := sm_r hf
    refine lv_iconst (v := -1) hx hb dX5_personNamed_32 (by decide) ?_
    obtain rfl := Option.some.inj hf
    exact xI_ret C G rfl dX5_personNamed_33
  have Jrx2 : ∀ r, ox2 = .inl r → r = R0 := by
    intro r hq
    subst hq
    exact Option.some.inj hf
  exact w_Parser_personNamed_pa_L2 C Jrx2 Jx2 fu _ _ _ _ G (lv_sub hl [1, 2, 0] rfl) hr
set_option maxHeartbeats 4000000 in
set_option maxRecDepth 100000 in
theorem w_Parser_isTaken_pa_L2 {p : Program} {l : Launch} {e : Env} {s : State} {m : MethodId} {args : Array Value} {below : List Frame} {meth : Method} {c : Code} {A : Nat → Prop} {E : xE} {ad : Nat → Nat} {x_imageCount x_lastTrouble x_lastFault x_lastPlace pa_faultNumber pa_faultPlace rd_length rd_end rd_next rd_sort rd_start rd_value to_seats to_slack to_sawInches to_quarrelChance to_people to_forkBits to_unsure to_tried to_triedFedBits tf_pairs tf_gone bd_seats bd_slack bd_sawInches bd_quarrelChance bd_people bd_forkBits bd_unsure bd_tried bd_triedFedBits bf_pairs bf_gone nw_pairs nw_gone sc_forkBits sc_canBits sc_bestBits sc_bestSlops sl_count se_bestWorth se_fresh ch_items ch_leastCost ch_leastBits cl_count fi_count ps_next ps_count i0_pairs i0_gone i1_pairs i1_gone i2_pairs i2_gone : Int32} {pa_names : Nat → Int64} {rd_tape to_unsurePair to_unsureYears to_triedPair tf_seatOf tf_one tf_other tf_kind tf_years tf_sawn bd_unsurePair bd_unsureYears bd_triedPair bf_seatOf bf_one bf_other bf_kind bf_years bf_sawn nw_seatOf nw_one nw_other nw_kind nw_years nw_sawn sc_seatOf sc_handle sc_both sc_slopOf sl_bits se_bestRow se_row se_pairAt se_hope se_hopeAt se_slopAt se_farBits se_gain se_worth ch_both ch_cost ch_bit cl_bits fi_sets ps_act ps_whom ps_amount i0_seatOf i0_one i0_other i0_kind i0_years i0_sawn i1_seatOf i1_one i1_other i1_kind i1_years i1_sawn i2_seatOf i2_one i2_other i2_kind i2_years i2_sawn : Nat → Int32} {rd_word : Int64} {l1 : Int32} {o : (Int32) ⊕ (Unit)} {R0 : Int32} (C : xC p s m args meth c cX5_isTaken 3 RX5 E A (some .boolean)) (Jr : ∀ r, o = .inl r → r = R0) (J : ∀ t, o = .inr t → ∀ (H : Heap) (locs : List Loc) (ls : Array Slot), xG s E A (wX E ad x_imageCount x_lastTrouble x_lastFault x_lastPlace pa_names pa_faultNumber pa_faultPlace rd_tape rd_length rd_end rd_next rd_sort rd_start rd_value rd_word to_unsurePair to_unsureYears to_triedPair to_seats to_slack to_sawInches to_quarrelChance to_people to_forkBits to_unsure to_tried to_triedFedBits tf_seatOf tf_one tf_other tf_kind tf_years tf_sawn tf_pairs tf_gone bd_unsurePair bd_unsureYears bd_triedPair bd_seats bd_slack bd_sawInches bd_quarrelChance bd_people bd_forkBits bd_unsure bd_tried bd_triedFedBits bf_seatOf bf_one bf_other bf_kind bf_years bf_sawn bf_pairs bf_gone nw_seatOf nw_one nw_other nw_kind nw_years nw_sawn nw_pairs nw_gone sc_seatOf sc_handle sc_both sc_slopOf sc_forkBits sc_canBits sc_bestBits sc_bestSlops sl_bits sl_count se_bestRow se_row se_pairAt se_hope se_hopeAt se_slopAt se_farBits se_gain se_worth se_bestWorth se_fresh ch_both ch_cost ch_bit ch_items ch_leastCost ch_leastBits cl_bits cl_count fi_sets fi_count ps_act ps_whom ps_amount ps_next ps_count i0_seatOf i0_one i0_other i0_kind i0_years i0_sawn i0_pairs i0_gone i1_seatOf i1_one i1_other i1_kind i1_years i1_sawn i1_pairs i1_gone i2_seatOf i2_one i2_other i2_kind i2_years i2_sawn i2_pairs i2_gone) H locs → lv_has ls 3 [] → W p l e (xR 0 0) s m args below meth c H locs 0 0 (MQ below (xqI E A (wX E ad x_imageCount x_lastTrouble x_lastFault x_lastPlace pa_names pa_faultNumber pa_faultPlace rd_tape rd_length rd_end rd_next rd_sort rd_start rd_value rd_word to_unsurePair to_unsureYears to_triedPair to_seats to_slack to_sawInches to_quarrelChance to_people to_forkBits to_unsure to_tried to_triedFedBits tf_seatOf tf_one tf_other tf_kind tf_years tf_sawn tf_pairs tf_gone bd_unsurePair bd_unsureYears bd_triedPair bd_seats bd_slack bd_sawInches bd_quarrelChance bd_people bd_forkBits bd_unsure bd_tried bd_triedFedBits bf_seatOf bf_one bf_other bf_kind bf_years bf_sawn bf_pairs bf_gone nw_seatOf nw_one nw_other nw_kind nw_years nw_sawn nw_pairs nw_gone sc_seatOf sc_handle sc_both sc_slopOf sc_forkBits sc_canBits sc_bestBits sc_bestSlops sl_bits sl_count se_bestRow se_row se_pairAt se_hope se_hopeAt se_slopAt se_farBits se_gain se_worth se_bestWorth se_fresh ch_both ch_cost ch_bit ch_items ch_leastCost ch_leastBits cl_bits cl_count fi_sets fi_count ps_act ps_whom ps_amount ps_next ps_count i0_seatOf i0_one i0_other i0_kind i0_years i0_sawn i0_pairs i0_gone i1_seatOf i1_one i1_other i1_kind i1_years i1_sawn i1_pairs i1_gone i2_seatOf i2_one i2_other i2_kind i2_years i2_sawn i2_pairs i2_gone) (some .boolean) R0) args s 0 0 A) (F0 m 37 ls [])) :
    ∀ (n : Nat) (l2 : Int32) (H : Heap) (locs : List Loc) (ls : Array Slot), xG s E A (wX E ad x_imageCount x_lastTrouble x_lastFault x_lastPlace pa_names pa_faultNumber pa_faultPlace rd_tape rd_length rd_end rd_next rd_sort rd_start rd_value rd_word to_unsurePair to_unsureYears to_triedPair to_seats to_slack to_sawInches to_quarrelChance to_people to_forkBits to_unsure to_tried to_triedFedBits tf_seatOf tf_one tf_other tf_kind tf_years tf_sawn tf_pairs tf_gone bd_unsurePair bd_unsureYears bd_triedPair bd_seats bd_slack bd_sawInches bd_quarrelChance bd_people bd_forkBits bd_unsure bd_tried bd_triedFedBits bf_seatOf bf_one bf_other bf_kind bf_years bf_sawn bf_pairs bf_gone nw_seatOf nw_one nw_other nw_kind nw_years nw_sawn nw_pairs nw_gone sc_seatOf sc_handle sc_both sc_slopOf sc_forkBits sc_canBits sc_bestBits sc_bestSlops sl_bits sl_count se_bestRow se_row se_pairAt se_hope se_hopeAt se_slopAt se_farBits se_gain se_worth se_bestWorth se_fresh ch_both ch_cost ch_bit ch_items ch_leastCost ch_leastBits cl_bits cl_count fi_sets fi_count ps_act ps_whom ps_amount ps_next ps_count i0_seatOf i0_one i0_other i0_kind i0_years i0_sawn i0_pairs i0_gone i1_seatOf i1_one i1_other i1_kind i1_years i1_sawn i1_pairs i1_gone i2_seatOf i2_one i2_other i2_kind i2_years i2_sawn i2_pairs i2_gone) H locs → lv_has ls 3 [(0, .ref (ad 2)), (1, .int l1), (2, .int l2)] → f_Parser_isTaken_L2 l1 to_people tf_seatOf n l2 = some o → W p l e (xR 0 0) s m args below meth c H locs 0 0 (MQ below (xqI E A (wX E ad x_imageCount x_lastTrouble x_lastFault x_lastPlace pa_names pa_faultNumber pa_faultPlace rd_tape rd_length rd_end rd_next rd_sort rd_start rd_value rd_word to_unsurePair to_unsureYears to_triedPair to_seats to_slack to_sawInches to_quarrelChance to_people to_forkBits to_unsure to_tried to_triedFedBits tf_seatOf tf_one tf_other tf_kind tf_years tf_sawn tf_pairs tf_gone bd_unsurePair bd_unsureYears bd_triedPair bd_seats bd_slack bd_sawInches bd_quarrelChance bd_people bd_forkBits bd_unsure bd_tried bd_triedFedBits bf_seatOf bf_one bf_other bf_kind bf_years bf_sawn bf_pairs bf_gone nw_seatOf nw_one nw_other nw_kind nw_years nw_sawn nw_pairs nw_gone sc_seatOf sc_handle sc_both sc_slopOf sc_forkBits sc_canBits sc_bestBits sc_bestSlops sl_bits sl_count se_bestRow se_row se_pairAt se_hope se_hopeAt se_slopAt se_farBits se_gain se_worth se_bestWorth se_fresh ch_both ch_cost ch_bit ch_items ch_leastCost ch_leastBits cl_bits cl_count fi_sets fi_count ps_act ps_whom ps_amount ps_next ps_count i0_seatOf i0_one i0_other i0_kind i0_years i0_sawn i0_pairs i0_gone i1_seatOf i1_one i1_other i1_kind i1_years i1_sawn i1_pairs i1_gone i2_seatOf i2_one i2_other i2_kind i2_years i2_sawn i2_pairs i2_gone) (some .boolean) R0) args s 0 0 A) (F0 m 2 ls []) := by
  have hx := C.1
  have hb := C.2.1
  intro n
  induction n with
  | zero =>
    intro l2 H locs ls G hl hf
    exact nomatch (show (none : Option ((Int32) ⊕ (Unit))) = some o from hf)
  | succ n ih =>
    intro l2 H locs ls G hl hf
    rw [f_Parser_isTaken_L2] at hf
    refine lv_iload_n hx hb dX5_isTaken_2 rfl (lv_at hl 2 rfl) ?_
    refine lv_aload_n hx hb dX5_isTaken_3 rfl (lv_at hl 0 rfl) ?_
    refine x_get C G fX5_21 (wX_at2) rfl dX5_isTaken_4 ?_
    refine x_get C G fX5_50.g (wX_at6) rfl dX5_isTaken_7 ?_
    refine lv_icmp_ge (tgt := 37) hx hb dX5_isTaken_10 (by decide) (fun h => ?_) (fun h => ?_)
    · have hf := it_t h hf
      exact J _ (Option.some.inj hf).symm _ _ _ G (lv_sub hl [] rfl)
    · have hf := it_f h hf
      refine lv_aload_n hx hb dX5_isTaken_13 rfl (lv_at hl 0 rfl) ?_
      refine x_get C G fX5_21 (wX_at2) rfl dX5_isTaken_14 ?_
      refine x_get C G fX5_116 (wX_at6) rfl dX5_isTaken_17 ?_
      refine x_get C G fX5_172 (wX_at10) rfl dX5_isTaken_20 ?_
      refine lv_iload_n hx hb dX5_isTaken_23 rfl (lv_at hl 2 rfl) ?_
      have hi := ck_in hf
      have hf := ck_go hf
      refine x_iald C G (wX_at11) hi dX5_isTaken_24 ?_
      refine lv_iload_n hx hb dX5_isTaken_25 rfl (lv_at hl 1 rfl) ?_
      refine lv_icmp_ne (tgt := 31) hx hb dX5_isTaken_26 (by decide) (fun h => ?_) (fun h => ?_)
      · have hf := it_f h hf
        obtain ⟨x1, ex1⟩ : ∃ z : Int32, z = l2 + (1 : Int32) := ⟨_, rfl⟩
        have hf := lt_go ex1 hf
        refine lv_iinc (v := x1) (lv' := [(2, .int x1), (0, .ref (ad 2)), (1, .int l1)]) hx hb dX5_isTaken_31 hl (k := 2) rfl (by rw [ex1]; rfl) (by decide) rfl (fun ls hl => ?_)
        refine lv_goto (tgt := 2) hx hb dX5_isTaken_34 (by decide) ?_
        exact ih x1 _ _ _ G (lv_sub hl [1, 2, 0] rfl) hf
      · have hf := it_t h hf
        refine lv_iconst (v := 1) hx hb dX5_isTaken_29 (by decide) ?_
        obtain rfl := Jr _ (Option.some.inj hf).symm
        exact xI_ret (r := (1 : Int32)) C G rfl dX5_isTaken_30
set_option maxHeartbeats 4000000 in
set_option maxRecDepth 100000 in
theorem c_Parser_isTaken_pa {l : Launch} {E : xE} {ad : Nat → Nat} {x_imageCount x_lastTrouble x_lastFault x_lastPlace pa_faultNumber pa_faultPlace rd_length rd_end rd_next rd_sort rd_start rd_value to_seats to_slack to_sawInches to_quarrelChance to_people to_forkBits to_unsure to_tried to_triedFedBits tf_pairs tf_gone bd_seats bd_slack bd_sawInches bd_quarrelChance bd_people bd_forkBits bd_unsure bd_tried bd_triedFedBits bf_pairs bf_gone nw_pairs nw_gone sc_forkBits sc_canBits sc_bestBits sc_bestSlops sl_count se_bestWorth se_fresh ch_items ch_leastCost ch_leastBits cl_count fi_count ps_next ps_count i0_pairs i0_gone i1_pairs i1_gone i2_pairs i2_gone : Int32} {pa_names : Nat → Int64} {rd_tape to_unsurePair to_unsureYears to_triedPair tf_seatOf tf_one tf_other tf_kind tf_years tf_sawn bd_unsurePair bd_unsureYears bd_triedPair bf_seatOf bf_one bf_other bf_kind bf_years bf_sawn nw_seatOf nw_one nw_other nw_kind nw_years nw_sawn sc_seatOf sc_handle sc_both sc_slopOf sl_bits se_bestRow se_row se_pairAt se_hope se_hopeAt se_slopAt se_farBits se_gain se_worth ch_both ch_cost ch_bit cl_bits fi_sets ps_act ps_whom ps_amount i0_seatOf i0_one i0_other i0_kind i0_years i0_sawn i1_seatOf i1_one i1_other i1_kind i1_years i1_sawn i2_seatOf i2_one i2_other i2_kind i2_years i2_sawn : Nat → Int32} {rd_word : Int64} {l1 : Int32} {R0 : Int32} (hf : f_Parser_isTaken l1 to_people tf_seatOf = some R0) : xI l E yX5_isTaken cX5_isTaken 3 (some .boolean) 0 0 [.ref (ad 2), .int l1] (wX E ad x_imageCount x_lastTrouble x_lastFault x_lastPlace pa_names pa_faultNumber pa_faultPlace rd_tape rd_length rd_end rd_next rd_sort rd_start rd_value rd_word to_unsurePair to_unsureYears to_triedPair to_seats to_slack to_sawInches to_quarrelChance to_people to_forkBits to_unsure to_tried to_triedFedBits tf_seatOf tf_one tf_other tf_kind tf_years tf_sawn tf_pairs tf_gone bd_unsurePair bd_unsureYears bd_triedPair bd_seats bd_slack bd_sawInches bd_quarrelChance bd_people bd_forkBits bd_unsure bd_tried bd_triedFedBits bf_seatOf bf_one bf_other bf_kind bf_years bf_sawn bf_pairs bf_gone nw_seatOf nw_one nw_other nw_kind nw_years nw_sawn nw_pairs nw_gone sc_seatOf sc_handle sc_both sc_slopOf sc_forkBits sc_canBits sc_bestBits sc_bestSlops sl_bits sl_count se_bestRow se_row se_pairAt se_hope se_hopeAt se_slopAt se_farBits se_gain se_worth se_bestWorth se_fresh ch_both ch_cost ch_bit ch_items ch_leastCost ch_leastBits cl_bits cl_count fi_sets fi_count ps_act ps_whom ps_amount ps_next ps_count i0_seatOf i0_one i0_other i0_kind i0_years i0_sawn i0_pairs i0_gone i1_seatOf i1_one i1_other i1_kind i1_years i1_sawn i1_pairs i1_gone i2_seatOf i2_one i2_other i2_kind i2_years i2_sawn i2_pairs i2_gone) (wX E ad x_imageCount x_lastTrouble x_lastFault x_lastPlace pa_names pa_faultNumber pa_faultPlace rd_tape rd_length rd_end rd_next rd_sort rd_start rd_value rd_word to_unsurePair to_unsureYears to_triedPair to_seats to_slack to_sawInches to_quarrelChance to_people to_forkBits to_unsure to_tried to_triedFedBits tf_seatOf tf_one tf_other tf_kind tf_years tf_sawn tf_pairs tf_gone bd_unsurePair bd_unsureYears bd_triedPair bd_seats bd_slack bd_sawInches bd_quarrelChance bd_people bd_forkBits bd_unsure bd_tried bd_triedFedBits bf_seatOf bf_one bf_other bf_kind bf_years bf_sawn bf_pairs bf_gone nw_seatOf nw_one nw_other nw_kind nw_years nw_sawn nw_pairs nw_gone sc_seatOf sc_handle sc_both sc_slopOf sc_forkBits sc_canBits sc_bestBits sc_bestSlops sl_bits sl_count se_bestRow se_row se_pairAt se_hope se_hopeAt se_slopAt se_farBits se_gain se_worth se_bestWorth se_fresh ch_both ch_cost ch_bit ch_items ch_leastCost ch_leastBits cl_bits cl_count fi_sets fi_count ps_act ps_whom ps_amount ps_next ps_count i0_seatOf i0_one i0_other i0_kind i0_years i0_sawn i0_pairs i0_gone i1_seatOf i1_one i1_other i1_kind i1_years i1_sawn i1_pairs i1_gone i2_seatOf i2_one i2_other i2_kind i2_years i2_sawn i2_pairs i2_gone) R0 := by
  refine xI_of (by decide) (Nat.le_of_ble_eq_true rfl) (fun p e s m args below meth c A C ls hl G => ?_)
  have hx := C.1
  have hb := C.2.1
  have hl : lv_has ls 3 [(0, .ref (ad 2)), (1, .int l1)] := hl
  unfold f_Parser_isTaken at hf
  refine lv_iconst (v := 0) hx hb dX5_isTaken_0 (by decide) ?_
  refine lv_istore_n (lv' := [(2, .int (0 : Int32)), (0, .ref (ad 2)), (1, .int l1)]) hx hb dX5_isTaken_1 rfl hl (by decide) rfl (fun ls hl => ?_)
  obtain ⟨ox2, hr, hf⟩ := bd_go hf
  have Jx2 : ∀ x2, ox2 = .inr x2 → ∀ (H : Heap) (locs : List Loc) (ls : Array Slot), xG s E A (wX E ad x_imageCount x_lastTrouble x_lastFault x_lastPlace pa_names pa_faultNumber pa_faultPlace rd_tape rd_length rd_end rd_next rd_sort rd_start rd_value rd_word to_unsurePair to_unsureYears to_triedPair to_seats to_slack to_sawInches to_quarrelChance to_people to_forkBits to_unsure to_tried to_triedFedBits tf_seatOf tf_one tf_other tf_kind tf_years tf_sawn tf_pairs tf_gone bd_unsurePair bd_unsureYears bd_triedPair bd_seats bd_slack bd_sawInches bd_quarrelChance bd_people bd_forkBits bd_unsure bd_tried bd_triedFedBits bf_seatOf bf_one bf_other bf_kind bf_years bf_sawn bf_pairs bf_gone nw_seatOf nw_one nw_other nw_kind nw_years nw_sawn nw_pairs nw_gone sc_seatOf sc_handle sc_both sc_slopOf sc_forkBits sc_canBits sc_bestBits sc_bestSlops sl_bits sl_count se_bestRow se_row se_pairAt se_hope se_hopeAt se_slopAt se_farBits se_gain se_worth se_bestWorth se_fresh ch_both ch_cost ch_bit ch_items ch_leastCost ch_leastBits cl_bits cl_count fi_sets fi_count ps_act ps_whom ps_amount ps_next ps_count i0_seatOf i0_one i0_other i0_kind i0_years i0_sawn i0_pairs i0_gone i1_seatOf i1_one i1_other i1_kind i1_years i1_sawn i1_pairs i1_gone i2_seatOf i2_one i2_other i2_kind i2_years i2_sawn i2_pairs i2_gone) H locs → lv_has ls 3 [] → W p l e (xR 0 0) s m args below meth c H locs 0 0 (MQ below (xqI E A (wX E ad x_imageCount x_lastTrouble x_lastFault x_lastPlace pa_names pa_faultNumber pa_faultPlace rd_tape rd_length rd_end rd_next rd_sort rd_start rd_value rd_word to_unsurePair to_unsureYears to_triedPair to_seats to_slack to_sawInches to_quarrelChance to_people to_forkBits to_unsure to_tried to_triedFedBits tf_seatOf tf_one tf_other tf_kind tf_years tf_sawn tf_pairs tf_gone bd_unsurePair bd_unsureYears bd_triedPair bd_seats bd_slack bd_sawInches bd_quarrelChance bd_people bd_forkBits bd_unsure bd_tried bd_triedFedBits bf_seatOf bf_one bf_other bf_kind bf_years bf_sawn bf_pairs bf_gone nw_seatOf nw_one nw_other nw_kind nw_years nw_sawn nw_pairs nw_gone sc_seatOf sc_handle sc_both sc_slopOf sc_forkBits sc_canBits sc_bestBits sc_bestSlops sl_bits sl_count se_bestRow se_row se_pairAt se_hope se_hopeAt se_slopAt se_farBits se_gain se_worth se_bestWorth se_fresh ch_both ch_cost ch_bit ch_items ch_leastCost ch_leastBits cl_bits cl_count fi_sets fi_count ps_act ps_whom ps_amount ps_next ps_count i0_seatOf i0_one i0_other i0_kind i0_years i0_sawn i0_pairs i0_gone i1_seatOf i1_one i1_other i1_kind i1_years i1_sawn i1_pairs i1_gone i2_seatOf i2_one i2_other i2_kind i2_years i2_sawn i2_pairs i2_gone) (some .boolean) R0) args s 0 0 A) (F0 m 37 ls []) := by
    intro x2 hq H locs ls G hl
    subst hq
    have hf := sm_r hf
    refine lv_iconst (v := 0) hx hb dX5_isTaken_37 (by decide) ?_
    obtain rfl := Option.some.inj hf
    exact xI_ret (r := (0 : Int32)) C G rfl dX5_isTaken_38
  have Jrx2 : ∀ r, ox2 = .inl r → r = R0 := by
    intro r hq
    subst hq
    exact Option.some.inj hf
  exact w_Parser_isTaken_pa_L2 C Jrx2 Jx2 fu _ _ _ _ G (lv_sub hl [1, 2, 0] rfl) hr
set_option maxHeartbeats 4000000 in
set_option maxRecDepth 100000 in
theorem c_Parser_personLine_pa {l : Launch} {E : xE} {ad : Nat → Nat} {x_imageCount x_lastTrouble x_lastFault x_lastPlace pa_faultNumber pa_faultPlace rd_length rd_end rd_next rd_sort rd_start rd_value to_seats to_slack to_sawInches to_quarrelChance to_people to_forkBits to_unsure to_tried to_triedFedBits tf_pairs tf_gone bd_seats bd_slack bd_sawInches bd_quarrelChance bd_people bd_forkBits bd_unsure bd_tried bd_triedFedBits bf_pairs bf_gone nw_pairs nw_gone sc_forkBits sc_canBits sc_bestBits sc_bestSlops sl_count se_bestWorth se_fresh ch_items ch_leastCost ch_leastBits cl_count fi_count ps_next ps_count i0_pairs i0_gone i1_pairs i1_gone i2_pairs i2_gone : Int32} {pa_names : Nat → Int64} {rd_tape to_unsurePair to_unsureYears to_triedPair tf_seatOf tf_one tf_other tf_kind tf_years tf_sawn bd_unsurePair bd_unsureYears bd_triedPair bf_seatOf bf_one bf_other bf_kind bf_years bf_sawn nw_seatOf nw_one nw_other nw_kind nw_years nw_sawn sc_seatOf sc_handle sc_both sc_slopOf sl_bits se_bestRow se_row se_pairAt se_hope se_hopeAt se_slopAt se_farBits se_gain se_worth ch_both ch_cost ch_bit cl_bits fi_sets ps_act ps_whom ps_amount i0_seatOf i0_one i0_other i0_kind i0_years i0_sawn i1_seatOf i1_one i1_other i1_kind i1_years i1_sawn i2_seatOf i2_one i2_other i2_kind i2_years i2_sawn : Nat → Int32} {rd_word : Int64} {R0 : Int32 × (Nat → Int64) × Int32 × Int32 × Int32 × Int32 × Int32 × Int32 × Int64 × Int32 × (Nat → Int32)} (hf : f_Parser_personLine pa_names pa_faultNumber pa_faultPlace rd_tape rd_end rd_next rd_sort rd_start rd_value rd_word to_seats to_people tf_seatOf = some R0) : xI l E yX5_personLine cX5_personLine 1 (some .boolean) 2 45 [.ref (ad 2)] (wX E ad x_imageCount x_lastTrouble x_lastFault x_lastPlace pa_names pa_faultNumber pa_faultPlace rd_tape rd_length rd_end rd_next rd_sort rd_start rd_value rd_word to_unsurePair to_unsureYears to_triedPair to_seats to_slack to_sawInches to_quarrelChance to_people to_forkBits to_unsure to_tried to_triedFedBits tf_seatOf tf_one tf_other tf_kind tf_years tf_sawn tf_pairs tf_gone bd_unsurePair bd_unsureYears bd_triedPair bd_seats bd_slack bd_sawInches bd_quarrelChance bd_people bd_forkBits bd_unsure bd_tried bd_triedFedBits bf_seatOf bf_one bf_other bf_kind bf_years bf_sawn bf_pairs bf_gone nw_seatOf nw_one nw_other nw_kind nw_years nw_sawn nw_pairs nw_gone sc_seatOf sc_handle sc_both sc_slopOf sc_forkBits sc_canBits sc_bestBits sc_bestSlops sl_bits sl_count se_bestRow se_row se_pairAt se_hope se_hopeAt se_slopAt se_farBits se_gain se_worth se_bestWorth se_fresh ch_both ch_cost ch_bit ch_items ch_leastCost ch_leastBits cl_bits cl_count fi_sets fi_count ps_act ps_whom ps_amount ps_next ps_count i0_seatOf i0_one i0_other i0_kind i0_years i0_sawn i0_pairs i0_gone i1_seatOf i1_one i1_other i1_kind i1_years i1_sawn i1_pairs i1_gone i2_seatOf i2_one i2_other i2_kind i2_years i2_sawn i2_pairs i2_gone) (wX E ad x_imageCount x_lastTrouble x_lastFault x_lastPlace R0.2.1 R0.2.2.1 R0.2.2.2.1 rd_tape rd_length rd_end R0.2.2.2.2.1 R0.2.2.2.2.2.1 R0.2.2.2.2.2.2.1 R0.2.2.2.2.2.2.2.1 R0.2.2.2.2.2.2.2.2.1 to_unsurePair to_unsureYears to_triedPair to_seats to_slack to_sawInches to_quarrelChance R0.2.2.2.2.2.2.2.2.2.1 to_forkBits to_unsure to_tried to_triedFedBits R0.2.2.2.2.2.2.2.2.2.2 tf_one tf_other tf_kind tf_years tf_sawn tf_pairs tf_gone bd_unsurePair bd_unsureYears bd_triedPair bd_seats bd_slack bd_sawInches bd_quarrelChance bd_people bd_forkBits bd_unsure bd_tried bd_triedFedBits bf_seatOf bf_one bf_other bf_kind bf_years bf_sawn bf_pairs bf_gone nw_seatOf nw_one nw_other nw_kind nw_years nw_sawn nw_pairs nw_gone sc_seatOf sc_handle sc_both sc_slopOf sc_forkBits sc_canBits sc_bestBits sc_bestSlops sl_bits sl_count se_bestRow se_row se_pairAt se_hope se_hopeAt se_slopAt se_farBits se_gain se_worth se_bestWorth se_fresh ch_both ch_cost ch_bit ch_items ch_leastCost ch_leastBits cl_bits cl_count fi_sets fi_count ps_act ps_whom ps_amount ps_next ps_count i0_seatOf i0_one i0_other i0_kind i0_years i0_sawn i0_pairs i0_gone i1_seatOf i1_one i1_other i1_kind i1_years i1_sawn i1_pairs i1_gone i2_seatOf i2_one i2_other i2_kind i2_years i2_sawn i2_pairs i2_gone) R0.1 := by
  refine xI_of (by decide) (Nat.le_of_ble_eq_true rfl) (fun p e s m args below meth c A C ls hl G => ?_)
  have hx := C.1
  have hb := C.2.1
  have hl : lv_has ls 1 [(0, .ref (ad 2))] := hl
  unfold f_Parser_personLine at hf
  refine lv_aload_n hx hb dX5_personLine_0 rfl (lv_at hl 0 rfl) ?_
  obtain ⟨x1, hc, hf⟩ := bd_go hf
  refine xI_V C G (c_Parser_useOfWord_pa hc) mX5_useOfWord kX5_79 (wX_at2) rfl ⟨Nat.le_of_ble_eq_true rfl, Nat.le_of_ble_eq_true rfl⟩ rfl hl.1 rfl (Nat.le_of_ble_eq_true rfl) ⟨Nat.le_refl _, Nat.le_refl _⟩ dX5_personLine_1 (fun hz H locs G => ?_)
  refine lv_bipush (v := 6) hx hb dX5_personLine_4 (by decide) ?_
  refine lv_icmp_eq (tgt := 15) hx hb dX5_personLine_6 (by decide) (fun h => ?_) (fun h => ?_)
  · have hf := it_t h hf
    refine lv_aload_n hx hb dX5_personLine_15 rfl (lv_at hl 0 rfl) ?_
    refine lv_aload_n hx hb dX5_personLine_16 rfl (lv_at hl 0 rfl) ?_
    refine x_get C G fX5_12 (wX_at2) rfl dX5_personLine_17 ?_
    refine x_get C G fX5_63.g (wX_at4) rfl dX5_personLine_20 ?_
    obtain ⟨x2, hc, hf⟩ := bd_go hf
    refine xI_V C G (c_Parser_personNamed_pa hc) mX5_personNamed kX5_152 (wX_at2) rfl ⟨Nat.le_of_ble_eq_true rfl, Nat.le_of_ble_eq_true rfl⟩ rfl hl.1 rfl (Nat.le_of_ble_eq_true rfl) ⟨Nat.le_refl _, Nat.le_refl _⟩ dX5_personLine_23 (fun hz H locs G => ?_)
    refine lv_if_lt (tgt := 35) hx hb dX5_personLine_26 (by decide) (fun h => ?_) (fun h => ?_)
    · have hf := it_t h hf
      refine lv_aload_n hx hb dX5_personLine_35 rfl (lv_at hl 0 rfl) ?_
      refine x_get C G fX5_25 (wX_at2) rfl dX5_personLine_36 ?_
      refine lv_aload_n hx hb dX5_personLine_39 rfl (lv_at hl 0 rfl) ?_
      refine x_get C G fX5_21 (wX_at2) rfl dX5_personLine_40 ?_
      refine x_get C G fX5_50.g (wX_at6) rfl dX5_personLine_43 ?_
      refine lv_aload_n hx hb dX5_personLine_46 rfl (lv_at hl 0 rfl) ?_
      refine x_get C G fX5_12 (wX_at2) rfl dX5_personLine_47 ?_
      refine x_get C G fX5_63.g (wX_at4) rfl dX5_personLine_50 ?_
      have hi := ck_in hf
      have hf := ck_go hf
      refine x_last (ws' := (wX E ad x_imageCount x_lastTrouble x_lastFault x_lastPlace (vp_updL pa_names to_people.toNatClampNeg rd_word) pa_faultNumber pa_faultPlace rd_tape rd_length rd_end rd_next rd_sort rd_start rd_value rd_word to_unsurePair to_unsureYears to_triedPair to_seats to_slack to_sawInches to_quarrelChance to_people to_forkBits to_unsure to_tried to_triedFedBits tf_seatOf tf_one tf_other tf_kind tf_years tf_sawn tf_pairs tf_gone bd_unsurePair bd_unsureYears bd_triedPair bd_seats bd_slack bd_sawInches bd_quarrelChance bd_people bd_forkBits bd_unsure bd_tried bd_triedFedBits bf_seatOf bf_one bf_other bf_kind bf_years bf_sawn bf_pairs bf_gone nw_seatOf nw_one nw_other nw_kind nw_years nw_sawn nw_pairs nw_gone sc_seatOf sc_handle sc_both sc_slopOf sc_forkBits sc_canBits sc_bestBits sc_bestSlops sl_bits sl_count se_bestRow se_row se_pairAt se_hope se_hopeAt se_slopAt se_farBits se_gain se_worth se_bestWorth se_fresh ch_both ch_cost ch_bit ch_items ch_leastCost ch_leastBits cl_bits cl_count fi_sets fi_count ps_act ps_whom ps_amount ps_next ps_count i0_seatOf i0_one i0_other i0_kind i0_years i0_sawn i0_pairs i0_gone i1_seatOf i1_one i1_other i1_kind i1_years i1_sawn i1_pairs i1_gone i2_seatOf i2_one i2_other i2_kind i2_years i2_sawn i2_pairs i2_gone)) C G (wX_at3) hi wX_set_pa_names dX5_personLine_53 (fun H locs G => ?_)
      refine lv_aload_n hx hb dX5_personLine_54 rfl (lv_at hl 0 rfl) ?_
      refine x_get C G fX5_12 (wX_at2) rfl dX5_personLine_55 ?_
      obtain ⟨x3, hc, hf⟩ := bd_go hf
      refine xV_V C G (c_Reader_step_rd hc) mX7_step kX5_57 (wX_at4) rfl ⟨Nat.le_of_ble_eq_true rfl, Nat.le_of_ble_eq_true rfl⟩ rfl hl.1 rfl (Nat.le_of_ble_eq_true rfl) ⟨Nat.le_refl _, Nat.le_refl _⟩ dX5_personLine_58 (fun H locs G => ?_)
      refine lv_aload_n hx hb dX5_personLine_61 rfl (lv_at hl 0 rfl) ?_
      refine lv_ldc2 hx hb C.2.2.2.1 (C.2.2.2.2.1 _ qX5_156) dX5_personLine_62 ?_
      obtain ⟨x4, hc, hf⟩ := bd_go hf
      refine xI_V C G (c_Parser_isKeyword_pa hc) mX5_isKeyword kX5_158 (wX_at2) rfl ⟨Nat.le_of_ble_eq_true rfl, Nat.le_of_ble_eq_true rfl⟩ rfl hl.1 rfl (Nat.le_of_ble_eq_true rfl) ⟨Nat.le_refl _, Nat.le_refl _⟩ dX5_personLine_65 (fun hz4 H locs G => ?_)
      refine lv_if_ne (tgt := 73) hx hb dX5_personLine_68 (by decide) (fun h => ?_) (fun h => ?_)
      · have hf := it_f h hf
        refine lv_aload_n hx hb dX5_personLine_73 rfl (lv_at hl 0 rfl) ?_
        refine x_get C G fX5_12 (wX_at2) rfl dX5_personLine_74 ?_
        obtain ⟨x5, hc, hf⟩ := bd_go hf
        refine xV_V C G (c_Reader_step_rd hc) mX7_step kX5_57 (wX_at4) rfl ⟨Nat.le_of_ble_eq_true rfl, Nat.le_of_ble_eq_true rfl⟩ rfl hl.1 rfl (Nat.le_of_ble_eq_true rfl) ⟨Nat.le_refl _, Nat.le_refl _⟩ dX5_personLine_77 (fun H locs G => ?_)
        refine lv_aload_n hx hb dX5_personLine_80 rfl (lv_at hl 0 rfl) ?_
        refine lv_iconst (v := 0) hx hb dX5_personLine_81 (by decide) ?_
        refine lv_aload_n hx hb dX5_personLine_82 rfl (lv_at hl 0 rfl) ?_
        refine x_get C G fX5_21 (wX_at2) rfl dX5_personLine_83 ?_
        refine x_get C G fX5_83.g (wX_at6) rfl dX5_personLine_86 ?_
        refine lv_iconst (v := 1) hx hb dX5_personLine_89 (by decide) ?_
        refine lv_isub hx hb dX5_personLine_90 ?_
        obtain ⟨x6, hc, hf⟩ := bd_go hf
        refine xI_V C G (c_Parser_isWhole_pa hc) mX5_isWhole kX5_162 (wX_at2) rfl ⟨Nat.le_of_ble_eq_true rfl, Nat.le_of_ble_eq_true rfl⟩ rfl hl.1 rfl (Nat.le_of_ble_eq_true rfl) ⟨Nat.le_refl _, Nat.le_refl _⟩ dX5_personLine_91 (fun hz6 H locs G => ?_)
        refine lv_if_ne (tgt := 99) hx hb dX5_personLine_94 (by decide) (fun h => ?_) (fun h => ?_)
        · have hf := it_f h hf
          refine lv_aload_n hx hb dX5_personLine_99 rfl (lv_at hl 0 rfl) ?_
          refine lv_aload_n hx hb dX5_personLine_100 rfl (lv_at hl 0 rfl) ?_
          refine x_get C G fX5_12 (wX_at2) rfl dX5_personLine_101 ?_
          refine x_get C G fX5_166.g (wX_at4) rfl dX5_personLine_104 ?_
          obtain ⟨x7, hc, hf⟩ := bd_go hf
          refine xI_V C G (c_Parser_isTaken_pa hc) mX5_isTaken kX5_169 (wX_at2) rfl ⟨Nat.le_of_ble_eq_true rfl, Nat.le_of_ble_eq_true rfl⟩ rfl hl.1 rfl (Nat.le_of_ble_eq_true rfl) ⟨Nat.le_refl _, Nat.le_refl _⟩ dX5_personLine_107 (fun hz7 H locs G => ?_)
          refine lv_if_eq (tgt := 119) hx hb dX5_personLine_110 (by decide) (fun h => ?_) (fun h => ?_)
          · have hf := it_t h hf
            refine lv_aload_n hx hb dX5_personLine_119 rfl (lv_at hl 0 rfl) ?_
            refine x_get C G fX5_21 (wX_at2) rfl dX5_personLine_120 ?_
            refine x_get C G fX5_116 (wX_at6) rfl dX5_personLine_123 ?_
            refine x_get C G fX5_172 (wX_at10) rfl dX5_personLine_126 ?_
            refine lv_aload_n hx hb dX5_personLine_129 rfl (lv_at hl 0 rfl) ?_
            refine x_get C G fX5_21 (wX_at2) rfl dX5_personLine_130 ?_
            refine x_get C G fX5_50.g (wX_at6) rfl dX5_personLine_133 ?_
            refine lv_aload_n hx hb dX5_personLine_136 rfl (lv_at hl 0 rfl) ?_
            refine x_get C G fX5_12 (wX_at2) rfl dX5_personLine_137 ?_
            refine x_get C G fX5_166.g (wX_at4) rfl dX5_personLine_140 ?_
            have hi := ck_in hf
            have hf := ck_go hf
            refine x_iast (ws' := (wX E ad x_imageCount x_lastTrouble x_lastFault x_lastPlace (vp_updL pa_names to_people.toNatClampNeg rd_word) x6.2.1 x6.2.2 rd_tape rd_length rd_end x5.1 x5.2.1 x5.2.2.1 x5.2.2.2.1 x5.2.2.2.2 to_unsurePair to_unsureYears to_triedPair to_seats to_slack to_sawInches to_quarrelChance to_people to_forkBits to_unsure to_tried to_triedFedBits (upd tf_seatOf to_people.toNatClampNeg x5.2.2.2.1) tf_one tf_other tf_kind tf_years tf_sawn tf_pairs tf_gone bd_unsurePair bd_unsureYears bd_triedPair bd_seats bd_slack bd_sawInches bd_quarrelChance bd_people bd_forkBits bd_unsure bd_tried bd_triedFedBits bf_seatOf bf_one bf_other bf_kind bf_years bf_sawn bf_pairs bf_gone nw_seatOf nw_one nw_other nw_kind nw_years nw_sawn nw_pairs nw_gone sc_seatOf sc_handle sc_both sc_slopOf sc_forkBits sc_canBits sc_bestBits sc_bestSlops sl_bits sl_count se_bestRow se_row se_pairAt se_hope se_hopeAt se_slopAt se_farBits se_gain se_worth se_bestWorth se_fresh ch_both ch_cost ch_bit ch_items ch_leastCost ch_leastBits cl_bits cl_count fi_sets fi_count ps_act ps_whom ps_amount ps_next ps_count i0_seatOf i0_one i0_other i0_kind i0_years i0_sawn i0_pairs i0_gone i1_seatOf i1_one i1_other i1_kind i1_years i1_sawn i1_pairs i1_gone i2_seatOf i2_one i2_other i2_kind i2_years i2_sawn i2_pairs i2_gone)) C G (wX_at11) hi wX_set_tf_seatOf dX5_personLine_143 (fun H locs G => ?_)
            refine lv_aload_n hx hb dX5_personLine_144 rfl (lv_at hl 0 rfl) ?_
            refine x_get C G fX5_21 (wX_at2) rfl dX5_personLine_145 ?_
            refine lv_dup hx hb dX5_personLine_148 rfl ?_
            refine x_get C G fX5_50.g (wX_at6) rfl dX5_personLine_149 ?_
            refine lv_iconst (v := 1) hx hb dX5_personLine_152 (by decide) ?_
            refine lv_iadd hx hb dX5_personLine_153 ?_
            refine lv_topi (fun x8 ex8 => ?_)
            have hf := lt_go ex8 hf
            refine x_put (ws' := (wX E ad x_imageCount x_lastTrouble x_lastFault x_lastPlace (vp_updL pa_names to_people.toNatClampNeg rd_word) x6.2.1 x6.2.2 rd_tape rd_length rd_end x5.1 x5.2.1 x5.2.2.1 x5.2.2.2.1 x5.2.2.2.2 to_unsurePair to_unsureYears to_triedPair to_seats to_slack to_sawInches to_quarrelChance x8 to_forkBits to_unsure to_tried to_triedFedBits (upd tf_seatOf to_people.toNatClampNeg x5.2.2.2.1) tf_one tf_other tf_kind tf_years tf_sawn tf_pairs tf_gone bd_unsurePair bd_unsureYears bd_triedPair bd_seats bd_slack bd_sawInches bd_quarrelChance bd_people bd_forkBits bd_unsure bd_tried bd_triedFedBits bf_seatOf bf_one bf_other bf_kind bf_years bf_sawn bf_pairs bf_gone nw_seatOf nw_one nw_other nw_kind nw_years nw_sawn nw_pairs nw_gone sc_seatOf sc_handle sc_both sc_slopOf sc_forkBits sc_canBits sc_bestBits sc_bestSlops sl_bits sl_count se_bestRow se_row se_pairAt se_hope se_hopeAt se_slopAt se_farBits se_gain se_worth se_bestWorth se_fresh ch_both ch_cost ch_bit ch_items ch_leastCost ch_leastBits cl_bits cl_count fi_sets fi_count ps_act ps_whom ps_amount ps_next ps_count i0_seatOf i0_one i0_other i0_kind i0_years i0_sawn i0_pairs i0_gone i1_seatOf i1_one i1_other i1_kind i1_years i1_sawn i1_pairs i1_gone i2_seatOf i2_one i2_other i2_kind i2_years i2_sawn i2_pairs i2_gone)) C G fX5_50 (wX_at6) rfl rfl (Nat.le_of_ble_eq_true rfl) wX_set_to_people dX5_personLine_154 (fun H locs G => ?_)
            refine lv_aload_n hx hb dX5_personLine_157 rfl (lv_at hl 0 rfl) ?_
            refine x_get C G fX5_12 (wX_at2) rfl dX5_personLine_158 ?_
            obtain ⟨x9, hc, hf⟩ := bd_go hf
            refine xV_V C G (c_Reader_step_rd hc) mX7_step kX5_57 (wX_at4) rfl ⟨Nat.le_of_ble_eq_true rfl, Nat.le_of_ble_eq_true rfl⟩ rfl hl.1 rfl (Nat.le_of_ble_eq_true rfl) ⟨Nat.le_refl _, Nat.le_refl _⟩ dX5_personLine_161 (fun H locs G => ?_)
            refine lv_iconst (v := 1) hx hb dX5_personLine_164 (by decide) ?_
            obtain rfl := Option.some.inj hf
            exact xI_ret (r := (1 : Int32)) C G rfl dX5_personLine_165
          · have hf := it_f h hf
            refine lv_aload_n hx hb dX5_personLine_113 rfl (lv_at hl 0 rfl) ?_
            refine lv_iconst (v := 3) hx hb dX5_personLine_114 (by decide) ?_
            obtain ⟨x10, hc, hf⟩ := bd_go hf
            refine xI_V C G (c_Parser_wrong_pa hc) mX5_wrong kX5_53 (wX_at2) rfl ⟨Nat.le_of_ble_eq_true rfl, Nat.le_of_ble_eq_true rfl⟩ rfl hl.1 rfl (Nat.le_of_ble_eq_true rfl) ⟨Nat.le_refl _, Nat.le_refl _⟩ dX5_personLine_115 (fun hz10 H locs G => ?_)
            obtain rfl := Option.some.inj hf
            exact xI_ret (r := x10.1) C G (hz10 _ rfl) dX5_personLine_118
        · have hf := it_t h hf
          refine lv_iconst (v := 0) hx hb dX5_personLine_97 (by decide) ?_
          obtain rfl := Option.some.inj hf
          exact xI_ret (r := (0 : Int32)) C G rfl dX5_personLine_98
      · have hf := it_t h hf
        refine lv_iconst (v := 0) hx hb dX5_personLine_71 (by decide) ?_
        obtain rfl := Option.some.inj hf
        exact xI_ret (r := (0 : Int32)) C G rfl dX5_personLine_72
    · have hf := it_f h hf
      refine lv_aload_n hx hb dX5_personLine_29 rfl (lv_at hl 0 rfl) ?_
      refine lv_iconst (v := 3) hx hb dX5_personLine_30 (by decide) ?_
      obtain ⟨x11, hc, hf⟩ := bd_go hf
      refine xI_V C G (c_Parser_wrong_pa hc) mX5_wrong kX5_53 (wX_at2) rfl ⟨Nat.le_of_ble_eq_true rfl, Nat.le_of_ble_eq_true rfl⟩ rfl hl.1 rfl (Nat.le_of_ble_eq_true rfl) ⟨Nat.le_refl _, Nat.le_refl _⟩ dX5_personLine_31 (fun hz11 H locs G => ?_)
      obtain rfl := Option.some.inj hf
      exact xI_ret (r := x11.1) C G (hz11 _ rfl) dX5_personLine_34
  · have hf := it_f h hf
    refine lv_aload_n hx hb dX5_personLine_9 rfl (lv_at hl 0 rfl) ?_
    refine lv_iconst (v := 1) hx hb dX5_personLine_10 (by decide) ?_
    obtain ⟨x12, hc, hf⟩ := bd_go hf
    refine xI_V C G (c_Parser_wrong_pa hc) mX5_wrong kX5_53 (wX_at2) rfl ⟨Nat.le_of_ble_eq_true rfl, Nat.le_of_ble_eq_true rfl⟩ rfl hl.1 rfl (Nat.le_of_ble_eq_true rfl) ⟨Nat.le_refl _, Nat.le_refl _⟩ dX5_personLine_11 (fun hz12 H locs G => ?_)
    obtain rfl := Option.some.inj hf
    exact xI_ret (r := x12.1) C G (hz12 _ rfl) dX5_personLine_14
set_option maxHeartbeats 4000000 in
set_option maxRecDepth 100000 in
theorem c_X_has_any {l : Launch} {E : xE} {ws : va_W} {l0 : Int32} {l1 : Int32} {R0 : Int32} (hf : f_X_has l0 l1 = some R0) : xI l E yX10_has cX10_has 2 (some .boolean) 0 0 [.int l0, .int l1] ws ws R0 := by
  refine xI_of (by decide) (Nat.le_of_ble_eq_true rfl) (fun p e s m args below meth c A C ls hl G => ?_)
  have hx := C.1
  have hb := C.2.1
  have hl : lv_has ls 2 [(0, .int l0), (1, .int l1)] := hl
  unfold f_X_has at hf
  refine lv_iload_n hx hb dX10_has_0 rfl (lv_at hl 0 rfl) ?_
  refine lv_iload_n hx hb dX10_has_1 rfl (lv_at hl 1 rfl) ?_
  refine lv_ishr hx hb dX10_has_2 ?_
  refine lv_iconst (v := 1) hx hb dX10_has_3 (by decide) ?_
  refine lv_iand hx hb dX10_has_4 ?_
  refine lv_iconst (v := 1) hx hb dX10_has_5 (by decide) ?_
  refine lv_icmp_ne (tgt := 13) hx hb dX10_has_6 (by decide) (fun h => ?_) (fun h => ?_)
  · have hf := it_f h hf
    refine lv_iconst (v := 0) hx hb dX10_has_13 (by decide) ?_
    obtain rfl := Option.some.inj hf
    exact xI_ret (r := (0 : Int32)) C G rfl dX10_has_14
  · have hf := it_t h hf
    refine lv_iconst (v := 1) hx hb dX10_has_9 (by decide) ?_
    refine lv_goto (tgt := 14) hx hb dX10_has_10 (by decide) ?_
    obtain rfl := Option.some.inj hf
    exact xI_ret (r := (1 : Int32)) C G rfl dX10_has_14
set_option maxHeartbeats 4000000 in
set_option maxRecDepth 100000 in
theorem c_Parser_forkLine_pa {l : Launch} {E : xE} {ad : Nat → Nat} {x_imageCount x_lastTrouble x_lastFault x_lastPlace pa_faultNumber pa_faultPlace rd_length rd_end rd_next rd_sort rd_start rd_value to_seats to_slack to_sawInches to_quarrelChance to_people to_forkBits to_unsure to_tried to_triedFedBits tf_pairs tf_gone bd_seats bd_slack bd_sawInches bd_quarrelChance bd_people bd_forkBits bd_unsure bd_tried bd_triedFedBits bf_pairs bf_gone nw_pairs nw_gone sc_forkBits sc_canBits sc_bestBits sc_bestSlops sl_count se_bestWorth se_fresh ch_items ch_leastCost ch_leastBits cl_count fi_count ps_next ps_count i0_pairs i0_gone i1_pairs i1_gone i2_pairs i2_gone : Int32} {pa_names : Nat → Int64} {rd_tape to_unsurePair to_unsureYears to_triedPair tf_seatOf tf_one tf_other tf_kind tf_years tf_sawn bd_unsurePair bd_unsureYears bd_triedPair bf_seatOf bf_one bf_other bf_kind bf_years bf_sawn nw_seatOf nw_one nw_other nw_kind nw_years nw_sawn sc_seatOf sc_handle sc_both sc_slopOf sl_bits se_bestRow se_row se_pairAt se_hope se_hopeAt se_slopAt se_farBits se_gain se_worth ch_both ch_cost ch_bit cl_bits fi_sets ps_act ps_whom ps_amount i0_seatOf i0_one i0_other i0_kind i0_years i0_sawn i1_seatOf i1_one i1_other i1_kind i1_years i1_sawn i2_seatOf i2_one i2_other i2_kind i2_years i2_sawn : Nat → Int32} {rd_word : Int64} {R0 : Int32 × Int32 × Int32 × Int32 × Int32 × Int32 × Int32 × Int64 × Int32} (hf : f_Parser_forkLine pa_faultNumber pa_faultPlace rd_tape rd_end rd_next rd_sort rd_start rd_value rd_word to_seats to_forkBits = some R0) : xI l E yX5_forkLine cX5_forkLine 1 (some .boolean) 2 45 [.ref (ad 2)] (wX E ad x_imageCount x_lastTrouble x_lastFault x_lastPlace pa_names pa_faultNumber pa_faultPlace rd_tape rd_length rd_end rd_next rd_sort rd_start rd_value rd_word to_unsurePair to_unsureYears to_triedPair to_seats to_slack to_sawInches to_quarrelChance to_people to_forkBits to_unsure to_tried to_triedFedBits tf_seatOf tf_one tf_other tf_kind tf_years tf_sawn tf_pairs tf_gone bd_unsurePair bd_unsureYears bd_triedPair bd_seats bd_slack bd_sawInches bd_quarrelChance bd_people bd_forkBits bd_unsure bd_tried bd_triedFedBits bf_seatOf bf_one bf_other bf_kind bf_years bf_sawn bf_pairs bf_gone nw_seatOf nw_one nw_other nw_kind nw_years nw_sawn nw_pairs nw_gone sc_seatOf sc_handle sc_both sc_slopOf sc_forkBits sc_canBits sc_bestBits sc_bestSlops sl_bits sl_count se_bestRow se_row se_pairAt se_hope se_hopeAt se_slopAt se_farBits se_gain se_worth se_bestWorth se_fresh ch_both ch_cost ch_bit ch_items ch_leastCost ch_leastBits cl_bits cl_count fi_sets fi_count ps_act ps_whom ps_amount ps_next ps_count i0_seatOf i0_one i0_other i0_kind i0_years i0_sawn i0_pairs i0_gone i1_seatOf i1_one i1_other i1_kind i1_years i1_sawn i1_pairs i1_gone i2_seatOf i2_one i2_other i2_kind i2_years i2_sawn i2_pairs i2_gone) (wX E ad x_imageCount x_lastTrouble x_lastFault x_lastPlace pa_names R0.2.1 R0.2.2.1 rd_tape rd_length rd_end R0.2.2.2.1 R0.2.2.2.2.1 R0.2.2.2.2.2.1 R0.2.2.2.2.2.2.1 R0.2.2.2.2.2.2.2.1 to_unsurePair to_unsureYears to_triedPair to_seats to_slack to_sawInches to_quarrelChance to_people R0.2.2.2.2.2.2.2.2 to_unsure to_tried to_triedFedBits tf_seatOf tf_one tf_other tf_kind tf_years tf_sawn tf_pairs tf_gone bd_unsurePair bd_unsureYears bd_triedPair bd_seats bd_slack bd_sawInches bd_quarrelChance bd_people bd_forkBits bd_unsure bd_tried bd_triedFedBits bf_seatOf bf_one bf_other bf_kind bf_years bf_sawn bf_pairs bf_gone nw_seatOf nw_one nw_other nw_kind nw_years nw_sawn nw_pairs nw_gone sc_seatOf sc_handle sc_both sc_slopOf sc_forkBits sc_canBits sc_bestBits sc_bestSlops sl_bits sl_count se_bestRow se_row se_pairAt se_hope se_hopeAt se_slopAt se_farBits se_gain se_worth se_bestWorth se_fresh ch_both ch_cost ch_bit ch_items ch_leastCost ch_leastBits cl_bits cl_count fi_sets fi_count ps_act ps_whom ps_amount ps_next ps_count i0_seatOf i0_one i0_other i0_kind i0_years i0_sawn i0_pairs i0_gone i1_seatOf i1_one i1_other i1_kind i1_years i1_sawn i1_pairs i1_gone i2_seatOf i2_one i2_other i2_kind i2_years i2_sawn i2_pairs i2_gone) R0.1 := by
  refine xI_of (by decide) (Nat.le_of_ble_eq_true rfl) (fun p e s m args below meth c A C ls hl G => ?_)
  have hx := C.1
  have hb := C.2.1
  have hl : lv_has ls 1 [(0, .ref (ad 2))] := hl
  unfold f_Parser_forkLine at hf
  refine lv_aload_n hx hb dX5_forkLine_0 rfl (lv_at hl 0 rfl) ?_
  refine lv_iconst (v := 0) hx hb dX5_forkLine_1 (by decide) ?_
  refine lv_aload_n hx hb dX5_forkLine_2 rfl (lv_at hl 0 rfl) ?_
  refine x_get C G fX5_21 (wX_at2) rfl dX5_forkLine_3 ?_
  refine x_get C G fX5_83.g (wX_at6) rfl dX5_forkLine_6 ?_
  refine lv_iconst (v := 1) hx hb dX5_forkLine_9 (by decide) ?_
  refine lv_isub hx hb dX5_forkLine_10 ?_
  obtain ⟨x1, hc, hf⟩ := bd_go hf
  refine xI_V C G (c_Parser_isWhole_pa hc) mX5_isWhole kX5_162 (wX_at2) rfl ⟨Nat.le_of_ble_eq_true rfl, Nat.le_of_ble_eq_true rfl⟩ rfl hl.1 rfl (Nat.le_of_ble_eq_true rfl) ⟨Nat.le_refl _, Nat.le_refl _⟩ dX5_forkLine_11 (fun hz1 H locs G => ?_)
  refine lv_if_ne (tgt := 19) hx hb dX5_forkLine_14 (by decide) (fun h => ?_) (fun h => ?_)
  · have hf := it_f h hf
    refine lv_aload_n hx hb dX5_forkLine_19 rfl (lv_at hl 0 rfl) ?_
    refine x_get C G fX5_21 (wX_at2) rfl dX5_forkLine_20 ?_
    refine x_get C G fX5_107.g (wX_at6) rfl dX5_forkLine_23 ?_
    refine lv_aload_n hx hb dX5_forkLine_26 rfl (lv_at hl 0 rfl) ?_
    refine x_get C G fX5_12 (wX_at2) rfl dX5_forkLine_27 ?_
    refine x_get C G fX5_166.g (wX_at4) rfl dX5_forkLine_30 ?_
    obtain ⟨x2, hc, hf⟩ := bd_go hf
    refine xI_S C G (c_X_has_any hc) mX10_has kX5_176 ⟨Nat.le_of_ble_eq_true rfl, Nat.le_of_ble_eq_true rfl⟩ rfl hl.1 rfl (Nat.le_of_ble_eq_true rfl) ⟨Nat.le_refl _, Nat.le_refl _⟩ dX5_forkLine_33 (fun hz2 H locs G => ?_)
    refine lv_if_eq (tgt := 45) hx hb dX5_forkLine_36 (by decide) (fun h => ?_) (fun h => ?_)
    · have hf := it_t h hf
      refine lv_aload_n hx hb dX5_forkLine_45 rfl (lv_at hl 0 rfl) ?_
      refine x_get C G fX5_21 (wX_at2) rfl dX5_forkLine_46 ?_
      refine lv_dup hx hb dX5_forkLine_49 rfl ?_
      refine x_get C G fX5_107.g (wX_at6) rfl dX5_forkLine_50 ?_
      refine lv_iconst (v := 1) hx hb dX5_forkLine_53 (by decide) ?_
      refine lv_aload_n hx hb dX5_forkLine_54 rfl (lv_at hl 0 rfl) ?_
      refine x_get C G fX5_12 (wX_at2) rfl dX5_forkLine_55 ?_
      refine x_get C G fX5_166.g (wX_at4) rfl dX5_forkLine_58 ?_
      refine lv_ishl hx hb dX5_forkLine_61 ?_
      refine lv_ior hx hb dX5_forkLine_62 ?_
      refine lv_topi (fun x3 ex3 => ?_)
      have hf := lt_go ex3 hf
      refine x_put (ws' := (wX E ad x_imageCount x_lastTrouble x_lastFault x_lastPlace pa_names x1.2.1 x1.2.2 rd_tape rd_length rd_end rd_next rd_sort rd_start rd_value rd_word to_unsurePair to_unsureYears to_triedPair to_seats to_slack to_sawInches to_quarrelChance to_people x3 to_unsure to_tried to_triedFedBits tf_seatOf tf_one tf_other tf_kind tf_years tf_sawn tf_pairs tf_gone bd_unsurePair bd_unsureYears bd_triedPair bd_seats bd_slack bd_sawInches bd_quarrelChance bd_people bd_forkBits bd_unsure bd_tried bd_triedFedBits bf_seatOf bf_one bf_other bf_kind bf_years bf_sawn bf_pairs bf_gone nw_seatOf nw_one nw_other nw_kind nw_years nw_sawn nw_pairs nw_gone sc_seatOf sc_handle sc_both sc_slopOf sc_forkBits sc_canBits sc_bestBits sc_bestSlops sl_bits sl_count se_bestRow se_row se_pairAt se_hope se_hopeAt se_slopAt se_farBits se_gain se_worth se_bestWorth se_fresh ch_both ch_cost ch_bit ch_items ch_leastCost ch_leastBits cl_bits cl_count fi_sets fi_count ps_act ps_whom ps_amount ps_next ps_count i0_seatOf i0_one i0_other i0_kind i0_years i0_sawn i0_pairs i0_gone i1_seatOf i1_one i1_other i1_kind i1_years i1_sawn i1_pairs i1_gone i2_seatOf i2_one i2_other i2_kind i2_years i2_sawn i2_pairs i2_gone)) C G fX5_107 (wX_at6) rfl rfl (Nat.le_of_ble_eq_true rfl) wX_set_to_forkBits dX5_forkLine_63 (fun H locs G => ?_)
      refine lv_aload_n hx hb dX5_forkLine_66 rfl (lv_at hl 0 rfl) ?_
      refine x_get C G fX5_12 (wX_at2) rfl dX5_forkLine_67 ?_
      obtain ⟨x4, hc, hf⟩ := bd_go hf
      refine xV_V C G (c_Reader_step_rd hc) mX7_step kX5_57 (wX_at4) rfl ⟨Nat.le_of_ble_eq_true rfl, Nat.le_of_ble_eq_true rfl⟩ rfl hl.1 rfl (Nat.le_of_ble_eq_true rfl) ⟨Nat.le_refl _, Nat.le_refl _⟩ dX5_forkLine_70 (fun H locs G => ?_)
      refine lv_iconst (v := 1) hx hb dX5_forkLine_73 (by decide) ?_
      obtain rfl := Option.some.inj hf
      exact xI_ret (r := (1 : Int32)) C G rfl dX5_forkLine_74
    · have hf := it_f h hf
      refine lv_aload_n hx hb dX5_forkLine_39 rfl (lv_at hl 0 rfl) ?_
      refine lv_iconst (v := 3) hx hb dX5_forkLine_40 (by decide) ?_
      obtain ⟨x5, hc, hf⟩ := bd_go hf
      refine xI_V C G (c_Parser_wrong_pa hc) mX5_wrong kX5_53 (wX_at2) rfl ⟨Nat.le_of_ble_eq_true rfl, Nat.le_of_ble_eq_true rfl⟩ rfl hl.1 rfl (Nat.le_of_ble_eq_true rfl) ⟨Nat.le_refl _, Nat.le_refl _⟩ dX5_forkLine_41 (fun hz5 H locs G => ?_)
      obtain rfl := Option.some.inj hf
      exact xI_ret (r := x5.1) C G (hz5 _ rfl) dX5_forkLine_44
  · have hf := it_t h hf
    refine lv_iconst (v := 0) hx hb dX5_forkLine_17 (by decide) ?_
    obtain rfl := Option.some.inj hf
    exact xI_ret (r := (0 : Int32)) C G rfl dX5_forkLine_18
set_option maxHeartbeats 4000000 in
set_option maxRecDepth 100000 in
theorem c_Parser_personTold_pa {l : Launch} {E : xE} {ad : Nat → Nat} {x_imageCount x_lastTrouble x_lastFault x_lastPlace pa_faultNumber pa_faultPlace rd_length rd_end rd_next rd_sort rd_start rd_value to_seats to_slack to_sawInches to_quarrelChance to_people to_forkBits to_unsure to_tried to_triedFedBits tf_pairs tf_gone bd_seats bd_slack bd_sawInches bd_quarrelChance bd_people bd_forkBits bd_unsure bd_tried bd_triedFedBits bf_pairs bf_gone nw_pairs nw_gone sc_forkBits sc_canBits sc_bestBits sc_bestSlops sl_count se_bestWorth se_fresh ch_items ch_leastCost ch_leastBits cl_count fi_count ps_next ps_count i0_pairs i0_gone i1_pairs i1_gone i2_pairs i2_gone : Int32} {pa_names : Nat → Int64} {rd_tape to_unsurePair to_unsureYears to_triedPair tf_seatOf tf_one tf_other tf_kind tf_years tf_sawn bd_unsurePair bd_unsureYears bd_triedPair bf_seatOf bf_one bf_other bf_kind bf_years bf_sawn nw_seatOf nw_one nw_other nw_kind nw_years nw_sawn sc_seatOf sc_handle sc_both sc_slopOf sl_bits se_bestRow se_row se_pairAt se_hope se_hopeAt se_slopAt se_farBits se_gain se_worth ch_both ch_cost ch_bit cl_bits fi_sets ps_act ps_whom ps_amount i0_seatOf i0_one i0_other i0_kind i0_years i0_sawn i1_seatOf i1_one i1_other i1_kind i1_years i1_sawn i2_seatOf i2_one i2_other i2_kind i2_years i2_sawn : Nat → Int32} {rd_word : Int64} {R0 : Int32 × Int32 × Int32} (hf : f_Parser_personTold pa_names pa_faultNumber pa_faultPlace rd_start rd_word to_people = some R0) : xI l E yX5_personTold cX5_personTold 2 (some .int) 1 23 [.ref (ad 2)] (wX E ad x_imageCount x_lastTrouble x_lastFault x_lastPlace pa_names pa_faultNumber pa_faultPlace rd_tape rd_length rd_end rd_next rd_sort rd_start rd_value rd_word to_unsurePair to_unsureYears to_triedPair to_seats to_slack to_sawInches to_quarrelChance to_people to_forkBits to_unsure to_tried to_triedFedBits tf_seatOf tf_one tf_other tf_kind tf_years tf_sawn tf_pairs tf_gone bd_unsurePair bd_unsureYears bd_triedPair bd_seats bd_slack bd_sawInches bd_quarrelChance bd_people bd_forkBits bd_unsure bd_tried bd_triedFedBits bf_seatOf bf_one bf_other bf_kind bf_years bf_sawn bf_pairs bf_gone nw_seatOf nw_one nw_other nw_kind nw_years nw_sawn nw_pairs nw_gone sc_seatOf sc_handle sc_both sc_slopOf sc_forkBits sc_canBits sc_bestBits sc_bestSlops sl_bits sl_count se_bestRow se_row se_pairAt se_hope se_hopeAt se_slopAt se_farBits se_gain se_worth se_bestWorth se_fresh ch_both ch_cost ch_bit ch_items ch_leastCost ch_leastBits cl_bits cl_count fi_sets fi_count ps_act ps_whom ps_amount ps_next ps_count i0_seatOf i0_one i0_other i0_kind i0_years i0_sawn i0_pairs i0_gone i1_seatOf i1_one i1_other i1_kind i1_years i1_sawn i1_pairs i1_gone i2_seatOf i2_one i2_other i2_kind i2_years i2_sawn i2_pairs i2_gone) (wX E ad x_imageCount x_lastTrouble x_lastFault x_lastPlace pa_names R0.2.1 R0.2.2 rd_tape rd_length rd_end rd_next rd_sort rd_start rd_value rd_word to_unsurePair to_unsureYears to_triedPair to_seats to_slack to_sawInches to_quarrelChance to_people to_forkBits to_unsure to_tried to_triedFedBits tf_seatOf tf_one tf_other tf_kind tf_years tf_sawn tf_pairs tf_gone bd_unsurePair bd_unsureYears bd_triedPair bd_seats bd_slack bd_sawInches bd_quarrelChance bd_people bd_forkBits bd_unsure bd_tried bd_triedFedBits bf_seatOf bf_one bf_other bf_kind bf_years bf_sawn bf_pairs bf_gone nw_seatOf nw_one nw_other nw_kind nw_years nw_sawn nw_pairs nw_gone sc_seatOf sc_handle sc_both sc_slopOf sc_forkBits sc_canBits sc_bestBits sc_bestSlops sl_bits sl_count se_bestRow se_row se_pairAt se_hope se_hopeAt se_slopAt se_farBits se_gain se_worth se_bestWorth se_fresh ch_both ch_cost ch_bit ch_items ch_leastCost ch_leastBits cl_bits cl_count fi_sets fi_count ps_act ps_whom ps_amount ps_next ps_count i0_seatOf i0_one i0_other i0_kind i0_years i0_sawn i0_pairs i0_gone i1_seatOf i1_one i1_other i1_kind i1_years i1_sawn i1_pairs i1_gone i2_seatOf i2_one i2_other i2_kind i2_years i2_sawn i2_pairs i2_gone) R0.1 := by
  refine xI_of (by decide) (Nat.le_of_ble_eq_true rfl) (fun p e s m args below meth c A C ls hl G => ?_)
  have hx := C.1
  have hb := C.2.1
  have hl : lv_has ls 2 [(0, .ref (ad 2))] := hl
  unfold f_Parser_personTold at hf
  refine lv_aload_n hx hb dX5_personTold_0 rfl (lv_at hl 0 rfl) ?_
  obtain ⟨x1, hc, hf⟩ := bd_go hf
  refine xI_V C G (c_Parser_useOfWord_pa hc) mX5_useOfWord kX5_79 (wX_at2) rfl ⟨Nat.le_of_ble_eq_true rfl, Nat.le_of_ble_eq_true rfl⟩ rfl hl.1 rfl (Nat.le_of_ble_eq_true rfl) ⟨Nat.le_refl _, Nat.le_refl _⟩ dX5_personTold_1 (fun hz H locs G => ?_)
  refine lv_bipush (v := 6) hx hb dX5_personTold_4 (by decide) ?_
  refine lv_icmp_eq (tgt := 17) hx hb dX5_personTold_6 (by decide) (fun h => ?_) (fun h => ?_)
  · have hf := it_t h hf
    refine lv_aload_n hx hb dX5_personTold_17 rfl (lv_at hl 0 rfl) ?_
    refine lv_aload_n hx hb dX5_personTold_18 rfl (lv_at hl 0 rfl) ?_
    refine x_get C G fX5_12 (wX_at2) rfl dX5_personTold_19 ?_
    refine x_get C G fX5_63.g (wX_at4) rfl dX5_personTold_22 ?_
    obtain ⟨x2, hc, hf⟩ := bd_go hf
    refine xI_V C G (c_Parser_personNamed_pa hc) mX5_personNamed kX5_152 (wX_at2) rfl ⟨Nat.le_of_ble_eq_true rfl, Nat.le_of_ble_eq_true rfl⟩ rfl hl.1 rfl (Nat.le_of_ble_eq_true rfl) ⟨Nat.le_refl _, Nat.le_refl _⟩ dX5_personTold_25 (fun hz H locs G => ?_)
    refine lv_istore_n (lv' := [(1, .int x2), (0, .ref (ad 2))]) hx hb dX5_personTold_28 rfl hl (by decide) rfl (fun ls hl => ?_)
    refine lv_iload_n hx hb dX5_personTold_29 rfl (lv_at hl 0 rfl) ?_
    refine lv_if_ge (tgt := 39) hx hb dX5_personTold_30 (by decide) (fun h => ?_) (fun h => ?_)
    · have hf := it_t h hf
      refine lv_iload_n hx hb dX5_personTold_39 rfl (lv_at hl 0 rfl) ?_
      obtain rfl := Option.some.inj hf
      exact xI_ret C G rfl dX5_personTold_40
    · have hf := it_f h hf
      refine lv_aload_n hx hb dX5_personTold_33 rfl (lv_at hl 1 rfl) ?_
      refine lv_iconst (v := 2) hx hb dX5_personTold_34 (by decide) ?_
      obtain ⟨x3, hc, hf⟩ := bd_go hf
      refine xI_V C G (c_Parser_wrong_pa hc) mX5_wrong kX5_53 (wX_at2) rfl ⟨Nat.le_of_ble_eq_true rfl, Nat.le_of_ble_eq_true rfl⟩ rfl hl.1 rfl (Nat.le_of_ble_eq_true rfl) ⟨Nat.le_refl _, Nat.le_refl _⟩ dX5_personTold_35 (fun hz3 H locs G => ?_)
      refine lv_pop hx hb dX5_personTold_38 rfl ?_
      refine lv_iload_n hx hb dX5_personTold_39 rfl (lv_at hl 0 rfl) ?_
      obtain rfl := Option.some.inj hf
      exact xI_ret C G rfl dX5_personTold_40
  · have hf := it_f h hf
    refine lv_aload_n hx hb dX5_personTold_9 rfl (lv_at hl 0 rfl) ?_
    refine lv_iconst (v := 1) hx hb dX5_personTold_10 (by decide) ?_
    obtain ⟨x4, hc, hf⟩ := bd_go hf
    refine xI_V C G (c_Parser_wrong_pa hc) mX5_wrong kX5_53 (wX_at2) rfl ⟨Nat.le_of_ble_eq_true rfl, Nat.le_of_ble_eq_true rfl⟩ rfl hl.1 rfl (Nat.le_of_ble_eq_true rfl) ⟨Nat.le_refl _, Nat.le_refl _⟩ dX5_personTold_11 (fun hz4 H locs G => ?_)
    refine lv_pop hx hb dX5_personTold_14 rfl ?_
    refine lv_iconst (v := -1) hx hb dX5_personTold_15 (by decide) ?_
    obtain rfl := Option.some.inj hf
    exact xI_ret C G rfl dX5_personTold_16
set_option maxHeartbeats 4000000 in
set_option maxRecDepth 100000 in
theorem c_Now_partner_tf {l : Launch} {E : xE} {ad : Nat → Nat} {x_imageCount x_lastTrouble x_lastFault x_lastPlace pa_faultNumber pa_faultPlace rd_length rd_end rd_next rd_sort rd_start rd_value to_seats to_slack to_sawInches to_quarrelChance to_people to_forkBits to_unsure to_tried to_triedFedBits tf_pairs tf_gone bd_seats bd_slack bd_sawInches bd_quarrelChance bd_people bd_forkBits bd_unsure bd_tried bd_triedFedBits bf_pairs bf_gone nw_pairs nw_gone sc_forkBits sc_canBits sc_bestBits sc_bestSlops sl_count se_bestWorth se_fresh ch_items ch_leastCost ch_leastBits cl_count fi_count ps_next ps_count i0_pairs i0_gone i1_pairs i1_gone i2_pairs i2_gone : Int32} {pa_names : Nat → Int64} {rd_tape to_unsurePair to_unsureYears to_triedPair tf_seatOf tf_one tf_other tf_kind tf_years tf_sawn bd_unsurePair bd_unsureYears bd_triedPair bf_seatOf bf_one bf_other bf_kind bf_years bf_sawn nw_seatOf nw_one nw_other nw_kind nw_years nw_sawn sc_seatOf sc_handle sc_both sc_slopOf sl_bits se_bestRow se_row se_pairAt se_hope se_hopeAt se_slopAt se_farBits se_gain se_worth ch_both ch_cost ch_bit cl_bits fi_sets ps_act ps_whom ps_amount i0_seatOf i0_one i0_other i0_kind i0_years i0_sawn i1_seatOf i1_one i1_other i1_kind i1_years i1_sawn i2_seatOf i2_one i2_other i2_kind i2_years i2_sawn : Nat → Int32} {rd_word : Int64} {l1 : Int32} {l2 : Int32} {R0 : Int32} (hf : f_Now_partner l1 l2 tf_one tf_other = some R0) : xI l E yX4_partner cX4_partner 3 (some .int) 0 0 [.ref (ad 10), .int l1, .int l2] (wX E ad x_imageCount x_lastTrouble x_lastFault x_lastPlace pa_names pa_faultNumber pa_faultPlace rd_tape rd_length rd_end rd_next rd_sort rd_start rd_value rd_word to_unsurePair to_unsureYears to_triedPair to_seats to_slack to_sawInches to_quarrelChance to_people to_forkBits to_unsure to_tried to_triedFedBits tf_seatOf tf_one tf_other tf_kind tf_years tf_sawn tf_pairs tf_gone bd_unsurePair bd_unsureYears bd_triedPair bd_seats bd_slack bd_sawInches bd_quarrelChance bd_people bd_forkBits bd_unsure bd_tried bd_triedFedBits bf_seatOf bf_one bf_other bf_kind bf_years bf_sawn bf_pairs bf_gone nw_seatOf nw_one nw_other nw_kind nw_years nw_sawn nw_pairs nw_gone sc_seatOf sc_handle sc_both sc_slopOf sc_forkBits sc_canBits sc_bestBits sc_bestSlops sl_bits sl_count se_bestRow se_row se_pairAt se_hope se_hopeAt se_slopAt se_farBits se_gain se_worth se_bestWorth se_fresh ch_both ch_cost ch_bit ch_items ch_leastCost ch_leastBits cl_bits cl_count fi_sets fi_count ps_act ps_whom ps_amount ps_next ps_count i0_seatOf i0_one i0_other i0_kind i0_years i0_sawn i0_pairs i0_gone i1_seatOf i1_one i1_other i1_kind i1_years i1_sawn i1_pairs i1_gone i2_seatOf i2_one i2_other i2_kind i2_years i2_sawn i2_pairs i2_gone) (wX E ad x_imageCount x_lastTrouble x_lastFault x_lastPlace pa_names pa_faultNumber pa_faultPlace rd_tape rd_length rd_end rd_next rd_sort rd_start rd_value rd_word to_unsurePair to_unsureYears to_triedPair to_seats to_slack to_sawInches to_quarrelChance to_people to_forkBits to_unsure to_tried to_triedFedBits tf_seatOf tf_one tf_other tf_kind tf_years tf_sawn tf_pairs tf_gone bd_unsurePair bd_unsureYears bd_triedPair bd_seats bd_slack bd_sawInches bd_quarrelChance bd_people bd_forkBits bd_unsure bd_tried bd_triedFedBits bf_seatOf bf_one bf_other bf_kind bf_years bf_sawn bf_pairs bf_gone nw_seatOf nw_one nw_other nw_kind nw_years nw_sawn nw_pairs nw_gone sc_seatOf sc_handle sc_both sc_slopOf sc_forkBits sc_canBits sc_bestBits sc_bestSlops sl_bits sl_count se_bestRow se_row se_pairAt se_hope se_hopeAt se_slopAt se_farBits se_gain se_worth se_bestWorth se_fresh ch_both ch_cost ch_bit ch_items ch_leastCost ch_leastBits cl_bits cl_count fi_sets fi_count ps_act ps_whom ps_amount ps_next ps_count i0_seatOf i0_one i0_other i0_kind i0_years i0_sawn i0_pairs i0_gone i1_seatOf i1_one i1_other i1_kind i1_years i1_sawn i1_pairs i1_gone i2_seatOf i2_one i2_other i2_kind i2_years i2_sawn i2_pairs i2_gone) R0 := by
  refine xI_of (by decide) (Nat.le_of_ble_eq_true rfl) (fun p e s m args below meth c A C ls hl G => ?_)
  have hx := C.1
  have hb := C.2.1
  have hl : lv_has ls 3 [(0, .ref (ad 10)), (1, .int l1), (2, .int l2)] := hl
  unfold f_Now_partner at hf
  refine lv_aload_n hx hb dX4_partner_0 rfl (lv_at hl 0 rfl) ?_
  refine x_get C G fX4_15 (wX_at10) rfl dX4_partner_1 ?_
  refine lv_iload_n hx hb dX4_partner_4 rfl (lv_at hl 1 rfl) ?_
  have hi := ck_in hf
  have hf := ck_go hf
  refine x_iald C G (wX_at12) hi dX4_partner_5 ?_
  refine lv_iload_n hx hb dX4_partner_6 rfl (lv_at hl 2 rfl) ?_
  refine lv_icmp_ne (tgt := 17) hx hb dX4_partner_7 (by decide) (fun h => ?_) (fun h => ?_)
  · have hf := it_f h hf
    refine lv_aload_n hx hb dX4_partner_17 rfl (lv_at hl 0 rfl) ?_
    refine x_get C G fX4_18 (wX_at10) rfl dX4_partner_18 ?_
    refine lv_iload_n hx hb dX4_partner_21 rfl (lv_at hl 1 rfl) ?_
    have hi := ck_in hf
    have hf := ck_go hf
    refine x_iald C G (wX_at13) hi dX4_partner_22 ?_
    refine lv_iload_n hx hb dX4_partner_23 rfl (lv_at hl 2 rfl) ?_
    refine lv_icmp_ne (tgt := 36) hx hb dX4_partner_24 (by decide) (fun h => ?_) (fun h => ?_)
    · have hf := it_f h hf
      refine lv_bipush (v := -2) hx hb dX4_partner_36 (by decide) ?_
      obtain rfl := Option.some.inj hf
      exact xI_ret C G rfl dX4_partner_38
    · have hf := it_t h hf
      refine lv_aload_n hx hb dX4_partner_27 rfl (lv_at hl 0 rfl) ?_
      refine x_get C G fX4_15 (wX_at10) rfl dX4_partner_28 ?_
      refine lv_iload_n hx hb dX4_partner_31 rfl (lv_at hl 1 rfl) ?_
      have hi := ck_in hf
      have hf := ck_go hf
      refine x_iald C G (wX_at12) hi dX4_partner_32 ?_
      refine lv_goto (tgt := 38) hx hb dX4_partner_33 (by decide) ?_
      obtain rfl := Option.some.inj hf
      exact xI_ret C G rfl dX4_partner_38
  · have hf := it_t h hf
    refine lv_aload_n hx hb dX4_partner_10 rfl (lv_at hl 0 rfl) ?_
    refine x_get C G fX4_18 (wX_at10) rfl dX4_partner_11 ?_
    refine lv_iload_n hx hb dX4_partner_14 rfl (lv_at hl 1 rfl) ?_
    have hi := ck_in hf
    have hf := ck_go hf
    refine x_iald C G (wX_at13) hi dX4_partner_15 ?_
    obtain rfl := Option.some.inj hf
    exact xI_ret C G rfl dX4_partner_16
set_option maxHeartbeats 4000000 in
set_option maxRecDepth 100000 in
theorem w_Now_find_tf_L2 {p : Program} {l : Launch} {e : Env} {s : State} {m : MethodId} {args : Array Value} {below : List Frame} {meth : Method} {c : Code} {A : Nat → Prop} {E : xE} {ad : Nat → Nat} {x_imageCount x_lastTrouble x_lastFault x_lastPlace pa_faultNumber pa_faultPlace rd_length rd_end rd_next rd_sort rd_start rd_value to_seats to_slack to_sawInches to_quarrelChance to_people to_forkBits to_unsure to_tried to_triedFedBits tf_pairs tf_gone bd_seats bd_slack bd_sawInches bd_quarrelChance bd_people bd_forkBits bd_unsure bd_tried bd_triedFedBits bf_pairs bf_gone nw_pairs nw_gone sc_forkBits sc_canBits sc_bestBits sc_bestSlops sl_count se_bestWorth se_fresh ch_items ch_leastCost ch_leastBits cl_count fi_count ps_next ps_count i0_pairs i0_gone i1_pairs i1_gone i2_pairs i2_gone : Int32} {pa_names : Nat → Int64} {rd_tape to_unsurePair to_unsureYears to_triedPair tf_seatOf tf_one tf_other tf_kind tf_years tf_sawn bd_unsurePair bd_unsureYears bd_triedPair bf_seatOf bf_one bf_other bf_kind bf_years bf_sawn nw_seatOf nw_one nw_other nw_kind nw_years nw_sawn sc_seatOf sc_handle sc_both sc_slopOf sl_bits se_bestRow se_row se_pairAt se_hope se_hopeAt se_slopAt se_farBits se_gain se_worth ch_both ch_cost ch_bit cl_bits fi_sets ps_act ps_whom ps_amount i0_seatOf i0_one i0_other i0_kind i0_years i0_sawn i1_seatOf i1_one i1_other i1_kind i1_years i1_sawn i2_seatOf i2_one i2_other i2_kind i2_years i2_sawn : Nat → Int32} {rd_word : Int64} {l1 : Int32} {l2 : Int32} {o : (Int32) ⊕ (Unit)} {R0 : Int32} (C : xC p s m args meth c cX4_find 4 RX4 E A (some .int)) (Jr : ∀ r, o = .inl r → r = R0) (J : ∀ t, o = .inr t → ∀ (H : Heap) (locs : List Loc) (ls : Array Slot), xG s E A (wX E ad x_imageCount x_lastTrouble x_lastFault x_lastPlace pa_names pa_faultNumber pa_faultPlace rd_tape rd_length rd_end rd_next rd_sort rd_start rd_value rd_word to_unsurePair to_unsureYears to_triedPair to_seats to_slack to_sawInches to_quarrelChance to_people to_forkBits to_unsure to_tried to_triedFedBits tf_seatOf tf_one tf_other tf_kind tf_years tf_sawn tf_pairs tf_gone bd_unsurePair bd_unsureYears bd_triedPair bd_seats bd_slack bd_sawInches bd_quarrelChance bd_people bd_forkBits bd_unsure bd_tried bd_triedFedBits bf_seatOf bf_one bf_other bf_kind bf_years bf_sawn bf_pairs bf_gone nw_seatOf nw_one nw_other nw_kind nw_years nw_sawn nw_pairs nw_gone sc_seatOf sc_handle sc_both sc_slopOf sc_forkBits sc_canBits sc_bestBits sc_bestSlops sl_bits sl_count se_bestRow se_row se_pairAt se_hope se_hopeAt se_slopAt se_farBits se_gain se_worth se_bestWorth se_fresh ch_both ch_cost ch_bit ch_items ch_leastCost ch_leastBits cl_bits cl_count fi_sets fi_count ps_act ps_whom ps_amount ps_next ps_count i0_seatOf i0_one i0_other i0_kind i0_years i0_sawn i0_pairs i0_gone i1_seatOf i1_one i1_other i1_kind i1_years i1_sawn i1_pairs i1_gone i2_seatOf i2_one i2_other i2_kind i2_years i2_sawn i2_pairs i2_gone) H locs → lv_has ls 4 [] → W p l e (xR 1 22) s m args below meth c H locs 0 0 (MQ below (xqI E A (wX E ad x_imageCount x_lastTrouble x_lastFault x_lastPlace pa_names pa_faultNumber pa_faultPlace rd_tape rd_length rd_end rd_next rd_sort rd_start rd_value rd_word to_unsurePair to_unsureYears to_triedPair to_seats to_slack to_sawInches to_quarrelChance to_people to_forkBits to_unsure to_tried to_triedFedBits tf_seatOf tf_one tf_other tf_kind tf_years tf_sawn tf_pairs tf_gone bd_unsurePair bd_unsureYears bd_triedPair bd_seats bd_slack bd_sawInches bd_quarrelChance bd_people bd_forkBits bd_unsure bd_tried bd_triedFedBits bf_seatOf bf_one bf_other bf_kind bf_years bf_sawn bf_pairs bf_gone nw_seatOf nw_one nw_other nw_kind nw_years nw_sawn nw_pairs nw_gone sc_seatOf sc_handle sc_both sc_slopOf sc_forkBits sc_canBits sc_bestBits sc_bestSlops sl_bits sl_count se_bestRow se_row se_pairAt se_hope se_hopeAt se_slopAt se_farBits se_gain se_worth se_bestWorth se_fresh ch_both ch_cost ch_bit ch_items ch_leastCost ch_leastBits cl_bits cl_count fi_sets fi_count ps_act ps_whom ps_amount ps_next ps_count i0_seatOf i0_one i0_other i0_kind i0_years i0_sawn i0_pairs i0_gone i1_seatOf i1_one i1_other i1_kind i1_years i1_sawn i1_pairs i1_gone i2_seatOf i2_one i2_other i2_kind i2_years i2_sawn i2_pairs i2_gone) (some .int) R0) args s 0 0 A) (F0 m 33 ls [])) :
    ∀ (n : Nat) (l3 : Int32) (H : Heap) (locs : List Loc) (ls : Array Slot), xG s E A (wX E ad x_imageCount x_lastTrouble x_lastFault x_lastPlace pa_names pa_faultNumber pa_faultPlace rd_tape rd_length rd_end rd_next rd_sort rd_start rd_value rd_word to_unsurePair to_unsureYears to_triedPair to_seats to_slack to_sawInches to_quarrelChance to_people to_forkBits to_unsure to_tried to_triedFedBits tf_seatOf tf_one tf_other tf_kind tf_years tf_sawn tf_pairs tf_gone bd_unsurePair bd_unsureYears bd_triedPair bd_seats bd_slack bd_sawInches bd_quarrelChance bd_people bd_forkBits bd_unsure bd_tried bd_triedFedBits bf_seatOf bf_one bf_other bf_kind bf_years bf_sawn bf_pairs bf_gone nw_seatOf nw_one nw_other nw_kind nw_years nw_sawn nw_pairs nw_gone sc_seatOf sc_handle sc_both sc_slopOf sc_forkBits sc_canBits sc_bestBits sc_bestSlops sl_bits sl_count se_bestRow se_row se_pairAt se_hope se_hopeAt se_slopAt se_farBits se_gain se_worth se_bestWorth se_fresh ch_both ch_cost ch_bit ch_items ch_leastCost ch_leastBits cl_bits cl_count fi_sets fi_count ps_act ps_whom ps_amount ps_next ps_count i0_seatOf i0_one i0_other i0_kind i0_years i0_sawn i0_pairs i0_gone i1_seatOf i1_one i1_other i1_kind i1_years i1_sawn i1_pairs i1_gone i2_seatOf i2_one i2_other i2_kind i2_years i2_sawn i2_pairs i2_gone) H locs → lv_has ls 4 [(0, .ref (ad 10)), (1, .int l1), (2, .int l2), (3, .int l3)] → f_Now_find_L2 l1 l2 tf_one tf_other tf_pairs n l3 = some o → W p l e (xR 1 22) s m args below meth c H locs 0 0 (MQ below (xqI E A (wX E ad x_imageCount x_lastTrouble x_lastFault x_lastPlace pa_names pa_faultNumber pa_faultPlace rd_tape rd_length rd_end rd_next rd_sort rd_start rd_value rd_word to_unsurePair to_unsureYears to_triedPair to_seats to_slack to_sawInches to_quarrelChance to_people to_forkBits to_unsure to_tried to_triedFedBits tf_seatOf tf_one tf_other tf_kind tf_years tf_sawn tf_pairs tf_gone bd_unsurePair bd_unsureYears bd_triedPair bd_seats bd_slack bd_sawInches bd_quarrelChance bd_people bd_forkBits bd_unsure bd_tried bd_triedFedBits bf_seatOf bf_one bf_other bf_kind bf_years bf_sawn bf_pairs bf_gone nw_seatOf nw_one nw_other nw_kind nw_years nw_sawn nw_pairs nw_gone sc_seatOf sc_handle sc_both sc_slopOf sc_forkBits sc_canBits sc_bestBits sc_bestSlops sl_bits sl_count se_bestRow se_row se_pairAt se_hope se_hopeAt se_slopAt se_farBits se_gain se_worth se_bestWorth se_fresh ch_both ch_cost ch_bit ch_items ch_leastCost ch_leastBits cl_bits cl_count fi_sets fi_count ps_act ps_whom ps_amount ps_next ps_count i0_seatOf i0_one i0_other i0_kind i0_years i0_sawn i0_pairs i0_gone i1_seatOf i1_one i1_other i1_kind i1_years i1_sawn i1_pairs i1_gone i2_seatOf i2_one i2_other i2_kind i2_years i2_sawn i2_pairs i2_gone) (some .int) R0) args s 0 0 A) (F0 m 2 ls []) := by
  have hx := C.1
  have hb := C.2.1
  intro n
  induction n with
  | zero =>
    intro l3 H locs ls G hl hf
    exact nomatch (show (none : Option ((Int32) ⊕ (Unit))) = some o from hf)
  | succ n ih =>
    intro l3 H locs ls G hl hf
    rw [f_Now_find_L2] at hf
    refine lv_iload_n hx hb dX4_find_2 rfl (lv_at hl 3 rfl) ?_
    refine lv_aload_n hx hb dX4_find_3 rfl (lv_at hl 0 rfl) ?_
    refine x_get C G fX4_36.g (wX_at10) rfl dX4_find_4 ?_
    refine lv_icmp_ge (tgt := 33) hx hb dX4_find_7 (by decide) (fun h => ?_) (fun h => ?_)
    · have hf := it_t h hf
      exact J _ (Option.some.inj hf).symm _ _ _ G (lv_sub hl [] rfl)
    · have hf := it_f h hf
      refine lv_iload_n hx hb dX4_find_10 rfl (lv_at hl 1 rfl) ?_
      refine lv_iload_n hx hb dX4_find_11 rfl (lv_at hl 2 rfl) ?_
      obtain ⟨b1, hr, hf⟩ := bd_go hf
      cases b1 with
      | true =>
        have hf := it_t rfl hf
        have J : ∀ (H : Heap) (locs : List Loc), xG s E A (wX E ad x_imageCount x_lastTrouble x_lastFault x_lastPlace pa_names pa_faultNumber pa_faultPlace rd_tape rd_length rd_end rd_next rd_sort rd_start rd_value rd_word to_unsurePair to_unsureYears to_triedPair to_seats to_slack to_sawInches to_quarrelChance to_people to_forkBits to_unsure to_tried to_triedFedBits tf_seatOf tf_one tf_other tf_kind tf_years tf_sawn tf_pairs tf_gone bd_unsurePair bd_unsureYears bd_triedPair bd_seats bd_slack bd_sawInches bd_quarrelChance bd_people bd_forkBits bd_unsure bd_tried bd_triedFedBits bf_seatOf bf_one bf_other bf_kind bf_years bf_sawn bf_pairs bf_gone nw_seatOf nw_one nw_other nw_kind nw_years nw_sawn nw_pairs nw_gone sc_seatOf sc_handle sc_both sc_slopOf sc_forkBits sc_canBits sc_bestBits sc_bestSlops sl_bits sl_count se_bestRow se_row se_pairAt se_hope se_hopeAt se_slopAt se_farBits se_gain se_worth se_bestWorth se_fresh ch_both ch_cost ch_bit ch_items ch_leastCost ch_leastBits cl_bits cl_count fi_sets fi_count ps_act ps_whom ps_amount ps_next ps_count i0_seatOf i0_one i0_other i0_kind i0_years i0_sawn i0_pairs i0_gone i1_seatOf i1_one i1_other i1_kind i1_years i1_sawn i1_pairs i1_gone i2_seatOf i2_one i2_other i2_kind i2_years i2_sawn i2_pairs i2_gone) H locs → W p l e (xR 1 22) s m args below meth c H locs 0 0 (MQ below (xqI E A (wX E ad x_imageCount x_lastTrouble x_lastFault x_lastPlace pa_names pa_faultNumber pa_faultPlace rd_tape rd_length rd_end rd_next rd_sort rd_start rd_value rd_word to_unsurePair to_unsureYears to_triedPair to_seats to_slack to_sawInches to_quarrelChance to_people to_forkBits to_unsure to_tried to_triedFedBits tf_seatOf tf_one tf_other tf_kind tf_years tf_sawn tf_pairs tf_gone bd_unsurePair bd_unsureYears bd_triedPair bd_seats bd_slack bd_sawInches bd_quarrelChance bd_people bd_forkBits bd_unsure bd_tried bd_triedFedBits bf_seatOf bf_one bf_other bf_kind bf_years bf_sawn bf_pairs bf_gone nw_seatOf nw_one nw_other nw_kind nw_years nw_sawn nw_pairs nw_gone sc_seatOf sc_handle sc_both sc_slopOf sc_forkBits sc_canBits sc_bestBits sc_bestSlops sl_bits sl_count se_bestRow se_row se_pairAt se_hope se_hopeAt se_slopAt se_farBits se_gain se_worth se_bestWorth se_fresh ch_both ch_cost ch_bit ch_items ch_leastCost ch_leastBits cl_bits cl_count fi_sets fi_count ps_act ps_whom ps_amount ps_next ps_count i0_seatOf i0_one i0_other i0_kind i0_years i0_sawn i0_pairs i0_gone i1_seatOf i1_one i1_other i1_kind i1_years i1_sawn i1_pairs i1_gone i2_seatOf i2_one i2_other i2_kind i2_years i2_sawn i2_pairs i2_gone) (some .int) R0) args s 0 0 A) (F0 m 27 ls []) := by
          intro H locs G
          obtain ⟨x2, ex2⟩ : ∃ z : Int32, z = l3 + (1 : Int32) := ⟨_, rfl⟩
          have hf := lt_go ex2 hf
          refine lv_iinc (v := x2) (lv' := [(3, .int x2), (0, .ref (ad 10)), (1, .int l1), (2, .int l2)]) hx hb dX4_find_27 hl (k := 3) rfl (by rw [ex2]; rfl) (by decide) rfl (fun ls hl => ?_)
          refine lv_goto (tgt := 2) hx hb dX4_find_30 (by decide) ?_
          exact ih x2 _ _ _ G (lv_sub hl [1, 2, 3, 0] rfl) hf
        have hf := hr
        clear hr
        refine lv_icmp_eq (tgt := 27) hx hb dX4_find_12 (by decide) (fun h => ?_) (fun h => ?_)
        · have hf := it_t h hf
          exact J _ _ G
        · have hf := it_f h hf
          refine lv_aload_n hx hb dX4_find_15 rfl (lv_at hl 0 rfl) ?_
          refine lv_iload_n hx hb dX4_find_16 rfl (lv_at hl 3 rfl) ?_
          refine lv_iload_n hx hb dX4_find_17 rfl (lv_at hl 1 rfl) ?_
          obtain ⟨x3, hc, hf⟩ := bd_go hf
          refine xI_V C G (c_Now_partner_tf hc) mX4_partner kX4_43 (wX_at10) rfl ⟨Nat.le_of_ble_eq_true rfl, Nat.le_of_ble_eq_true rfl⟩ rfl hl.1 rfl (Nat.le_of_ble_eq_true rfl) ⟨Nat.le_refl _, Nat.le_refl _⟩ dX4_find_18 (fun hz H locs G => ?_)
          refine lv_iload_n hx hb dX4_find_21 rfl (lv_at hl 2 rfl) ?_
          refine lv_icmp_ne (tgt := 27) hx hb dX4_find_22 (by decide) (fun h => ?_) (fun h => ?_)
          · have hf := it_f h hf
            exact J _ _ G
          · have hf := it_t h hf
            exact absurd (Option.some.inj hf) (by decide)
      | false =>
        have hf := it_f (by decide) hf
        have J : ∀ (H : Heap) (locs : List Loc), xG s E A (wX E ad x_imageCount x_lastTrouble x_lastFault x_lastPlace pa_names pa_faultNumber pa_faultPlace rd_tape rd_length rd_end rd_next rd_sort rd_start rd_value rd_word to_unsurePair to_unsureYears to_triedPair to_seats to_slack to_sawInches to_quarrelChance to_people to_forkBits to_unsure to_tried to_triedFedBits tf_seatOf tf_one tf_other tf_kind tf_years tf_sawn tf_pairs tf_gone bd_unsurePair bd_unsureYears bd_triedPair bd_seats bd_slack bd_sawInches bd_quarrelChance bd_people bd_forkBits bd_unsure bd_tried bd_triedFedBits bf_seatOf bf_one bf_other bf_kind bf_years bf_sawn bf_pairs bf_gone nw_seatOf nw_one nw_other nw_kind nw_years nw_sawn nw_pairs nw_gone sc_seatOf sc_handle sc_both sc_slopOf sc_forkBits sc_canBits sc_bestBits sc_bestSlops sl_bits sl_count se_bestRow se_row se_pairAt se_hope se_hopeAt se_slopAt se_farBits se_gain se_worth se_bestWorth se_fresh ch_both ch_cost ch_bit ch_items ch_leastCost ch_leastBits cl_bits cl_count fi_sets fi_count ps_act ps_whom ps_amount ps_next ps_count i0_seatOf i0_one i0_other i0_kind i0_years i0_sawn i0_pairs i0_gone i1_seatOf i1_one i1_other i1_kind i1_years i1_sawn i1_pairs i1_gone i2_seatOf i2_one i2_other i2_kind i2_years i2_sawn i2_pairs i2_gone) H locs → W p l e (xR 1 22) s m args below meth c H locs 0 0 (MQ below (xqI E A (wX E ad x_imageCount x_lastTrouble x_lastFault x_lastPlace pa_names pa_faultNumber pa_faultPlace rd_tape rd_length rd_end rd_next rd_sort rd_start rd_value rd_word to_unsurePair to_unsureYears to_triedPair to_seats to_slack to_sawInches to_quarrelChance to_people to_forkBits to_unsure to_tried to_triedFedBits tf_seatOf tf_one tf_other tf_kind tf_years tf_sawn tf_pairs tf_gone bd_unsurePair bd_unsureYears bd_triedPair bd_seats bd_slack bd_sawInches bd_quarrelChance bd_people bd_forkBits bd_unsure bd_tried bd_triedFedBits bf_seatOf bf_one bf_other bf_kind bf_years bf_sawn bf_pairs bf_gone nw_seatOf nw_one nw_other nw_kind nw_years nw_sawn nw_pairs nw_gone sc_seatOf sc_handle sc_both sc_slopOf sc_forkBits sc_canBits sc_bestBits sc_bestSlops sl_bits sl_count se_bestRow se_row se_pairAt se_hope se_hopeAt se_slopAt se_farBits se_gain se_worth se_bestWorth se_fresh ch_both ch_cost ch_bit ch_items ch_leastCost ch_leastBits cl_bits cl_count fi_sets fi_count ps_act ps_whom ps_amount ps_next ps_count i0_seatOf i0_one i0_other i0_kind i0_years i0_sawn i0_pairs i0_gone i1_seatOf i1_one i1_other i1_kind i1_years i1_sawn i1_pairs i1_gone i2_seatOf i2_one i2_other i2_kind i2_years i2_sawn i2_pairs i2_gone) (some .int) R0) args s 0 0 A) (F0 m 25 ls []) := by
          intro H locs G
          refine lv_iload_n hx hb dX4_find_25 rfl (lv_at hl 3 rfl) ?_
          obtain rfl := Jr _ (Option.some.inj hf).symm
          exact xI_ret C G rfl dX4_find_26
        have hf := hr
        clear hr
        refine lv_icmp_eq (tgt := 27) hx hb dX4_find_12 (by decide) (fun h => ?_) (fun h => ?_)
        · have hf := it_t h hf
          exact absurd (Option.some.inj hf) (by decide)
        · have hf := it_f h hf
          refine lv_aload_n hx hb dX4_find_15 rfl (lv_at hl 0 rfl) ?_
          refine lv_iload_n hx hb dX4_find_16 rfl (lv_at hl 3 rfl) ?_
          refine lv_iload_n hx hb dX4_find_17 rfl (lv_at hl 1 rfl) ?_
          obtain ⟨x4, hc, hf⟩ := bd_go hf
          refine xI_V C G (c_Now_partner_tf hc) mX4_partner kX4_43 (wX_at10) rfl ⟨Nat.le_of_ble_eq_true rfl, Nat.le_of_ble_eq_true rfl⟩ rfl hl.1 rfl (Nat.le_of_ble_eq_true rfl) ⟨Nat.le_refl _, Nat.le_refl _⟩ dX4_find_18 (fun hz H locs G => ?_)
          refine lv_iload_n hx hb dX4_find_21 rfl (lv_at hl 2 rfl) ?_
          refine lv_icmp_ne (tgt := 27) hx hb dX4_find_22 (by decide) (fun h => ?_) (fun h => ?_)
          · have hf := it_f h hf
            exact absurd (Option.some.inj hf) (by decide)
          · have hf := it_t h hf
            exact J _ _ G
set_option maxHeartbeats 4000000 in
set_option maxRecDepth 100000 in
theorem c_Now_find_tf {l : Launch} {E : xE} {ad : Nat → Nat} {x_imageCount x_lastTrouble x_lastFault x_lastPlace pa_faultNumber pa_faultPlace rd_length rd_end rd_next rd_sort rd_start rd_value to_seats to_slack to_sawInches to_quarrelChance to_people to_forkBits to_unsure to_tried to_triedFedBits tf_pairs tf_gone bd_seats bd_slack bd_sawInches bd_quarrelChance bd_people bd_forkBits bd_unsure bd_tried bd_triedFedBits bf_pairs bf_gone nw_pairs nw_gone sc_forkBits sc_canBits sc_bestBits sc_bestSlops sl_count se_bestWorth se_fresh ch_items ch_leastCost ch_leastBits cl_count fi_count ps_next ps_count i0_pairs i0_gone i1_pairs i1_gone i2_pairs i2_gone : Int32} {pa_names : Nat → Int64} {rd_tape to_unsurePair to_unsureYears to_triedPair tf_seatOf tf_one tf_other tf_kind tf_years tf_sawn bd_unsurePair bd_unsureYears bd_triedPair bf_seatOf bf_one bf_other bf_kind bf_years bf_sawn nw_seatOf nw_one nw_other nw_kind nw_years nw_sawn sc_seatOf sc_handle sc_both sc_slopOf sl_bits se_bestRow se_row se_pairAt se_hope se_hopeAt se_slopAt se_farBits se_gain se_worth ch_both ch_cost ch_bit cl_bits fi_sets ps_act ps_whom ps_amount i0_seatOf i0_one i0_other i0_kind i0_years i0_sawn i1_seatOf i1_one i1_other i1_kind i1_years i1_sawn i2_seatOf i2_one i2_other i2_kind i2_years i2_sawn : Nat → Int32} {rd_word : Int64} {l1 : Int32} {l2 : Int32} {R0 : Int32} (hf : f_Now_find l1 l2 tf_one tf_other tf_pairs = some R0) : xI l E yX4_find cX4_find 4 (some .int) 1 22 [.ref (ad 10), .int l1, .int l2] (wX E ad x_imageCount x_lastTrouble x_lastFault x_lastPlace pa_names pa_faultNumber pa_faultPlace rd_tape rd_length rd_end rd_next rd_sort rd_start rd_value rd_word to_unsurePair to_unsureYears to_triedPair to_seats to_slack to_sawInches to_quarrelChance to_people to_forkBits to_unsure to_tried to_triedFedBits tf_seatOf tf_one tf_other tf_kind tf_years tf_sawn tf_pairs tf_gone bd_unsurePair bd_unsureYears bd_triedPair bd_seats bd_slack bd_sawInches bd_quarrelChance bd_people bd_forkBits bd_unsure bd_tried bd_triedFedBits bf_seatOf bf_one bf_other bf_kind bf_years bf_sawn bf_pairs bf_gone nw_seatOf nw_one nw_other nw_kind nw_years nw_sawn nw_pairs nw_gone sc_seatOf sc_handle sc_both sc_slopOf sc_forkBits sc_canBits sc_bestBits sc_bestSlops sl_bits sl_count se_bestRow se_row se_pairAt se_hope se_hopeAt se_slopAt se_farBits se_gain se_worth se_bestWorth se_fresh ch_both ch_cost ch_bit ch_items ch_leastCost ch_leastBits cl_bits cl_count fi_sets fi_count ps_act ps_whom ps_amount ps_next ps_count i0_seatOf i0_one i0_other i0_kind i0_years i0_sawn i0_pairs i0_gone i1_seatOf i1_one i1_other i1_kind i1_years i1_sawn i1_pairs i1_gone i2_seatOf i2_one i2_other i2_kind i2_years i2_sawn i2_pairs i2_gone) (wX E ad x_imageCount x_lastTrouble x_lastFault x_lastPlace pa_names pa_faultNumber pa_faultPlace rd_tape rd_length rd_end rd_next rd_sort rd_start rd_value rd_word to_unsurePair to_unsureYears to_triedPair to_seats to_slack to_sawInches to_quarrelChance to_people to_forkBits to_unsure to_tried to_triedFedBits tf_seatOf tf_one tf_other tf_kind tf_years tf_sawn tf_pairs tf_gone bd_unsurePair bd_unsureYears bd_triedPair bd_seats bd_slack bd_sawInches bd_quarrelChance bd_people bd_forkBits bd_unsure bd_tried bd_triedFedBits bf_seatOf bf_one bf_other bf_kind bf_years bf_sawn bf_pairs bf_gone nw_seatOf nw_one nw_other nw_kind nw_years nw_sawn nw_pairs nw_gone sc_seatOf sc_handle sc_both sc_slopOf sc_forkBits sc_canBits sc_bestBits sc_bestSlops sl_bits sl_count se_bestRow se_row se_pairAt se_hope se_hopeAt se_slopAt se_farBits se_gain se_worth se_bestWorth se_fresh ch_both ch_cost ch_bit ch_items ch_leastCost ch_leastBits cl_bits cl_count fi_sets fi_count ps_act ps_whom ps_amount ps_next ps_count i0_seatOf i0_one i0_other i0_kind i0_years i0_sawn i0_pairs i0_gone i1_seatOf i1_one i1_other i1_kind i1_years i1_sawn i1_pairs i1_gone i2_seatOf i2_one i2_other i2_kind i2_years i2_sawn i2_pairs i2_gone) R0 := by
  refine xI_of (by decide) (Nat.le_of_ble_eq_true rfl) (fun p e s m args below meth c A C ls hl G => ?_)
  have hx := C.1
  have hb := C.2.1
  have hl : lv_has ls 4 [(0, .ref (ad 10)), (1, .int l1), (2, .int l2)] := hl
  unfold f_Now_find at hf
  refine lv_iconst (v := 0) hx hb dX4_find_0 (by decide) ?_
  refine lv_istore_n (lv' := [(3, .int (0 : Int32)), (0, .ref (ad 10)), (1, .int l1), (2, .int l2)]) hx hb dX4_find_1 rfl hl (by decide) rfl (fun ls hl => ?_)
  obtain ⟨ox5, hr, hf⟩ := bd_go hf
  have Jx5 : ∀ x5, ox5 = .inr x5 → ∀ (H : Heap) (locs : List Loc) (ls : Array Slot), xG s E A (wX E ad x_imageCount x_lastTrouble x_lastFault x_lastPlace pa_names pa_faultNumber pa_faultPlace rd_tape rd_length rd_end rd_next rd_sort rd_start rd_value rd_word to_unsurePair to_unsureYears to_triedPair to_seats to_slack to_sawInches to_quarrelChance to_people to_forkBits to_unsure to_tried to_triedFedBits tf_seatOf tf_one tf_other tf_kind tf_years tf_sawn tf_pairs tf_gone bd_unsurePair bd_unsureYears bd_triedPair bd_seats bd_slack bd_sawInches bd_quarrelChance bd_people bd_forkBits bd_unsure bd_tried bd_triedFedBits bf_seatOf bf_one bf_other bf_kind bf_years bf_sawn bf_pairs bf_gone nw_seatOf nw_one nw_other nw_kind nw_years nw_sawn nw_pairs nw_gone sc_seatOf sc_handle sc_both sc_slopOf sc_forkBits sc_canBits sc_bestBits sc_bestSlops sl_bits sl_count se_bestRow se_row se_pairAt se_hope se_hopeAt se_slopAt se_farBits se_gain se_worth se_bestWorth se_fresh ch_both ch_cost ch_bit ch_items ch_leastCost ch_leastBits cl_bits cl_count fi_sets fi_count ps_act ps_whom ps_amount ps_next ps_count i0_seatOf i0_one i0_other i0_kind i0_years i0_sawn i0_pairs i0_gone i1_seatOf i1_one i1_other i1_kind i1_years i1_sawn i1_pairs i1_gone i2_seatOf i2_one i2_other i2_kind i2_years i2_sawn i2_pairs i2_gone) H locs → lv_has ls 4 [] → W p l e (xR 1 22) s m args below meth c H locs 0 0 (MQ below (xqI E A (wX E ad x_imageCount x_lastTrouble x_lastFault x_lastPlace pa_names pa_faultNumber pa_faultPlace rd_tape rd_length rd_end rd_next rd_sort rd_start rd_value rd_word to_unsurePair to_unsureYears to_triedPair to_seats to_slack to_sawInches to_quarrelChance to_people to_forkBits to_unsure to_tried to_triedFedBits tf_seatOf tf_one tf_other tf_kind tf_years tf_sawn tf_pairs tf_gone bd_unsurePair bd_unsureYears bd_triedPair bd_seats bd_slack bd_sawInches bd_quarrelChance bd_people bd_forkBits bd_unsure bd_tried bd_triedFedBits bf_seatOf bf_one bf_other bf_kind bf_years bf_sawn bf_pairs bf_gone nw_seatOf nw_one nw_other nw_kind nw_years nw_sawn nw_pairs nw_gone sc_seatOf sc_handle sc_both sc_slopOf sc_forkBits sc_canBits sc_bestBits sc_bestSlops sl_bits sl_count se_bestRow se_row se_pairAt se_hope se_hopeAt se_slopAt se_farBits se_gain se_worth se_bestWorth se_fresh ch_both ch_cost ch_bit ch_items ch_leastCost ch_leastBits cl_bits cl_count fi_sets fi_count ps_act ps_whom ps_amount ps_next ps_count i0_seatOf i0_one i0_other i0_kind i0_years i0_sawn i0_pairs i0_gone i1_seatOf i1_one i1_other i1_kind i1_years i1_sawn i1_pairs i1_gone i2_seatOf i2_one i2_other i2_kind i2_years i2_sawn i2_pairs i2_gone) (some .int) R0) args s 0 0 A) (F0 m 33 ls []) := by
    intro x5 hq H locs ls G hl
    subst hq
    have hf := sm_r hf
    refine lv_bipush (v := -2) hx hb dX4_find_33 (by decide) ?_
    obtain rfl := Option.some.inj hf
    exact xI_ret C G rfl dX4_find_35
  have Jrx5 : ∀ r, ox5 = .inl r → r = R0 := by
    intro r hq
    subst hq
    exact Option.some.inj hf
  exact w_Now_find_tf_L2 C Jrx5 Jx5 fu _ _ _ _ G (lv_sub hl [1, 2, 3, 0] rfl) hr
set_option maxHeartbeats 4000000 in
set_option maxRecDepth 100000 in
theorem c_Parser_kindOfWord_pa {l : Launch} {E : xE} {ad : Nat → Nat} {x_imageCount x_lastTrouble x_lastFault x_lastPlace pa_faultNumber pa_faultPlace rd_length rd_end rd_next rd_sort rd_start rd_value to_seats to_slack to_sawInches to_quarrelChance to_people to_forkBits to_unsure to_tried to_triedFedBits tf_pairs tf_gone bd_seats bd_slack bd_sawInches bd_quarrelChance bd_people bd_forkBits bd_unsure bd_tried bd_triedFedBits bf_pairs bf_gone nw_pairs nw_gone sc_forkBits sc_canBits sc_bestBits sc_bestSlops sl_count se_bestWorth se_fresh ch_items ch_leastCost ch_leastBits cl_count fi_count ps_next ps_count i0_pairs i0_gone i1_pairs i1_gone i2_pairs i2_gone : Int32} {pa_names : Nat → Int64} {rd_tape to_unsurePair to_unsureYears to_triedPair tf_seatOf tf_one tf_other tf_kind tf_years tf_sawn bd_unsurePair bd_unsureYears bd_triedPair bf_seatOf bf_one bf_other bf_kind bf_years bf_sawn nw_seatOf nw_one nw_other nw_kind nw_years nw_sawn sc_seatOf sc_handle sc_both sc_slopOf sl_bits se_bestRow se_row se_pairAt se_hope se_hopeAt se_slopAt se_farBits se_gain se_worth ch_both ch_cost ch_bit cl_bits fi_sets ps_act ps_whom ps_amount i0_seatOf i0_one i0_other i0_kind i0_years i0_sawn i1_seatOf i1_one i1_other i1_kind i1_years i1_sawn i2_seatOf i2_one i2_other i2_kind i2_years i2_sawn : Nat → Int32} {rd_word : Int64} {R0 : Int32} (hf : f_Parser_kindOfWord rd_word = some R0) : xI l E yX5_kindOfWord cX5_kindOfWord 1 (some .int) 0 0 [.ref (ad 2)] (wX E ad x_imageCount x_lastTrouble x_lastFault x_lastPlace pa_names pa_faultNumber pa_faultPlace rd_tape rd_length rd_end rd_next rd_sort rd_start rd_value rd_word to_unsurePair to_unsureYears to_triedPair to_seats to_slack to_sawInches to_quarrelChance to_people to_forkBits to_unsure to_tried to_triedFedBits tf_seatOf tf_one tf_other tf_kind tf_years tf_sawn tf_pairs tf_gone bd_unsurePair bd_unsureYears bd_triedPair bd_seats bd_slack bd_sawInches bd_quarrelChance bd_people bd_forkBits bd_unsure bd_tried bd_triedFedBits bf_seatOf bf_one bf_other bf_kind bf_years bf_sawn bf_pairs bf_gone nw_seatOf nw_one nw_other nw_kind nw_years nw_sawn nw_pairs nw_gone sc_seatOf sc_handle sc_both sc_slopOf sc_forkBits sc_canBits sc_bestBits sc_bestSlops sl_bits sl_count se_bestRow se_row se_pairAt se_hope se_hopeAt se_slopAt se_farBits se_gain se_worth se_bestWorth se_fresh ch_both ch_cost ch_bit ch_items ch_leastCost ch_leastBits cl_bits cl_count fi_sets fi_count ps_act ps_whom ps_amount ps_next ps_count i0_seatOf i0_one i0_other i0_kind i0_years i0_sawn i0_pairs i0_gone i1_seatOf i1_one i1_other i1_kind i1_years i1_sawn i1_pairs i1_gone i2_seatOf i2_one i2_other i2_kind i2_years i2_sawn i2_pairs i2_gone) (wX E ad x_imageCount x_lastTrouble x_lastFault x_lastPlace pa_names pa_faultNumber pa_faultPlace rd_tape rd_length rd_end rd_next rd_sort rd_start rd_value rd_word to_unsurePair to_unsureYears to_triedPair to_seats to_slack to_sawInches to_quarrelChance to_people to_forkBits to_unsure to_tried to_triedFedBits tf_seatOf tf_one tf_other tf_kind tf_years tf_sawn tf_pairs tf_gone bd_unsurePair bd_unsureYears bd_triedPair bd_seats bd_slack bd_sawInches bd_quarrelChance bd_people bd_forkBits bd_unsure bd_tried bd_triedFedBits bf_seatOf bf_one bf_other bf_kind bf_years bf_sawn bf_pairs bf_gone nw_seatOf nw_one nw_other nw_kind nw_years nw_sawn nw_pairs nw_gone sc_seatOf sc_handle sc_both sc_slopOf sc_forkBits sc_canBits sc_bestBits sc_bestSlops sl_bits sl_count se_bestRow se_row se_pairAt se_hope se_hopeAt se_slopAt se_farBits se_gain se_worth se_bestWorth se_fresh ch_both ch_cost ch_bit ch_items ch_leastCost ch_leastBits cl_bits cl_count fi_sets fi_count ps_act ps_whom ps_amount ps_next ps_count i0_seatOf i0_one i0_other i0_kind i0_years i0_sawn i0_pairs i0_gone i1_seatOf i1_one i1_other i1_kind i1_years i1_sawn i1_pairs i1_gone i2_seatOf i2_one i2_other i2_kind i2_years i2_sawn i2_pairs i2_gone) R0 := by
  refine xI_of (by decide) (Nat.le_of_ble_eq_true rfl) (fun p e s m args below meth c A C ls hl G => ?_)
  have hx := C.1
  have hb := C.2.1
  have hl : lv_has ls 1 [(0, .ref (ad 2))] := hl
  unfold f_Parser_kindOfWord at hf
  refine lv_aload_n hx hb dX5_kindOfWord_0 rfl (lv_at hl 0 rfl) ?_
  refine x_get C G fX5_12 (wX_at2) rfl dX5_kindOfWord_1 ?_
  refine x_get C G fX5_63.g (wX_at4) rfl dX5_kindOfWord_4 ?_
  refine lv_ldc2 hx hb C.2.2.2.1 (C.2.2.2.2.1 _ qX5_215) dX5_kindOfWord_7 ?_
  refine W.lcmp hx hb dX5_kindOfWord_10 ?_
  refine lv_if_ne (tgt := 16) hx hb dX5_kindOfWord_11 (by decide) (fun h => ?_) (fun h => ?_)
  · have hf := it_f h hf
    refine lv_aload_n hx hb dX5_kindOfWord_16 rfl (lv_at hl 0 rfl) ?_
    refine x_get C G fX5_12 (wX_at2) rfl dX5_kindOfWord_17 ?_
    refine x_get C G fX5_63.g (wX_at4) rfl dX5_kindOfWord_20 ?_
    refine lv_ldc2 hx hb C.2.2.2.1 (C.2.2.2.2.1 _ qX5_217) dX5_kindOfWord_23 ?_
    refine W.lcmp hx hb dX5_kindOfWord_26 ?_
    refine lv_if_ne (tgt := 32) hx hb dX5_kindOfWord_27 (by decide) (fun h => ?_) (fun h => ?_)
    · have hf := it_f h hf
      refine lv_aload_n hx hb dX5_kindOfWord_32 rfl (lv_at hl 0 rfl) ?_
      refine x_get C G fX5_12 (wX_at2) rfl dX5_kindOfWord_33 ?_
      refine x_get C G fX5_63.g (wX_at4) rfl dX5_kindOfWord_36 ?_
      refine lv_ldc2 hx hb C.2.2.2.1 (C.2.2.2.2.1 _ qX5_219) dX5_kindOfWord_39 ?_
      refine W.lcmp hx hb dX5_kindOfWord_42 ?_
      refine lv_if_ne (tgt := 50) hx hb dX5_kindOfWord_43 (by decide) (fun h => ?_) (fun h => ?_)
      · have hf := it_f h hf
        refine lv_iconst (v := -1) hx hb dX5_kindOfWord_50 (by decide) ?_
        obtain rfl := Option.some.inj hf
        exact xI_ret C G rfl dX5_kindOfWord_51
      · have hf := it_t h hf
        refine lv_iconst (v := 2) hx hb dX5_kindOfWord_46 (by decide) ?_
        refine lv_goto (tgt := 51) hx hb dX5_kindOfWord_47 (by decide) ?_
        obtain rfl := Option.some.inj hf
        exact xI_ret C G rfl dX5_kindOfWord_51
    · have hf := it_t h hf
      refine lv_iconst (v := 1) hx hb dX5_kindOfWord_30 (by decide) ?_
      obtain rfl := Option.some.inj hf
      exact xI_ret C G rfl dX5_kindOfWord_31
  · have hf := it_t h hf
    refine lv_iconst (v := 0) hx hb dX5_kindOfWord_14 (by decide) ?_
    obtain rfl := Option.some.inj hf
    exact xI_ret C G rfl dX5_kindOfWord_15
set_option maxHeartbeats 4000000 in
set_option maxRecDepth 100000 in
theorem c_Now_addPair_tf {l : Launch} {E : xE} {ad : Nat → Nat} {x_imageCount x_lastTrouble x_lastFault x_lastPlace pa_faultNumber pa_faultPlace rd_length rd_end rd_next rd_sort rd_start rd_value to_seats to_slack to_sawInches to_quarrelChance to_people to_forkBits to_unsure to_tried to_triedFedBits tf_pairs tf_gone bd_seats bd_slack bd_sawInches bd_quarrelChance bd_people bd_forkBits bd_unsure bd_tried bd_triedFedBits bf_pairs bf_gone nw_pairs nw_gone sc_forkBits sc_canBits sc_bestBits sc_bestSlops sl_count se_bestWorth se_fresh ch_items ch_leastCost ch_leastBits cl_count fi_count ps_next ps_count i0_pairs i0_gone i1_pairs i1_gone i2_pairs i2_gone : Int32} {pa_names : Nat → Int64} {rd_tape to_unsurePair to_unsureYears to_triedPair tf_seatOf tf_one tf_other tf_kind tf_years tf_sawn bd_unsurePair bd_unsureYears bd_triedPair bf_seatOf bf_one bf_other bf_kind bf_years bf_sawn nw_seatOf nw_one nw_other nw_kind nw_years nw_sawn sc_seatOf sc_handle sc_both sc_slopOf sl_bits se_bestRow se_row se_pairAt se_hope se_hopeAt se_slopAt se_farBits se_gain se_worth ch_both ch_cost ch_bit cl_bits fi_sets ps_act ps_whom ps_amount i0_seatOf i0_one i0_other i0_kind i0_years i0_sawn i1_seatOf i1_one i1_other i1_kind i1_years i1_sawn i2_seatOf i2_one i2_other i2_kind i2_years i2_sawn : Nat → Int32} {rd_word : Int64} {l1 : Int32} {l2 : Int32} {l3 : Int32} {l4 : Int32} {R0 : (Nat → Int32) × (Nat → Int32) × (Nat → Int32) × (Nat → Int32) × (Nat → Int32) × Int32} (hf : f_Now_addPair l1 l2 l3 l4 tf_one tf_other tf_kind tf_years tf_sawn tf_pairs = some R0) : xV l E yX4_addPair cX4_addPair 5 none 0 0 [.ref (ad 10), .int l1, .int l2, .int l3, .int l4] (wX E ad x_imageCount x_lastTrouble x_lastFault x_lastPlace pa_names pa_faultNumber pa_faultPlace rd_tape rd_length rd_end rd_next rd_sort rd_start rd_value rd_word to_unsurePair to_unsureYears to_triedPair to_seats to_slack to_sawInches to_quarrelChance to_people to_forkBits to_unsure to_tried to_triedFedBits tf_seatOf tf_one tf_other tf_kind tf_years tf_sawn tf_pairs tf_gone bd_unsurePair bd_unsureYears bd_triedPair bd_seats bd_slack bd_sawInches bd_quarrelChance bd_people bd_forkBits bd_unsure bd_tried bd_triedFedBits bf_seatOf bf_one bf_other bf_kind bf_years bf_sawn bf_pairs bf_gone nw_seatOf nw_one nw_other nw_kind nw_years nw_sawn nw_pairs nw_gone sc_seatOf sc_handle sc_both sc_slopOf sc_forkBits sc_canBits sc_bestBits sc_bestSlops sl_bits sl_count se_bestRow se_row se_pairAt se_hope se_hopeAt se_slopAt se_farBits se_gain se_worth se_bestWorth se_fresh ch_both ch_cost ch_bit ch_items ch_leastCost ch_leastBits cl_bits cl_count fi_sets fi_count ps_act ps_whom ps_amount ps_next ps_count i0_seatOf i0_one i0_other i0_kind i0_years i0_sawn i0_pairs i0_gone i1_seatOf i1_one i1_other i1_kind i1_years i1_sawn i1_pairs i1_gone i2_seatOf i2_one i2_other i2_kind i2_years i2_sawn i2_pairs i2_gone) (wX E ad x_imageCount x_lastTrouble x_lastFault x_lastPlace pa_names pa_faultNumber pa_faultPlace rd_tape rd_length rd_end rd_next rd_sort rd_start rd_value rd_word to_unsurePair to_unsureYears to_triedPair to_seats to_slack to_sawInches to_quarrelChance to_people to_forkBits to_unsure to_tried to_triedFedBits tf_seatOf R0.1 R0.2.1 R0.2.2.1 R0.2.2.2.1 R0.2.2.2.2.1 R0.2.2.2.2.2 tf_gone bd_unsurePair bd_unsureYears bd_triedPair bd_seats bd_slack bd_sawInches bd_quarrelChance bd_people bd_forkBits bd_unsure bd_tried bd_triedFedBits bf_seatOf bf_one bf_other bf_kind bf_years bf_sawn bf_pairs bf_gone nw_seatOf nw_one nw_other nw_kind nw_years nw_sawn nw_pairs nw_gone sc_seatOf sc_handle sc_both sc_slopOf sc_forkBits sc_canBits sc_bestBits sc_bestSlops sl_bits sl_count se_bestRow se_row se_pairAt se_hope se_hopeAt se_slopAt se_farBits se_gain se_worth se_bestWorth se_fresh ch_both ch_cost ch_bit ch_items ch_leastCost ch_leastBits cl_bits cl_count fi_sets fi_count ps_act ps_whom ps_amount ps_next ps_count i0_seatOf i0_one i0_other i0_kind i0_years i0_sawn i0_pairs i0_gone i1_seatOf i1_one i1_other i1_kind i1_years i1_sawn i1_pairs i1_gone i2_seatOf i2_one i2_other i2_kind i2_years i2_sawn i2_pairs i2_gone) := by
  refine xV_of (by decide) (Nat.le_of_ble_eq_true rfl) (fun p e s m args below meth c A C ls hl G => ?_)
  have hx := C.1
  have hb := C.2.1
  have hl : lv_has ls 5 [(0, .ref (ad 10)), (1, .int l1), (2, .int l2), (3, .int l3), (4, .int l4)] := hl
  unfold f_Now_addPair at hf
  refine lv_aload_n hx hb dX4_addPair_0 rfl (lv_at hl 0 rfl) ?_
  refine x_get C G fX4_36.g (wX_at10) rfl dX4_addPair_1 ?_
  refine lv_bipush (v := 10) hx hb dX4_addPair_4 (by decide) ?_
  refine lv_icmp_lt (tgt := 10) hx hb dX4_addPair_6 (by decide) (fun h => ?_) (fun h => ?_)
  · have hf := it_t h hf
    refine lv_aload_n hx hb dX4_addPair_10 rfl (lv_at hl 0 rfl) ?_
    refine x_get C G fX4_15 (wX_at10) rfl dX4_addPair_11 ?_
    refine lv_aload_n hx hb dX4_addPair_14 rfl (lv_at hl 0 rfl) ?_
    refine x_get C G fX4_36.g (wX_at10) rfl dX4_addPair_15 ?_
    refine lv_iload_n hx hb dX4_addPair_18 rfl (lv_at hl 1 rfl) ?_
    have hi := ck_in hf
    have hf := ck_go hf
    refine x_iast (ws' := (wX E ad x_imageCount x_lastTrouble x_lastFault x_lastPlace pa_names pa_faultNumber pa_faultPlace rd_tape rd_length rd_end rd_next rd_sort rd_start rd_value rd_word to_unsurePair to_unsureYears to_triedPair to_seats to_slack to_sawInches to_quarrelChance to_people to_forkBits to_unsure to_tried to_triedFedBits tf_seatOf (upd tf_one tf_pairs.toNatClampNeg l1) tf_other tf_kind tf_years tf_sawn tf_pairs tf_gone bd_unsurePair bd_unsureYears bd_triedPair bd_seats bd_slack bd_sawInches bd_quarrelChance bd_people bd_forkBits bd_unsure bd_tried bd_triedFedBits bf_seatOf bf_one bf_other bf_kind bf_years bf_sawn bf_pairs bf_gone nw_seatOf nw_one nw_other nw_kind nw_years nw_sawn nw_pairs nw_gone sc_seatOf sc_handle sc_both sc_slopOf sc_forkBits sc_canBits sc_bestBits sc_bestSlops sl_bits sl_count se_bestRow se_row se_pairAt se_hope se_hopeAt se_slopAt se_farBits se_gain se_worth se_bestWorth se_fresh ch_both ch_cost ch_bit ch_items ch_leastCost ch_leastBits cl_bits cl_count fi_sets fi_count ps_act ps_whom ps_amount ps_next ps_count i0_seatOf i0_one i0_other i0_kind i0_years i0_sawn i0_pairs i0_gone i1_seatOf i1_one i1_other i1_kind i1_years i1_sawn i1_pairs i1_gone i2_seatOf i2_one i2_other i2_kind i2_years i2_sawn i2_pairs i2_gone)) C G (wX_at12) hi wX_set_tf_one dX4_addPair_19 (fun H locs G => ?_)
    refine lv_aload_n hx hb dX4_addPair_20 rfl (lv_at hl 0 rfl) ?_
    refine x_get C G fX4_18 (wX_at10) rfl dX4_addPair_21 ?_
    refine lv_aload_n hx hb dX4_addPair_24 rfl (lv_at hl 0 rfl) ?_
    refine x_get C G fX4_36.g (wX_at10) rfl dX4_addPair_25 ?_
    refine lv_iload_n hx hb dX4_addPair_28 rfl (lv_at hl 2 rfl) ?_
    have hi := ck_in hf
    have hf := ck_go hf
    refine x_iast (ws' := (wX E ad x_imageCount x_lastTrouble x_lastFault x_lastPlace pa_names pa_faultNumber pa_faultPlace rd_tape rd_length rd_end rd_next rd_sort rd_start rd_value rd_word to_unsurePair to_unsureYears to_triedPair to_seats to_slack to_sawInches to_quarrelChance to_people to_forkBits to_unsure to_tried to_triedFedBits tf_seatOf (upd tf_one tf_pairs.toNatClampNeg l1) (upd tf_other tf_pairs.toNatClampNeg l2) tf_kind tf_years tf_sawn tf_pairs tf_gone bd_unsurePair bd_unsureYears bd_triedPair bd_seats bd_slack bd_sawInches bd_quarrelChance bd_people bd_forkBits bd_unsure bd_tried bd_triedFedBits bf_seatOf bf_one bf_other bf_kind bf_years bf_sawn bf_pairs bf_gone nw_seatOf nw_one nw_other nw_kind nw_years nw_sawn nw_pairs nw_gone sc_seatOf sc_handle sc_both sc_slopOf sc_forkBits sc_canBits sc_bestBits sc_bestSlops sl_bits sl_count se_bestRow se_row se_pairAt se_hope se_hopeAt se_slopAt se_farBits se_gain se_worth se_bestWorth se_fresh ch_both ch_cost ch_bit ch_items ch_leastCost ch_leastBits cl_bits cl_count fi_sets fi_count ps_act ps_whom ps_amount ps_next ps_count i0_seatOf i0_one i0_other i0_kind i0_years i0_sawn i0_pairs i0_gone i1_seatOf i1_one i1_other i1_kind i1_years i1_sawn i1_pairs i1_gone i2_seatOf i2_one i2_other i2_kind i2_years i2_sawn i2_pairs i2_gone)) C G (wX_at13) hi wX_set_tf_other dX4_addPair_29 (fun H locs G => ?_)
    refine lv_aload_n hx hb dX4_addPair_30 rfl (lv_at hl 0 rfl) ?_
    refine x_get C G fX4_21 (wX_at10) rfl dX4_addPair_31 ?_
    refine lv_aload_n hx hb dX4_addPair_34 rfl (lv_at hl 0 rfl) ?_
    refine x_get C G fX4_36.g (wX_at10) rfl dX4_addPair_35 ?_
    refine lv_iload hx hb dX4_addPair_38 (lv_at hl 4 rfl) ?_
    have hi := ck_in hf
    have hf := ck_go hf
    refine x_iast (ws' := (wX E ad x_imageCount x_lastTrouble x_lastFault x_lastPlace pa_names pa_faultNumber pa_faultPlace rd_tape rd_length rd_end rd_next rd_sort rd_start rd_value rd_word to_unsurePair to_unsureYears to_triedPair to_seats to_slack to_sawInches to_quarrelChance to_people to_forkBits to_unsure to_tried to_triedFedBits tf_seatOf (upd tf_one tf_pairs.toNatClampNeg l1) (upd tf_other tf_pairs.toNatClampNeg l2) (upd tf_kind tf_pairs.toNatClampNeg l4) tf_years tf_sawn tf_pairs tf_gone bd_unsurePair bd_unsureYears bd_triedPair bd_seats bd_slack bd_sawInches bd_quarrelChance bd_people bd_forkBits bd_unsure bd_tried bd_triedFedBits bf_seatOf bf_one bf_other bf_kind bf_years bf_sawn bf_pairs bf_gone nw_seatOf nw_one nw_other nw_kind nw_years nw_sawn nw_pairs nw_gone sc_seatOf sc_handle sc_both sc_slopOf sc_forkBits sc_canBits sc_bestBits sc_bestSlops sl_bits sl_count se_bestRow se_row se_pairAt se_hope se_hopeAt se_slopAt se_farBits se_gain se_worth se_bestWorth se_fresh ch_both ch_cost ch_bit ch_items ch_leastCost ch_leastBits cl_bits cl_count fi_sets fi_count ps_act ps_whom ps_amount ps_next ps_count i0_seatOf i0_one i0_other i0_kind i0_years i0_sawn i0_pairs i0_gone i1_seatOf i1_one i1_other i1_kind i1_years i1_sawn i1_pairs i1_gone i2_seatOf i2_one i2_other i2_kind i2_years i2_sawn i2_pairs i2_gone)) C G (wX_at14) hi wX_set_tf_kind dX4_addPair_40 (fun H locs G => ?_)
    refine lv_aload_n hx hb dX4_addPair_41 rfl (lv_at hl 0 rfl) ?_
    refine x_get C G fX4_24 (wX_at10) rfl dX4_addPair_42 ?_
    refine lv_aload_n hx hb dX4_addPair_45 rfl (lv_at hl 0 rfl) ?_
    refine x_get C G fX4_36.g (wX_at10) rfl dX4_addPair_46 ?_
    refine lv_iload_n hx hb dX4_addPair_49 rfl (lv_at hl 3 rfl) ?_
    have hi := ck_in hf
    have hf := ck_go hf
    refine x_iast (ws' := (wX E ad x_imageCount x_lastTrouble x_lastFault x_lastPlace pa_names pa_faultNumber pa_faultPlace rd_tape rd_length rd_end rd_next rd_sort rd_start rd_value rd_word to_unsurePair to_unsureYears to_triedPair to_seats to_slack to_sawInches to_quarrelChance to_people to_forkBits to_unsure to_tried to_triedFedBits tf_seatOf (upd tf_one tf_pairs.toNatClampNeg l1) (upd tf_other tf_pairs.toNatClampNeg l2) (upd tf_kind tf_pairs.toNatClampNeg l4) (upd tf_years tf_pairs.toNatClampNeg l3) tf_sawn tf_pairs tf_gone bd_unsurePair bd_unsureYears bd_triedPair bd_seats bd_slack bd_sawInches bd_quarrelChance bd_people bd_forkBits bd_unsure bd_tried bd_triedFedBits bf_seatOf bf_one bf_other bf_kind bf_years bf_sawn bf_pairs bf_gone nw_seatOf nw_one nw_other nw_kind nw_years nw_sawn nw_pairs nw_gone sc_seatOf sc_handle sc_both sc_slopOf sc_forkBits sc_canBits sc_bestBits sc_bestSlops sl_bits sl_count se_bestRow se_row se_pairAt se_hope se_hopeAt se_slopAt se_farBits se_gain se_worth se_bestWorth se_fresh ch_both ch_cost ch_bit ch_items ch_leastCost ch_leastBits cl_bits cl_count fi_sets fi_count ps_act ps_whom ps_amount ps_next ps_count i0_seatOf i0_one i0_other i0_kind i0_years i0_sawn i0_pairs i0_gone i1_seatOf i1_one i1_other i1_kind i1_years i1_sawn i1_pairs i1_gone i2_seatOf i2_one i2_other i2_kind i2_years i2_sawn i2_pairs i2_gone)) C G (wX_at15) hi wX_set_tf_years dX4_addPair_50 (fun H locs G => ?_)
    refine lv_aload_n hx hb dX4_addPair_51 rfl (lv_at hl 0 rfl) ?_
    refine x_get C G fX4_27 (wX_at10) rfl dX4_addPair_52 ?_
    refine lv_aload_n hx hb dX4_addPair_55 rfl (lv_at hl 0 rfl) ?_
    refine x_get C G fX4_36.g (wX_at10) rfl dX4_addPair_56 ?_
    refine lv_iconst (v := 0) hx hb dX4_addPair_59 (by decide) ?_
    have hi := ck_in hf
    have hf := ck_go hf
    refine x_iast (ws' := (wX E ad x_imageCount x_lastTrouble x_lastFault x_lastPlace pa_names pa_faultNumber pa_faultPlace rd_tape rd_length rd_end rd_next rd_sort rd_start rd_value rd_word to_unsurePair to_unsureYears to_triedPair to_seats to_slack to_sawInches to_quarrelChance to_people to_forkBits to_unsure to_tried to_triedFedBits tf_seatOf (upd tf_one tf_pairs.toNatClampNeg l1) (upd tf_other tf_pairs.toNatClampNeg l2) (upd tf_kind tf_pairs.toNatClampNeg l4) (upd tf_years tf_pairs.toNatClampNeg l3) (upd tf_sawn tf_pairs.toNatClampNeg (0 : Int32)) tf_pairs tf_gone bd_unsurePair bd_unsureYears bd_triedPair bd_seats bd_slack bd_sawInches bd_quarrelChance bd_people bd_forkBits bd_unsure bd_tried bd_triedFedBits bf_seatOf bf_one bf_other bf_kind bf_years bf_sawn bf_pairs bf_gone nw_seatOf nw_one nw_other nw_kind nw_years nw_sawn nw_pairs nw_gone sc_seatOf sc_handle sc_both sc_slopOf sc_forkBits sc_canBits sc_bestBits sc_bestSlops sl_bits sl_count se_bestRow se_row se_pairAt se_hope se_hopeAt se_slopAt se_farBits se_gain se_worth se_bestWorth se_fresh ch_both ch_cost ch_bit ch_items ch_leastCost ch_leastBits cl_bits cl_count fi_sets fi_count ps_act ps_whom ps_amount ps_next ps_count i0_seatOf i0_one i0_other i0_kind i0_years i0_sawn i0_pairs i0_gone i1_seatOf i1_one i1_other i1_kind i1_years i1_sawn i1_pairs i1_gone i2_seatOf i2_one i2_other i2_kind i2_years i2_sawn i2_pairs i2_gone)) C G (wX_at16) hi wX_set_tf_sawn dX4_addPair_60 (fun H locs G => ?_)
    refine lv_aload_n hx hb dX4_addPair_61 rfl (lv_at hl 0 rfl) ?_
    refine lv_dup hx hb dX4_addPair_62 rfl ?_
    refine x_get C G fX4_36.g (wX_at10) rfl dX4_addPair_63 ?_
    refine lv_iconst (v := 1) hx hb dX4_addPair_66 (by decide) ?_
    refine lv_iadd hx hb dX4_addPair_67 ?_
    refine lv_topi (fun x1 ex1 => ?_)
    have hf := lt_go ex1 hf
    refine x_put (ws' := (wX E ad x_imageCount x_lastTrouble x_lastFault x_lastPlace pa_names pa_faultNumber pa_faultPlace rd_tape rd_length rd_end rd_next rd_sort rd_start rd_value rd_word to_unsurePair to_unsureYears to_triedPair to_seats to_slack to_sawInches to_quarrelChance to_people to_forkBits to_unsure to_tried to_triedFedBits tf_seatOf (upd tf_one tf_pairs.toNatClampNeg l1) (upd tf_other tf_pairs.toNatClampNeg l2) (upd tf_kind tf_pairs.toNatClampNeg l4) (upd tf_years tf_pairs.toNatClampNeg l3) (upd tf_sawn tf_pairs.toNatClampNeg (0 : Int32)) x1 tf_gone bd_unsurePair bd_unsureYears bd_triedPair bd_seats bd_slack bd_sawInches bd_quarrelChance bd_people bd_forkBits bd_unsure bd_tried bd_triedFedBits bf_seatOf bf_one bf_other bf_kind bf_years bf_sawn bf_pairs bf_gone nw_seatOf nw_one nw_other nw_kind nw_years nw_sawn nw_pairs nw_gone sc_seatOf sc_handle sc_both sc_slopOf sc_forkBits sc_canBits sc_bestBits sc_bestSlops sl_bits sl_count se_bestRow se_row se_pairAt se_hope se_hopeAt se_slopAt se_farBits se_gain se_worth se_bestWorth se_fresh ch_both ch_cost ch_bit ch_items ch_leastCost ch_leastBits cl_bits cl_count fi_sets fi_count ps_act ps_whom ps_amount ps_next ps_count i0_seatOf i0_one i0_other i0_kind i0_years i0_sawn i0_pairs i0_gone i1_seatOf i1_one i1_other i1_kind i1_years i1_sawn i1_pairs i1_gone i2_seatOf i2_one i2_other i2_kind i2_years i2_sawn i2_pairs i2_gone)) C G fX4_36 (wX_at10) rfl rfl (Nat.le_of_ble_eq_true rfl) wX_set_tf_pairs dX4_addPair_68 (fun H locs G => ?_)
    obtain rfl := Option.some.inj hf
    exact xV_ret C G dX4_addPair_71
  · have hf := it_f h hf
    obtain rfl := Option.some.inj hf
    exact xV_ret C G dX4_addPair_9
set_option maxHeartbeats 4000000 in
set_option maxRecDepth 100000 in
theorem c_Parser_knownLine_pa {l : Launch} {E : xE} {ad : Nat → Nat} {x_imageCount x_lastTrouble x_lastFault x_lastPlace pa_faultNumber pa_faultPlace rd_length rd_end rd_next rd_sort rd_start rd_value to_seats to_slack to_sawInches to_quarrelChance to_people to_forkBits to_unsure to_tried to_triedFedBits tf_pairs tf_gone bd_seats bd_slack bd_sawInches bd_quarrelChance bd_people bd_forkBits bd_unsure bd_tried bd_triedFedBits bf_pairs bf_gone nw_pairs nw_gone sc_forkBits sc_canBits sc_bestBits sc_bestSlops sl_count se_bestWorth se_fresh ch_items ch_leastCost ch_leastBits cl_count fi_count ps_next ps_count i0_pairs i0_gone i1_pairs i1_gone i2_pairs i2_gone : Int32} {pa_names : Nat → Int64} {rd_tape to_unsurePair to_unsureYears to_triedPair tf_seatOf tf_one tf_other tf_kind tf_years tf_sawn bd_unsurePair bd_unsureYears bd_triedPair bf_seatOf bf_one bf_other bf_kind bf_years bf_sawn nw_seatOf nw_one nw_other nw_kind nw_years nw_sawn sc_seatOf sc_handle sc_both sc_slopOf sl_bits se_bestRow se_row se_pairAt se_hope se_hopeAt se_slopAt se_farBits se_gain se_worth ch_both ch_cost ch_bit cl_bits fi_sets ps_act ps_whom ps_amount i0_seatOf i0_one i0_other i0_kind i0_years i0_sawn i1_seatOf i1_one i1_other i1_kind i1_years i1_sawn i2_seatOf i2_one i2_other i2_kind i2_years i2_sawn : Nat → Int32} {rd_word : Int64} {R0 : Int32 × Int32 × Int32 × Int32 × Int32 × Int32 × Int32 × Int64 × (Nat → Int32) × (Nat → Int32) × (Nat → Int32) × (Nat → Int32) × (Nat → Int32) × Int32} (hf : f_Parser_knownLine pa_names pa_faultNumber pa_faultPlace rd_tape rd_end rd_next rd_sort rd_start rd_value rd_word to_people tf_one tf_other tf_kind tf_years tf_sawn tf_pairs = some R0) : xI l E yX5_knownLine cX5_knownLine 5 (some .boolean) 3 70 [.ref (ad 2)] (wX E ad x_imageCount x_lastTrouble x_lastFault x_lastPlace pa_names pa_faultNumber pa_faultPlace rd_tape rd_length rd_end rd_next rd_sort rd_start rd_value rd_word to_unsurePair to_unsureYears to_triedPair to_seats to_slack to_sawInches to_quarrelChance to_people to_forkBits to_unsure to_tried to_triedFedBits tf_seatOf tf_one tf_other tf_kind tf_years tf_sawn tf_pairs tf_gone bd_unsurePair bd_unsureYears bd_triedPair bd_seats bd_slack bd_sawInches bd_quarrelChance bd_people bd_forkBits bd_unsure bd_tried bd_triedFedBits bf_seatOf bf_one bf_other bf_kind bf_years bf_sawn bf_pairs bf_gone nw_seatOf nw_one nw_other nw_kind nw_years nw_sawn nw_pairs nw_gone sc_seatOf sc_handle sc_both sc_slopOf sc_forkBits sc_canBits sc_bestBits sc_bestSlops sl_bits sl_count se_bestRow se_row se_pairAt se_hope se_hopeAt se_slopAt se_farBits se_gain se_worth se_bestWorth se_fresh ch_both ch_cost ch_bit ch_items ch_leastCost ch_leastBits cl_bits cl_count fi_sets fi_count ps_act ps_whom ps_amount ps_next ps_count i0_seatOf i0_one i0_other i0_kind i0_years i0_sawn i0_pairs i0_gone i1_seatOf i1_one i1_other i1_kind i1_years i1_sawn i1_pairs i1_gone i2_seatOf i2_one i2_other i2_kind i2_years i2_sawn i2_pairs i2_gone) (wX E ad x_imageCount x_lastTrouble x_lastFault x_lastPlace pa_names R0.2.1 R0.2.2.1 rd_tape rd_length rd_end R0.2.2.2.1 R0.2.2.2.2.1 R0.2.2.2.2.2.1 R0.2.2.2.2.2.2.1 R0.2.2.2.2.2.2.2.1 to_unsurePair to_unsureYears to_triedPair to_seats to_slack to_sawInches to_quarrelChance to_people to_forkBits to_unsure to_tried to_triedFedBits tf_seatOf R0.2.2.2.2.2.2.2.2.1 R0.2.2.2.2.2.2.2.2.2.1 R0.2.2.2.2.2.2.2.2.2.2.1 R0.2.2.2.2.2.2.2.2.2.2.2.1 R0.2.2.2.2.2.2.2.2.2.2.2.2.1 R0.2.2.2.2.2.2.2.2.2.2.2.2.2 tf_gone bd_unsurePair bd_unsureYears bd_triedPair bd_seats bd_slack bd_sawInches bd_quarrelChance bd_people bd_forkBits bd_unsure bd_tried bd_triedFedBits bf_seatOf bf_one bf_other bf_kind bf_years bf_sawn bf_pairs bf_gone nw_seatOf nw_one nw_other nw_kind nw_years nw_sawn nw_pairs nw_gone sc_seatOf sc_handle sc_both sc_slopOf sc_forkBits sc_canBits sc_bestBits sc_bestSlops sl_bits sl_count se_bestRow se_row se_pairAt se_hope se_hopeAt se_slopAt se_farBits se_gain se_worth se_bestWorth se_fresh ch_both ch_cost ch_bit ch_items ch_leastCost ch_leastBits cl_bits cl_count fi_sets fi_count ps_act ps_whom ps_amount ps_next ps_count i0_seatOf i0_one i0_other i0_kind i0_years i0_sawn i0_pairs i0_gone i1_seatOf i1_one i1_other i1_kind i1_years i1_sawn i1_pairs i1_gone i2_seatOf i2_one i2_other i2_kind i2_years i2_sawn i2_pairs i2_gone) R0.1 := by
  refine xI_of (by decide) (Nat.le_of_ble_eq_true rfl) (fun p e s m args below meth c A C ls hl G => ?_)
  have hx := C.1
  have hb := C.2.1
  have hl : lv_has ls 5 [(0, .ref (ad 2))] := hl
  unfold f_Parser_knownLine at hf
  refine lv_aload_n hx hb dX5_knownLine_0 rfl (lv_at hl 0 rfl) ?_
  obtain ⟨x1, hc, hf⟩ := bd_go hf
  refine xI_V C G (c_Parser_personTold_pa hc) mX5_personTold kX5_179 (wX_at2) rfl ⟨Nat.le_of_ble_eq_true rfl, Nat.le_of_ble_eq_true rfl⟩ rfl hl.1 rfl (Nat.le_of_ble_eq_true rfl) ⟨Nat.le_refl _, Nat.le_refl _⟩ dX5_knownLine_1 (fun hz H locs G => ?_)
  refine lv_istore_n (lv' := [(1, .int x1.1), (0, .ref (ad 2))]) hx hb dX5_knownLine_4 rfl hl (by decide) rfl (fun ls hl => ?_)
  refine lv_iload_n hx hb dX5_knownLine_5 rfl (lv_at hl 0 rfl) ?_
  refine lv_if_ge (tgt := 11) hx hb dX5_knownLine_6 (by decide) (fun h => ?_) (fun h => ?_)
  · have hf := it_t h hf
    refine lv_aload_n hx hb dX5_knownLine_11 rfl (lv_at hl 1 rfl) ?_
    refine x_get C G fX5_12 (wX_at2) rfl dX5_knownLine_12 ?_
    obtain ⟨x2, hc, hf⟩ := bd_go hf
    refine xV_V C G (c_Reader_step_rd hc) mX7_step kX5_57 (wX_at4) rfl ⟨Nat.le_of_ble_eq_true rfl, Nat.le_of_ble_eq_true rfl⟩ rfl hl.1 rfl (Nat.le_of_ble_eq_true rfl) ⟨Nat.le_refl _, Nat.le_refl _⟩ dX5_knownLine_15 (fun H locs G => ?_)
    refine lv_aload_n hx hb dX5_knownLine_18 rfl (lv_at hl 1 rfl) ?_
    obtain ⟨x3, hc, hf⟩ := bd_go hf
    refine xI_V C G (c_Parser_personTold_pa hc) mX5_personTold kX5_179 (wX_at2) rfl ⟨Nat.le_of_ble_eq_true rfl, Nat.le_of_ble_eq_true rfl⟩ rfl hl.1 rfl (Nat.le_of_ble_eq_true rfl) ⟨Nat.le_refl _, Nat.le_refl _⟩ dX5_knownLine_19 (fun hz H locs G => ?_)
    refine lv_istore_n (lv' := [(2, .int x3.1), (1, .int x1.1), (0, .ref (ad 2))]) hx hb dX5_knownLine_22 rfl hl (by decide) rfl (fun ls hl => ?_)
    refine lv_iload_n hx hb dX5_knownLine_23 rfl (lv_at hl 0 rfl) ?_
    refine lv_if_ge (tgt := 29) hx hb dX5_knownLine_24 (by decide) (fun h => ?_) (fun h => ?_)
    · have hf := it_t h hf
      refine lv_iload_n hx hb dX5_knownLine_29 rfl (lv_at hl 1 rfl) ?_
      refine lv_iload_n hx hb dX5_knownLine_30 rfl (lv_at hl 0 rfl) ?_
      obtain ⟨b4, hr, hf⟩ := bd_go hf
      cases b4 with
      | true =>
        have hf := it_t rfl hf
        have J : ∀ (H : Heap) (locs : List Loc), xG s E A (wX E ad x_imageCount x_lastTrouble x_lastFault x_lastPlace pa_names x3.2.1 x3.2.2 rd_tape rd_length rd_end x2.1 x2.2.1 x2.2.2.1 x2.2.2.2.1 x2.2.2.2.2 to_unsurePair to_unsureYears to_triedPair to_seats to_slack to_sawInches to_quarrelChance to_people to_forkBits to_unsure to_tried to_triedFedBits tf_seatOf tf_one tf_other tf_kind tf_years tf_sawn tf_pairs tf_gone bd_unsurePair bd_unsureYears bd_triedPair bd_seats bd_slack bd_sawInches bd_quarrelChance bd_people bd_forkBits bd_unsure bd_tried bd_triedFedBits bf_seatOf bf_one bf_other bf_kind bf_years bf_sawn bf_pairs bf_gone nw_seatOf nw_one nw_other nw_kind nw_years nw_sawn nw_pairs nw_gone sc_seatOf sc_handle sc_both sc_slopOf sc_forkBits sc_canBits sc_bestBits sc_bestSlops sl_bits sl_count se_bestRow se_row se_pairAt se_hope se_hopeAt se_slopAt se_farBits se_gain se_worth se_bestWorth se_fresh ch_both ch_cost ch_bit ch_items ch_leastCost ch_leastBits cl_bits cl_count fi_sets fi_count ps_act ps_whom ps_amount ps_next ps_count i0_seatOf i0_one i0_other i0_kind i0_years i0_sawn i0_pairs i0_gone i1_seatOf i1_one i1_other i1_kind i1_years i1_sawn i1_pairs i1_gone i2_seatOf i2_one i2_other i2_kind i2_years i2_sawn i2_pairs i2_gone) H locs → W p l e (xR 3 70) s m args below meth c H locs 0 0 (MQ below (xqI E A (wX E ad x_imageCount x_lastTrouble x_lastFault x_lastPlace pa_names R0.2.1 R0.2.2.1 rd_tape rd_length rd_end R0.2.2.2.1 R0.2.2.2.2.1 R0.2.2.2.2.2.1 R0.2.2.2.2.2.2.1 R0.2.2.2.2.2.2.2.1 to_unsurePair to_unsureYears to_triedPair to_seats to_slack to_sawInches to_quarrelChance to_people to_forkBits to_unsure to_tried to_triedFedBits tf_seatOf R0.2.2.2.2.2.2.2.2.1 R0.2.2.2.2.2.2.2.2.2.1 R0.2.2.2.2.2.2.2.2.2.2.1 R0.2.2.2.2.2.2.2.2.2.2.2.1 R0.2.2.2.2.2.2.2.2.2.2.2.2.1 R0.2.2.2.2.2.2.2.2.2.2.2.2.2 tf_gone bd_unsurePair bd_unsureYears bd_triedPair bd_seats bd_slack bd_sawInches bd_quarrelChance bd_people bd_forkBits bd_unsure bd_tried bd_triedFedBits bf_seatOf bf_one bf_other bf_kind bf_years bf_sawn bf_pairs bf_gone nw_seatOf nw_one nw_other nw_kind nw_years nw_sawn nw_pairs nw_gone sc_seatOf sc_handle sc_both sc_slopOf sc_forkBits sc_canBits sc_bestBits sc_bestSlops sl_bits sl_count se_bestRow se_row se_pairAt se_hope se_hopeAt se_slopAt se_farBits se_gain se_worth se_bestWorth se_fresh ch_both ch_cost ch_bit ch_items ch_leastCost ch_leastBits cl_bits cl_count fi_sets fi_count ps_act ps_whom ps_amount ps_next ps_count i0_seatOf i0_one i0_other i0_kind i0_years i0_sawn i0_pairs i0_gone i1_seatOf i1_one i1_other i1_kind i1_years i1_sawn i1_pairs i1_gone i2_seatOf i2_one i2_other i2_kind i2_years i2_sawn i2_pairs i2_gone) (some .boolean) R0.1) args s 0 0 A) (F0 m 49 ls []) := by
          intro H locs G
          refine lv_aload_n hx hb dX5_knownLine_49 rfl (lv_at hl 2 rfl) ?_
          refine lv_iconst (v := 3) hx hb dX5_knownLine_50 (by decide) ?_
          obtain ⟨x5, hc, hf⟩ := bd_go hf
          refine xI_V C G (c_Parser_wrong_pa hc) mX5_wrong kX5_53 (wX_at2) rfl ⟨Nat.le_of_ble_eq_true rfl, Nat.le_of_ble_eq_true rfl⟩ rfl hl.1 rfl (Nat.le_of_ble_eq_true rfl) ⟨Nat.le_refl _, Nat.le_refl _⟩ dX5_knownLine_51 (fun hz5 H locs G => ?_)
          obtain rfl := Option.some.inj hf
          exact xI_ret (r := x5.1) C G (hz5 _ rfl) dX5_knownLine_54
        have hf := hr
        clear hr
        refine lv_icmp_eq (tgt := 49) hx hb dX5_knownLine_31 (by decide) (fun h => ?_) (fun h => ?_)
        · have hf := it_t h hf
          exact J _ _ G
        · have hf := it_f h hf
          refine lv_aload_n hx hb dX5_knownLine_34 rfl (lv_at hl 2 rfl) ?_
          refine x_get C G fX5_21 (wX_at2) rfl dX5_knownLine_35 ?_
          refine x_get C G fX5_116 (wX_at6) rfl dX5_knownLine_38 ?_
          refine lv_iload_n hx hb dX5_knownLine_41 rfl (lv_at hl 1 rfl) ?_
          refine lv_iload_n hx hb dX5_knownLine_42 rfl (lv_at hl 0 rfl) ?_
          obtain ⟨x6, hc, hf⟩ := bd_go hf
          refine xI_V C G (c_Now_find_tf hc) mX4_find kX5_182 (wX_at10) rfl ⟨Nat.le_of_ble_eq_true rfl, Nat.le_of_ble_eq_true rfl⟩ rfl hl.1 rfl (Nat.le_of_ble_eq_true rfl) ⟨Nat.le_refl _, Nat.le_refl _⟩ dX5_knownLine_43 (fun hz H locs G => ?_)
          refine lv_if_lt (tgt := 55) hx hb dX5_knownLine_46 (by decide) (fun h => ?_) (fun h => ?_)
          · have hf := it_t h hf
            exact absurd (Option.some.inj hf) (by decide)
          · have hf := it_f h hf
            exact J _ _ G
      | false =>
        have hf := it_f (by decide) hf
        have J : ∀ (H : Heap) (locs : List Loc), xG s E A (wX E ad x_imageCount x_lastTrouble x_lastFault x_lastPlace pa_names x3.2.1 x3.2.2 rd_tape rd_length rd_end x2.1 x2.2.1 x2.2.2.1 x2.2.2.2.1 x2.2.2.2.2 to_unsurePair to_unsureYears to_triedPair to_seats to_slack to_sawInches to_quarrelChance to_people to_forkBits to_unsure to_tried to_triedFedBits tf_seatOf tf_one tf_other tf_kind tf_years tf_sawn tf_pairs tf_gone bd_unsurePair bd_unsureYears bd_triedPair bd_seats bd_slack bd_sawInches bd_quarrelChance bd_people bd_forkBits bd_unsure bd_tried bd_triedFedBits bf_seatOf bf_one bf_other bf_kind bf_years bf_sawn bf_pairs bf_gone nw_seatOf nw_one nw_other nw_kind nw_years nw_sawn nw_pairs nw_gone sc_seatOf sc_handle sc_both sc_slopOf sc_forkBits sc_canBits sc_bestBits sc_bestSlops sl_bits sl_count se_bestRow se_row se_pairAt se_hope se_hopeAt se_slopAt se_farBits se_gain se_worth se_bestWorth se_fresh ch_both ch_cost ch_bit ch_items ch_leastCost ch_leastBits cl_bits cl_count fi_sets fi_count ps_act ps_whom ps_amount ps_next ps_count i0_seatOf i0_one i0_other i0_kind i0_years i0_sawn i0_pairs i0_gone i1_seatOf i1_one i1_other i1_kind i1_years i1_sawn i1_pairs i1_gone i2_seatOf i2_one i2_other i2_kind i2_years i2_sawn i2_pairs i2_gone) H locs → W p l e (xR 3 70) s m args below meth c H locs 0 0 (MQ below (xqI E A (wX E ad x_imageCount x_lastTrouble x_lastFault x_lastPlace pa_names R0.2.1 R0.2.2.1 rd_tape rd_length rd_end R0.2.2.2.1 R0.2.2.2.2.1 R0.2.2.2.2.2.1 R0.2.2.2.2.2.2.1 R0.2.2.2.2.2.2.2.1 to_unsurePair to_unsureYears to_triedPair to_seats to_slack to_sawInches to_quarrelChance to_people to_forkBits to_unsure to_tried to_triedFedBits tf_seatOf R0.2.2.2.2.2.2.2.2.1 R0.2.2.2.2.2.2.2.2.2.1 R0.2.2.2.2.2.2.2.2.2.2.1 R0.2.2.2.2.2.2.2.2.2.2.2.1 R0.2.2.2.2.2.2.2.2.2.2.2.2.1 R0.2.2.2.2.2.2.2.2.2.2.2.2.2 tf_gone bd_unsurePair bd_unsureYears bd_triedPair bd_seats bd_slack bd_sawInches bd_quarrelChance bd_people bd_forkBits bd_unsure bd_tried bd_triedFedBits bf_seatOf bf_one bf_other bf_kind bf_years bf_sawn bf_pairs bf_gone nw_seatOf nw_one nw_other nw_kind nw_years nw_sawn nw_pairs nw_gone sc_seatOf sc_handle sc_both sc_slopOf sc_forkBits sc_canBits sc_bestBits sc_bestSlops sl_bits sl_count se_bestRow se_row se_pairAt se_hope se_hopeAt se_slopAt se_farBits se_gain se_worth se_bestWorth se_fresh ch_both ch_cost ch_bit ch_items ch_leastCost ch_leastBits cl_bits cl_count fi_sets fi_count ps_act ps_whom ps_amount ps_next ps_count i0_seatOf i0_one i0_other i0_kind i0_years i0_sawn i0_pairs i0_gone i1_seatOf i1_one i1_other i1_kind i1_years i1_sawn i1_pairs i1_gone i2_seatOf i2_one i2_other i2_kind i2_years i2_sawn i2_pairs i2_gone) (some .boolean) R0.1) args s 0 0 A) (F0 m 55 ls []) := by
          intro H locs G
          refine lv_aload_n hx hb dX5_knownLine_55 rfl (lv_at hl 2 rfl) ?_
          refine x_get C G fX5_12 (wX_at2) rfl dX5_knownLine_56 ?_
          obtain ⟨x7, hc, hf⟩ := bd_go hf
          refine xV_V C G (c_Reader_step_rd hc) mX7_step kX5_57 (wX_at4) rfl ⟨Nat.le_of_ble_eq_true rfl, Nat.le_of_ble_eq_true rfl⟩ rfl hl.1 rfl (Nat.le_of_ble_eq_true rfl) ⟨Nat.le_refl _, Nat.le_refl _⟩ dX5_knownLine_59 (fun H locs G => ?_)
          refine lv_aload_n hx hb dX5_knownLine_62 rfl (lv_at hl 2 rfl) ?_
          refine lv_ldc2 hx hb C.2.2.2.1 (C.2.2.2.2.1 _ qX5_186) dX5_knownLine_63 ?_
          refine lv_iconst (v := 0) hx hb dX5_knownLine_66 (by decide) ?_
          refine lv_bipush (v := 99) hx hb dX5_knownLine_67 (by decide) ?_
          obtain ⟨x8, hc, hf⟩ := bd_go hf
          refine xI_V C G (c_Parser_amount_pa hc) mX5_amount kX5_133 (wX_at2) rfl ⟨Nat.le_of_ble_eq_true rfl, Nat.le_of_ble_eq_true rfl⟩ rfl hl.1 rfl (Nat.le_of_ble_eq_true rfl) ⟨Nat.le_refl _, Nat.le_refl _⟩ dX5_knownLine_69 (fun hz H locs G => ?_)
          refine lv_istore_n (lv' := [(3, .int x8.1), (2, .int x3.1), (1, .int x1.1), (0, .ref (ad 2))]) hx hb dX5_knownLine_72 rfl hl (by decide) rfl (fun ls hl => ?_)
          refine lv_iload_n hx hb dX5_knownLine_73 rfl (lv_at hl 0 rfl) ?_
          refine lv_if_ge (tgt := 79) hx hb dX5_knownLine_74 (by decide) (fun h => ?_) (fun h => ?_)
          · have hf := it_t h hf
            refine lv_aload_n hx hb dX5_knownLine_79 rfl (lv_at hl 3 rfl) ?_
            obtain ⟨x9, hc, hf⟩ := bd_go hf
            refine xI_V C G (c_Parser_kindOfWord_pa hc) mX5_kindOfWord kX5_188 (wX_at2) rfl ⟨Nat.le_of_ble_eq_true rfl, Nat.le_of_ble_eq_true rfl⟩ rfl hl.1 rfl (Nat.le_of_ble_eq_true rfl) ⟨Nat.le_refl _, Nat.le_refl _⟩ dX5_knownLine_80 (fun hz H locs G => ?_)
            refine lv_istore (lv' := [(4, .int x9), (3, .int x8.1), (2, .int x3.1), (1, .int x1.1), (0, .ref (ad 2))]) hx hb dX5_knownLine_83 hl (by decide) rfl (fun ls hl => ?_)
            refine lv_iload hx hb dX5_knownLine_85 (lv_at hl 0 rfl) ?_
            refine lv_if_ge (tgt := 96) hx hb dX5_knownLine_87 (by decide) (fun h => ?_) (fun h => ?_)
            · have hf := it_t h hf
              refine lv_aload_n hx hb dX5_knownLine_96 rfl (lv_at hl 4 rfl) ?_
              refine x_get C G fX5_21 (wX_at2) rfl dX5_knownLine_97 ?_
              refine x_get C G fX5_116 (wX_at6) rfl dX5_knownLine_100 ?_
              refine lv_iload_n hx hb dX5_knownLine_103 rfl (lv_at hl 3 rfl) ?_
              refine lv_iload_n hx hb dX5_knownLine_104 rfl (lv_at hl 2 rfl) ?_
              refine lv_iload_n hx hb dX5_knownLine_105 rfl (lv_at hl 1 rfl) ?_
              refine lv_iload hx hb dX5_knownLine_106 (lv_at hl 0 rfl) ?_
              obtain ⟨x10, hc, hf⟩ := bd_go hf
              refine xV_V C G (c_Now_addPair_tf hc) mX4_addPair kX5_191 (wX_at10) rfl ⟨Nat.le_of_ble_eq_true rfl, Nat.le_of_ble_eq_true rfl⟩ rfl hl.1 rfl (Nat.le_of_ble_eq_true rfl) ⟨Nat.le_refl _, Nat.le_refl _⟩ dX5_knownLine_108 (fun H locs G => ?_)
              refine lv_aload_n hx hb dX5_knownLine_111 rfl (lv_at hl 4 rfl) ?_
              refine x_get C G fX5_12 (wX_at2) rfl dX5_knownLine_112 ?_
              obtain ⟨x11, hc, hf⟩ := bd_go hf
              refine xV_V C G (c_Reader_step_rd hc) mX7_step kX5_57 (wX_at4) rfl ⟨Nat.le_of_ble_eq_true rfl, Nat.le_of_ble_eq_true rfl⟩ rfl hl.1 rfl (Nat.le_of_ble_eq_true rfl) ⟨Nat.le_refl _, Nat.le_refl _⟩ dX5_knownLine_115 (fun H locs G => ?_)
              refine lv_iconst (v := 1) hx hb dX5_knownLine_118 (by decide) ?_
              obtain rfl := Option.some.inj hf
              exact xI_ret (r := (1 : Int32)) C G rfl dX5_knownLine_119
            · have hf := it_f h hf
              refine lv_aload_n hx hb dX5_knownLine_90 rfl (lv_at hl 4 rfl) ?_
              refine lv_iconst (v := 1) hx hb dX5_knownLine_91 (by decide) ?_
              obtain ⟨x12, hc, hf⟩ := bd_go hf
              refine xI_V C G (c_Parser_wrong_pa hc) mX5_wrong kX5_53 (wX_at2) rfl ⟨Nat.le_of_ble_eq_true rfl, Nat.le_of_ble_eq_true rfl⟩ rfl hl.1 rfl (Nat.le_of_ble_eq_true rfl) ⟨Nat.le_refl _, Nat.le_refl _⟩ dX5_knownLine_92 (fun hz12 H locs G => ?_)
              obtain rfl := Option.some.inj hf
              exact xI_ret (r := x12.1) C G (hz12 _ rfl) dX5_knownLine_95
          · have hf := it_f h hf
            refine lv_iconst (v := 0) hx hb dX5_knownLine_77 (by decide) ?_
            obtain rfl := Option.some.inj hf
            exact xI_ret (r := (0 : Int32)) C G rfl dX5_knownLine_78
        have hf := hr
        clear hr
        refine lv_icmp_eq (tgt := 49) hx hb dX5_knownLine_31 (by decide) (fun h => ?_) (fun h => ?_)
        · have hf := it_t h hf
          exact absurd (Option.some.inj hf) (by decide)
        · have hf := it_f h hf
          refine lv_aload_n hx hb dX5_knownLine_34 rfl (lv_at hl 2 rfl) ?_
          refine x_get C G fX5_21 (wX_at2) rfl dX5_knownLine_35 ?_
          refine x_get C G fX5_116 (wX_at6) rfl dX5_knownLine_38 ?_
          refine lv_iload_n hx hb dX5_knownLine_41 rfl (lv_at hl 1 rfl) ?_
          refine lv_iload_n hx hb dX5_knownLine_42 rfl (lv_at hl 0 rfl) ?_
          obtain ⟨x13, hc, hf⟩ := bd_go hf
          refine xI_V C G (c_Now_find_tf hc) mX4_find kX5_182 (wX_at10) rfl ⟨Nat.le_of_ble_eq_true rfl, Nat.le_of_ble_eq_true rfl⟩ rfl hl.1 rfl (Nat.le_of_ble_eq_true rfl) ⟨Nat.le_refl _, Nat.le_refl _⟩ dX5_knownLine_43 (fun hz H locs G => ?_)
          refine lv_if_lt (tgt := 55) hx hb dX5_knownLine_46 (by decide) (fun h => ?_) (fun h => ?_)
          · have hf := it_t h hf
            exact J _ _ G
          · have hf := it_f h hf
            exact absurd (Option.some.inj hf) (by decide)
    · have hf := it_f h hf
      refine lv_iconst (v := 0) hx hb dX5_knownLine_27 (by decide) ?_
      obtain rfl := Option.some.inj hf
      exact xI_ret (r := (0 : Int32)) C G rfl dX5_knownLine_28
  · have hf := it_f h hf
    refine lv_iconst (v := 0) hx hb dX5_knownLine_9 (by decide) ?_
    obtain rfl := Option.some.inj hf
    exact xI_ret (r := (0 : Int32)) C G rfl dX5_knownLine_10
set_option maxHeartbeats 4000000 in
set_option maxRecDepth 100000 in
theorem w_Parser_pairTold_pa_to_unsurePair_L62 {p : Program} {l : Launch} {e : Env} {s : State} {m : MethodId} {args : Array Value} {below : List Frame} {meth : Method} {c : Code} {A : Nat → Prop} {E : xE} {ad : Nat → Nat} {x_imageCount x_lastTrouble x_lastFault x_lastPlace pa_faultNumber pa_faultPlace rd_length rd_end rd_next rd_sort rd_start rd_value to_seats to_slack to_sawInches to_quarrelChance to_people to_forkBits to_unsure to_tried to_triedFedBits tf_pairs tf_gone bd_seats bd_slack bd_sawInches bd_quarrelChance bd_people bd_forkBits bd_unsure bd_tried bd_triedFedBits bf_pairs bf_gone nw_pairs nw_gone sc_forkBits sc_canBits sc_bestBits sc_bestSlops sl_count se_bestWorth se_fresh ch_items ch_leastCost ch_leastBits cl_count fi_count ps_next ps_count i0_pairs i0_gone i1_pairs i1_gone i2_pairs i2_gone : Int32} {pa_names : Nat → Int64} {rd_tape to_unsurePair to_unsureYears to_triedPair tf_seatOf tf_one tf_other tf_kind tf_years tf_sawn bd_unsurePair bd_unsureYears bd_triedPair bf_seatOf bf_one bf_other bf_kind bf_years bf_sawn nw_seatOf nw_one nw_other nw_kind nw_years nw_sawn sc_seatOf sc_handle sc_both sc_slopOf sl_bits se_bestRow se_row se_pairAt se_hope se_hopeAt se_slopAt se_farBits se_gain se_worth ch_both ch_cost ch_bit cl_bits fi_sets ps_act ps_whom ps_amount i0_seatOf i0_one i0_other i0_kind i0_years i0_sawn i1_seatOf i1_one i1_other i1_kind i1_years i1_sawn i2_seatOf i2_one i2_other i2_kind i2_years i2_sawn : Nat → Int32} {rd_word : Int64} {l2 : Int32} {l5 : Int32} {o : (Int32 × Int32 × Int32 × Int32 × Int32 × Int32 × Int32 × Int64) ⊕ (Int32 × Int32)} {R0 : Int32 × Int32 × Int32 × Int32 × Int32 × Int32 × Int32 × Int64} (C : xC p s m args meth c cX5_pairTold 7 RX5 E A (some .int)) (Jr : ∀ r, o = .inl r → r = R0) (J : ∀ t, o = .inr t → ∀ (H : Heap) (locs : List Loc) (ls : Array Slot), xG s E A (wX E ad x_imageCount x_lastTrouble x_lastFault x_lastPlace pa_names t.1 t.2 rd_tape rd_length rd_end rd_next rd_sort rd_start rd_value rd_word to_unsurePair to_unsureYears to_triedPair to_seats to_slack to_sawInches to_quarrelChance to_people to_forkBits to_unsure to_tried to_triedFedBits tf_seatOf tf_one tf_other tf_kind tf_years tf_sawn tf_pairs tf_gone bd_unsurePair bd_unsureYears bd_triedPair bd_seats bd_slack bd_sawInches bd_quarrelChance bd_people bd_forkBits bd_unsure bd_tried bd_triedFedBits bf_seatOf bf_one bf_other bf_kind bf_years bf_sawn bf_pairs bf_gone nw_seatOf nw_one nw_other nw_kind nw_years nw_sawn nw_pairs nw_gone sc_seatOf sc_handle sc_both sc_slopOf sc_forkBits sc_canBits sc_bestBits sc_bestSlops sl_bits sl_count se_bestRow se_row se_pairAt se_hope se_hopeAt se_slopAt se_farBits se_gain se_worth se_bestWorth se_fresh ch_both ch_cost ch_bit ch_items ch_leastCost ch_leastBits cl_bits cl_count fi_sets fi_count ps_act ps_whom ps_amount ps_next ps_count i0_seatOf i0_one i0_other i0_kind i0_years i0_sawn i0_pairs i0_gone i1_seatOf i1_one i1_other i1_kind i1_years i1_sawn i1_pairs i1_gone i2_seatOf i2_one i2_other i2_kind i2_years i2_sawn i2_pairs i2_gone) H locs → lv_has ls 7 [(0, .ref (ad 2)), (5, .int l5)] → W p l e (xR 2 45) s m args below meth c H locs 0 0 (MQ below (xqI E A (wX E ad x_imageCount x_lastTrouble x_lastFault x_lastPlace pa_names R0.2.1 R0.2.2.1 rd_tape rd_length rd_end R0.2.2.2.1 R0.2.2.2.2.1 R0.2.2.2.2.2.1 R0.2.2.2.2.2.2.1 R0.2.2.2.2.2.2.2 to_unsurePair to_unsureYears to_triedPair to_seats to_slack to_sawInches to_quarrelChance to_people to_forkBits to_unsure to_tried to_triedFedBits tf_seatOf tf_one tf_other tf_kind tf_years tf_sawn tf_pairs tf_gone bd_unsurePair bd_unsureYears bd_triedPair bd_seats bd_slack bd_sawInches bd_quarrelChance bd_people bd_forkBits bd_unsure bd_tried bd_triedFedBits bf_seatOf bf_one bf_other bf_kind bf_years bf_sawn bf_pairs bf_gone nw_seatOf nw_one nw_other nw_kind nw_years nw_sawn nw_pairs nw_gone sc_seatOf sc_handle sc_both sc_slopOf sc_forkBits sc_canBits sc_bestBits sc_bestSlops sl_bits sl_count se_bestRow se_row se_pairAt se_hope se_hopeAt se_slopAt se_farBits se_gain se_worth se_bestWorth se_fresh ch_both ch_cost ch_bit ch_items ch_leastCost ch_leastBits cl_bits cl_count fi_sets fi_count ps_act ps_whom ps_amount ps_next ps_count i0_seatOf i0_one i0_other i0_kind i0_years i0_sawn i0_pairs i0_gone i1_seatOf i1_one i1_other i1_kind i1_years i1_sawn i1_pairs i1_gone i2_seatOf i2_one i2_other i2_kind i2_years i2_sawn i2_pairs i2_gone) (some .int) R0.1) args s 0 0 A) (F0 m 91 ls [])) :
    ∀ (n : Nat) (l6 : Int32) (H : Heap) (locs : List Loc) (ls : Array Slot), xG s E A (wX E ad x_imageCount x_lastTrouble x_lastFault x_lastPlace pa_names pa_faultNumber pa_faultPlace rd_tape rd_length rd_end rd_next rd_sort rd_start rd_value rd_word to_unsurePair to_unsureYears to_triedPair to_seats to_slack to_sawInches to_quarrelChance to_people to_forkBits to_unsure to_tried to_triedFedBits tf_seatOf tf_one tf_other tf_kind tf_years tf_sawn tf_pairs tf_gone bd_unsurePair bd_unsureYears bd_triedPair bd_seats bd_slack bd_sawInches bd_quarrelChance bd_people bd_forkBits bd_unsure bd_tried bd_triedFedBits bf_seatOf bf_one bf_other bf_kind bf_years bf_sawn bf_pairs bf_gone nw_seatOf nw_one nw_other nw_kind nw_years nw_sawn nw_pairs nw_gone sc_seatOf sc_handle sc_both sc_slopOf sc_forkBits sc_canBits sc_bestBits sc_bestSlops sl_bits sl_count se_bestRow se_row se_pairAt se_hope se_hopeAt se_slopAt se_farBits se_gain se_worth se_bestWorth se_fresh ch_both ch_cost ch_bit ch_items ch_leastCost ch_leastBits cl_bits cl_count fi_sets fi_count ps_act ps_whom ps_amount ps_next ps_count i0_seatOf i0_one i0_other i0_kind i0_years i0_sawn i0_pairs i0_gone i1_seatOf i1_one i1_other i1_kind i1_years i1_sawn i1_pairs i1_gone i2_seatOf i2_one i2_other i2_kind i2_years i2_sawn i2_pairs i2_gone) H locs → lv_has ls 7 [(0, .ref (ad 2)), (1, .ref (ad 7)), (2, .int l2), (5, .int l5), (6, .int l6)] → f_Parser_pairTold_L62 l2 l5 pa_faultNumber pa_faultPlace rd_next rd_sort rd_start rd_value rd_word to_unsurePair n l6 = some o → W p l e (xR 2 45) s m args below meth c H locs 0 0 (MQ below (xqI E A (wX E ad x_imageCount x_lastTrouble x_lastFault x_lastPlace pa_names R0.2.1 R0.2.2.1 rd_tape rd_length rd_end R0.2.2.2.1 R0.2.2.2.2.1 R0.2.2.2.2.2.1 R0.2.2.2.2.2.2.1 R0.2.2.2.2.2.2.2 to_unsurePair to_unsureYears to_triedPair to_seats to_slack to_sawInches to_quarrelChance to_people to_forkBits to_unsure to_tried to_triedFedBits tf_seatOf tf_one tf_other tf_kind tf_years tf_sawn tf_pairs tf_gone bd_unsurePair bd_unsureYears bd_triedPair bd_seats bd_slack bd_sawInches bd_quarrelChance bd_people bd_forkBits bd_unsure bd_tried bd_triedFedBits bf_seatOf bf_one bf_other bf_kind bf_years bf_sawn bf_pairs bf_gone nw_seatOf nw_one nw_other nw_kind nw_years nw_sawn nw_pairs nw_gone sc_seatOf sc_handle sc_both sc_slopOf sc_forkBits sc_canBits sc_bestBits sc_bestSlops sl_bits sl_count se_bestRow se_row se_pairAt se_hope se_hopeAt se_slopAt se_farBits se_gain se_worth se_bestWorth se_fresh ch_both ch_cost ch_bit ch_items ch_leastCost ch_leastBits cl_bits cl_count fi_sets fi_count ps_act ps_whom ps_amount ps_next ps_count i0_seatOf i0_one i0_other i0_kind i0_years i0_sawn i0_pairs i0_gone i1_seatOf i1_one i1_other i1_kind i1_years i1_sawn i1_pairs i1_gone i2_seatOf i2_one i2_other i2_kind i2_years i2_sawn i2_pairs i2_gone) (some .int) R0.1) args s 0 0 A) (F0 m 62 ls []) := by
  have hx := C.1
  have hb := C.2.1
  intro n
  induction n with
  | zero =>
    intro l6 H locs ls G hl hf
    exact nomatch (show (none : Option ((Int32 × Int32 × Int32 × Int32 × Int32 × Int32 × Int32 × Int64) ⊕ (Int32 × Int32))) = some o from hf)
  | succ n ih =>
    intro l6 H locs ls G hl hf
    rw [f_Parser_pairTold_L62] at hf
    refine lv_iload hx hb dX5_pairTold_62 (lv_at hl 4 rfl) ?_
    refine lv_iload_n hx hb dX5_pairTold_64 rfl (lv_at hl 2 rfl) ?_
    refine lv_icmp_ge (tgt := 91) hx hb dX5_pairTold_65 (by decide) (fun h => ?_) (fun h => ?_)
    · have hf := it_t h hf
      exact J _ (Option.some.inj hf).symm _ _ _ G (lv_sub hl [0, 3] rfl)
    · have hf := it_f h hf
      refine lv_aload_n hx hb dX5_pairTold_68 rfl (lv_at hl 1 rfl) ?_
      refine lv_iload hx hb dX5_pairTold_69 (lv_at hl 4 rfl) ?_
      have hi := ck_in hf
      have hf := ck_go hf
      refine x_iald C G (wX_at7) hi dX5_pairTold_71 ?_
      refine lv_iload hx hb dX5_pairTold_72 (lv_at hl 3 rfl) ?_
      refine lv_icmp_ne (tgt := 85) hx hb dX5_pairTold_74 (by decide) (fun h => ?_) (fun h => ?_)
      · have hf := it_f h hf
        obtain ⟨x5, ex5⟩ : ∃ z : Int32, z = l6 + (1 : Int32) := ⟨_, rfl⟩
        have hf := lt_go ex5 hf
        refine lv_iinc (v := x5) (lv' := [(6, .int x5), (0, .ref (ad 2)), (1, .ref (ad 7)), (2, .int l2), (5, .int l5)]) hx hb dX5_pairTold_85 hl (k := 4) rfl (by rw [ex5]; rfl) (by decide) rfl (fun ls hl => ?_)
        refine lv_goto (tgt := 62) hx hb dX5_pairTold_88 (by decide) ?_
        exact ih x5 _ _ _ G (lv_sub hl [1, 2, 3, 4, 0] rfl) hf
      · have hf := it_t h hf
        refine lv_aload_n hx hb dX5_pairTold_77 rfl (lv_at hl 0 rfl) ?_
        refine lv_iconst (v := 3) hx hb dX5_pairTold_78 (by decide) ?_
        obtain ⟨x6, hc, hf⟩ := bd_go hf
        refine xI_V C G (c_Parser_wrong_pa hc) mX5_wrong kX5_53 (wX_at2) rfl ⟨Nat.le_of_ble_eq_true rfl, Nat.le_of_ble_eq_true rfl⟩ rfl hl.1 rfl (Nat.le_of_ble_eq_true rfl) ⟨Nat.le_refl _, Nat.le_refl _⟩ dX5_pairTold_79 (fun hz6 H locs G => ?_)
        refine lv_pop hx hb dX5_pairTold_82 rfl ?_
        refine lv_iconst (v := -1) hx hb dX5_pairTold_83 (by decide) ?_
        obtain rfl := Jr _ (Option.some.inj hf).symm
        exact xI_ret C G rfl dX5_pairTold_84
set_option maxHeartbeats 4000000 in
set_option maxRecDepth 100000 in
theorem c_Parser_pairTold_pa_to_unsurePair {l : Launch} {E : xE} {ad : Nat → Nat} {x_imageCount x_lastTrouble x_lastFault x_lastPlace pa_faultNumber pa_faultPlace rd_length rd_end rd_next rd_sort rd_start rd_value to_seats to_slack to_sawInches to_quarrelChance to_people to_forkBits to_unsure to_tried to_triedFedBits tf_pairs tf_gone bd_seats bd_slack bd_sawInches bd_quarrelChance bd_people bd_forkBits bd_unsure bd_tried bd_triedFedBits bf_pairs bf_gone nw_pairs nw_gone sc_forkBits sc_canBits sc_bestBits sc_bestSlops sl_count se_bestWorth se_fresh ch_items ch_leastCost ch_leastBits cl_count fi_count ps_next ps_count i0_pairs i0_gone i1_pairs i1_gone i2_pairs i2_gone : Int32} {pa_names : Nat → Int64} {rd_tape to_unsurePair to_unsureYears to_triedPair tf_seatOf tf_one tf_other tf_kind tf_years tf_sawn bd_unsurePair bd_unsureYears bd_triedPair bf_seatOf bf_one bf_other bf_kind bf_years bf_sawn nw_seatOf nw_one nw_other nw_kind nw_years nw_sawn sc_seatOf sc_handle sc_both sc_slopOf sl_bits se_bestRow se_row se_pairAt se_hope se_hopeAt se_slopAt se_farBits se_gain se_worth ch_both ch_cost ch_bit cl_bits fi_sets ps_act ps_whom ps_amount i0_seatOf i0_one i0_other i0_kind i0_years i0_sawn i1_seatOf i1_one i1_other i1_kind i1_years i1_sawn i2_seatOf i2_one i2_other i2_kind i2_years i2_sawn : Nat → Int32} {rd_word : Int64} {l2 : Int32} {R0 : Int32 × Int32 × Int32 × Int32 × Int32 × Int32 × Int32 × Int64} (hf : f_Parser_pairTold l2 pa_names pa_faultNumber pa_faultPlace rd_tape rd_end rd_next rd_sort rd_start rd_value rd_word to_unsurePair to_people tf_one tf_other tf_pairs = some R0) : xI l E yX5_pairTold cX5_pairTold 7 (some .int) 2 45 [.ref (ad 2), .ref (ad 7), .int l2] (wX E ad x_imageCount x_lastTrouble x_lastFault x_lastPlace pa_names pa_faultNumber pa_faultPlace rd_tape rd_length rd_end rd_next rd_sort rd_start rd_value rd_word to_unsurePair to_unsureYears to_triedPair to_seats to_slack to_sawInches to_quarrelChance to_people to_forkBits to_unsure to_tried to_triedFedBits tf_seatOf tf_one tf_other tf_kind tf_years tf_sawn tf_pairs tf_gone bd_unsurePair bd_unsureYears bd_triedPair bd_seats bd_slack bd_sawInches bd_quarrelChance bd_people bd_forkBits bd_unsure bd_tried bd_triedFedBits bf_seatOf bf_one bf_other bf_kind bf_years bf_sawn bf_pairs bf_gone nw_seatOf nw_one nw_other nw_kind nw_years nw_sawn nw_pairs nw_gone sc_seatOf sc_handle sc_both sc_slopOf sc_forkBits sc_canBits sc_bestBits sc_bestSlops sl_bits sl_count se_bestRow se_row se_pairAt se_hope se_hopeAt se_slopAt se_farBits se_gain se_worth se_bestWorth se_fresh ch_both ch_cost ch_bit ch_items ch_leastCost ch_leastBits cl_bits cl_count fi_sets fi_count ps_act ps_whom ps_amount ps_next ps_count i0_seatOf i0_one i0_other i0_kind i0_years i0_sawn i0_pairs i0_gone i1_seatOf i1_one i1_other i1_kind i1_years i1_sawn i1_pairs i1_gone i2_seatOf i2_one i2_other i2_kind i2_years i2_sawn i2_pairs i2_gone) (wX E ad x_imageCount x_lastTrouble x_lastFault x_lastPlace pa_names R0.2.1 R0.2.2.1 rd_tape rd_length rd_end R0.2.2.2.1 R0.2.2.2.2.1 R0.2.2.2.2.2.1 R0.2.2.2.2.2.2.1 R0.2.2.2.2.2.2.2 to_unsurePair to_unsureYears to_triedPair to_seats to_slack to_sawInches to_quarrelChance to_people to_forkBits to_unsure to_tried to_triedFedBits tf_seatOf tf_one tf_other tf_kind tf_years tf_sawn tf_pairs tf_gone bd_unsurePair bd_unsureYears bd_triedPair bd_seats bd_slack bd_sawInches bd_quarrelChance bd_people bd_forkBits bd_unsure bd_tried bd_triedFedBits bf_seatOf bf_one bf_other bf_kind bf_years bf_sawn bf_pairs bf_gone nw_seatOf nw_one nw_other nw_kind nw_years nw_sawn nw_pairs nw_gone sc_seatOf sc_handle sc_both sc_slopOf sc_forkBits sc_canBits sc_bestBits sc_bestSlops sl_bits sl_count se_bestRow se_row se_pairAt se_hope se_hopeAt se_slopAt se_farBits se_gain se_worth se_bestWorth se_fresh ch_both ch_cost ch_bit ch_items ch_leastCost ch_leastBits cl_bits cl_count fi_sets fi_count ps_act ps_whom ps_amount ps_next ps_count i0_seatOf i0_one i0_other i0_kind i0_years i0_sawn i0_pairs i0_gone i1_seatOf i1_one i1_other i1_kind i1_years i1_sawn i1_pairs i1_gone i2_seatOf i2_one i2_other i2_kind i2_years i2_sawn i2_pairs i2_gone) R0.1 := by
  refine xI_of (by decide) (Nat.le_of_ble_eq_true rfl) (fun p e s m args below meth c A C ls hl G => ?_)
  have hx := C.1
  have hb := C.2.1
  have hl : lv_has ls 7 [(0, .ref (ad 2)), (1, .ref (ad 7)), (2, .int l2)] := hl
  unfold f_Parser_pairTold at hf
  refine lv_aload_n hx hb dX5_pairTold_0 rfl (lv_at hl 0 rfl) ?_
  obtain ⟨x1, hc, hf⟩ := bd_go hf
  refine xI_V C G (c_Parser_personTold_pa hc) mX5_personTold kX5_179 (wX_at2) rfl ⟨Nat.le_of_ble_eq_true rfl, Nat.le_of_ble_eq_true rfl⟩ rfl hl.1 rfl (Nat.le_of_ble_eq_true rfl) ⟨Nat.le_refl _, Nat.le_refl _⟩ dX5_pairTold_1 (fun hz H locs G => ?_)
  refine lv_istore_n (lv' := [(3, .int x1.1), (0, .ref (ad 2)), (1, .ref (ad 7)), (2, .int l2)]) hx hb dX5_pairTold_4 rfl hl (by decide) rfl (fun ls hl => ?_)
  refine lv_iload_n hx hb dX5_pairTold_5 rfl (lv_at hl 0 rfl) ?_
  refine lv_if_ge (tgt := 11) hx hb dX5_pairTold_6 (by decide) (fun h => ?_) (fun h => ?_)
  · have hf := it_t h hf
    refine lv_aload_n hx hb dX5_pairTold_11 rfl (lv_at hl 1 rfl) ?_
    refine x_get C G fX5_12 (wX_at2) rfl dX5_pairTold_12 ?_
    obtain ⟨x2, hc, hf⟩ := bd_go hf
    refine xV_V C G (c_Reader_step_rd hc) mX7_step kX5_57 (wX_at4) rfl ⟨Nat.le_of_ble_eq_true rfl, Nat.le_of_ble_eq_true rfl⟩ rfl hl.1 rfl (Nat.le_of_ble_eq_true rfl) ⟨Nat.le_refl _, Nat.le_refl _⟩ dX5_pairTold_15 (fun H locs G => ?_)
    refine lv_aload_n hx hb dX5_pairTold_18 rfl (lv_at hl 1 rfl) ?_
    obtain ⟨x3, hc, hf⟩ := bd_go hf
    refine xI_V C G (c_Parser_personTold_pa hc) mX5_personTold kX5_179 (wX_at2) rfl ⟨Nat.le_of_ble_eq_true rfl, Nat.le_of_ble_eq_true rfl⟩ rfl hl.1 rfl (Nat.le_of_ble_eq_true rfl) ⟨Nat.le_refl _, Nat.le_refl _⟩ dX5_pairTold_19 (fun hz H locs G => ?_)
    refine lv_istore (lv' := [(4, .int x3.1), (3, .int x1.1), (0, .ref (ad 2)), (1, .ref (ad 7)), (2, .int l2)]) hx hb dX5_pairTold_22 hl (by decide) rfl (fun ls hl => ?_)
    refine lv_iload hx hb dX5_pairTold_24 (lv_at hl 0 rfl) ?_
    refine lv_if_ge (tgt := 31) hx hb dX5_pairTold_26 (by decide) (fun h => ?_) (fun h => ?_)
    · have hf := it_t h hf
      refine lv_aload_n hx hb dX5_pairTold_31 rfl (lv_at hl 2 rfl) ?_
      refine x_get C G fX5_21 (wX_at2) rfl dX5_pairTold_32 ?_
      refine x_get C G fX5_116 (wX_at6) rfl dX5_pairTold_35 ?_
      refine lv_iload_n hx hb dX5_pairTold_38 rfl (lv_at hl 1 rfl) ?_
      refine lv_iload hx hb dX5_pairTold_39 (lv_at hl 0 rfl) ?_
      obtain ⟨x4, hc, hf⟩ := bd_go hf
      refine xI_V C G (c_Now_find_tf hc) mX4_find kX5_182 (wX_at10) rfl ⟨Nat.le_of_ble_eq_true rfl, Nat.le_of_ble_eq_true rfl⟩ rfl hl.1 rfl (Nat.le_of_ble_eq_true rfl) ⟨Nat.le_refl _, Nat.le_refl _⟩ dX5_pairTold_41 (fun hz H locs G => ?_)
      refine lv_istore (lv' := [(5, .int x4), (4, .int x3.1), (3, .int x1.1), (0, .ref (ad 2)), (1, .ref (ad 7)), (2, .int l2)]) hx hb dX5_pairTold_44 hl (by decide) rfl (fun ls hl => ?_)
      refine lv_iload hx hb dX5_pairTold_46 (lv_at hl 0 rfl) ?_
      refine lv_if_ge (tgt := 59) hx hb dX5_pairTold_48 (by decide) (fun h => ?_) (fun h => ?_)
      · have hf := it_t h hf
        refine lv_iconst (v := 0) hx hb dX5_pairTold_59 (by decide) ?_
        refine lv_istore (lv' := [(6, .int (0 : Int32)), (5, .int x4), (4, .int x3.1), (3, .int x1.1), (0, .ref (ad 2)), (1, .ref (ad 7)), (2, .int l2)]) hx hb dX5_pairTold_60 hl (by decide) rfl (fun ls hl => ?_)
        obtain ⟨ox7, hr, hf⟩ := bd_go hf
        have Jx7 : ∀ x7, ox7 = .inr x7 → ∀ (H : Heap) (locs : List Loc) (ls : Array Slot), xG s E A (wX E ad x_imageCount x_lastTrouble x_lastFault x_lastPlace pa_names x7.1 x7.2 rd_tape rd_length rd_end x2.1 x2.2.1 x2.2.2.1 x2.2.2.2.1 x2.2.2.2.2 to_unsurePair to_unsureYears to_triedPair to_seats to_slack to_sawInches to_quarrelChance to_people to_forkBits to_unsure to_tried to_triedFedBits tf_seatOf tf_one tf_other tf_kind tf_years tf_sawn tf_pairs tf_gone bd_unsurePair bd_unsureYears bd_triedPair bd_seats bd_slack bd_sawInches bd_quarrelChance bd_people bd_forkBits bd_unsure bd_tried bd_triedFedBits bf_seatOf bf_one bf_other bf_kind bf_years bf_sawn bf_pairs bf_gone nw_seatOf nw_one nw_other nw_kind nw_years nw_sawn nw_pairs nw_gone sc_seatOf sc_handle sc_both sc_slopOf sc_forkBits sc_canBits sc_bestBits sc_bestSlops sl_bits sl_count se_bestRow se_row se_pairAt se_hope se_hopeAt se_slopAt se_farBits se_gain se_worth se_bestWorth se_fresh ch_both ch_cost ch_bit ch_items ch_leastCost ch_leastBits cl_bits cl_count fi_sets fi_count ps_act ps_whom ps_amount ps_next ps_count i0_seatOf i0_one i0_other i0_kind i0_years i0_sawn i0_pairs i0_gone i1_seatOf i1_one i1_other i1_kind i1_years i1_sawn i1_pairs i1_gone i2_seatOf i2_one i2_other i2_kind i2_years i2_sawn i2_pairs i2_gone) H locs → lv_has ls 7 [(0, .ref (ad 2)), (5, .int x4)] → W p l e (xR 2 45) s m args below meth c H locs 0 0 (MQ below (xqI E A (wX E ad x_imageCount x_lastTrouble x_lastFault x_lastPlace pa_names R0.2.1 R0.2.2.1 rd_tape rd_length rd_end R0.2.2.2.1 R0.2.2.2.2.1 R0.2.2.2.2.2.1 R0.2.2.2.2.2.2.1 R0.2.2.2.2.2.2.2 to_unsurePair to_unsureYears to_triedPair to_seats to_slack to_sawInches to_quarrelChance to_people to_forkBits to_unsure to_tried to_triedFedBits tf_seatOf tf_one tf_other tf_kind tf_years tf_sawn tf_pairs tf_gone bd_unsurePair bd_unsureYears bd_triedPair bd_seats bd_slack bd_sawInches bd_quarrelChance bd_people bd_forkBits bd_unsure bd_tried bd_triedFedBits bf_seatOf bf_one bf_other bf_kind bf_years bf_sawn bf_pairs bf_gone nw_seatOf nw_one nw_other nw_kind nw_years nw_sawn nw_pairs nw_gone sc_seatOf sc_handle sc_both sc_slopOf sc_forkBits sc_canBits sc_bestBits sc_bestSlops sl_bits sl_count se_bestRow se_row se_pairAt se_hope se_hopeAt se_slopAt se_farBits se_gain se_worth se_bestWorth se_fresh ch_both ch_cost ch_bit ch_items ch_leastCost ch_leastBits cl_bits cl_count fi_sets fi_count ps_act ps_whom ps_amount ps_next ps_count i0_seatOf i0_one i0_other i0_kind i0_years i0_sawn i0_pairs i0_gone i1_seatOf i1_one i1_other i1_kind i1_years i1_sawn i1_pairs i1_gone i2_seatOf i2_one i2_other i2_kind i2_years i2_sawn i2_pairs i2_gone) (some .int) R0.1) args s 0 0 A) (F0 m 91 ls []) := by
          intro x7 hq H locs ls G hl
          subst hq
          have hf := sm_r hf
          refine lv_aload_n hx hb dX5_pairTold_91 rfl (lv_at hl 0 rfl) ?_
          refine x_get C G fX5_12 (wX_at2) rfl dX5_pairTold_92 ?_
          obtain ⟨x8, hc, hf⟩ := bd_go hf
          refine xV_V C G (c_Reader_step_rd hc) mX7_step kX5_57 (wX_at4) rfl ⟨Nat.le_of_ble_eq_true rfl, Nat.le_of_ble_eq_true rfl⟩ rfl hl.1 rfl (Nat.le_of_ble_eq_true rfl) ⟨Nat.le_refl _, Nat.le_refl _⟩ dX5_pairTold_95 (fun H locs G => ?_)
          refine lv_iload hx hb dX5_pairTold_98 (lv_at hl 1 rfl) ?_
          obtain rfl := Option.some.inj hf
          exact xI_ret C G rfl dX5_pairTold_100
        have Jrx7 : ∀ r, ox7 = .inl r → r = R0 := by
          intro r hq
          subst hq
          exact Option.some.inj hf
        exact w_Parser_pairTold_pa_to_unsurePair_L62 C Jrx7 Jx7 fu _ _ _ _ G (lv_sub hl [4, 5, 6, 1, 0] rfl) hr
      · have hf := it_f h hf
        refine lv_aload_n hx hb dX5_pairTold_51 rfl (lv_at hl 3 rfl) ?_
        refine lv_iconst (v := 2) hx hb dX5_pairTold_52 (by decide) ?_
        obtain ⟨x9, hc, hf⟩ := bd_go hf
        refine xI_V C G (c_Parser_wrong_pa hc) mX5_wrong kX5_53 (wX_at2) rfl ⟨Nat.le_of_ble_eq_true rfl, Nat.le_of_ble_eq_true rfl⟩ rfl hl.1 rfl (Nat.le_of_ble_eq_true rfl) ⟨Nat.le_refl _, Nat.le_refl _⟩ dX5_pairTold_53 (fun hz9 H locs G => ?_)
        refine lv_pop hx hb dX5_pairTold_56 rfl ?_
        refine lv_iconst (v := -1) hx hb dX5_pairTold_57 (by decide) ?_
        obtain rfl := Option.some.inj hf
        exact xI_ret C G rfl dX5_pairTold_58
    · have hf := it_f h hf
      refine lv_iconst (v := -1) hx hb dX5_pairTold_29 (by decide) ?_
      obtain rfl := Option.some.inj hf
      exact xI_ret C G rfl dX5_pairTold_30
  · have hf := it_f h hf
    refine lv_iconst (v := -1) hx hb dX5_pairTold_9 (by decide) ?_
    obtain rfl := Option.some.inj hf
    exact xI_ret C G rfl dX5_pairTold_10
