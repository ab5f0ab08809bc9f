set_option maxHeartbeats 4000000 in
set_option maxRecDepth 100000 in
theorem w_MatchList_fill_cl_ch_both_L39 {p : Program} {l : Launch} {e : Env} {s : State} {m : MethodId} {args : Array Value} {below : List Frame} {meth : Method} {c : Code} {A : Nat → Prop} {E : xE} {Q : State → Prop} {ad : Nat → Nat} {x_imageCount x_lastTrouble x_lastFault x_lastPlace pa_faultNumber pa_faultPlace rd_length rd_end rd_next rd_sort rd_start rd_value to_seats to_slack to_sawInches to_quarrelChance to_people to_forkBits to_unsure to_tried to_triedFedBits tf_pairs tf_gone bd_seats bd_slack bd_sawInches bd_quarrelChance bd_people bd_forkBits bd_unsure bd_tried bd_triedFedBits bf_pairs bf_gone nw_pairs nw_gone sc_forkBits sc_canBits sc_bestBits sc_bestSlops sl_count se_bestWorth se_fresh ch_items ch_leastCost ch_leastBits fi_count ps_next ps_count i0_pairs i0_gone i1_pairs i1_gone i2_pairs i2_gone : Int32} {pa_names : Nat → Int64} {rd_tape to_unsurePair to_unsureYears to_triedPair tf_seatOf tf_one tf_other tf_kind tf_years tf_sawn bd_unsurePair bd_unsureYears bd_triedPair bf_seatOf bf_one bf_other bf_kind bf_years bf_sawn nw_seatOf nw_one nw_other nw_kind nw_years nw_sawn sc_seatOf sc_handle sc_both sc_slopOf sl_bits se_bestRow se_row se_pairAt se_hope se_hopeAt se_slopAt se_farBits se_gain se_worth ch_both ch_cost ch_bit fi_sets ps_act ps_whom ps_amount i0_seatOf i0_one i0_other i0_kind i0_years i0_sawn i1_seatOf i1_one i1_other i1_kind i1_years i1_sawn i2_seatOf i2_one i2_other i2_kind i2_years i2_sawn : Nat → Int32} {rd_word : Int64} {l1 : Int32} {l3 : Int32} {l4 : Int32} {o : (Nat → Int32) × Int32} (C : xC p s m args meth c cX3_fill 6 RX3 E A none) (J : ∀ (H : Heap) (locs : List Loc) (ls : Array Slot), xG s E A (wX E ad x_imageCount x_lastTrouble x_lastFault x_lastPlace pa_names pa_faultNumber pa_faultPlace rd_tape rd_length rd_end rd_next rd_sort rd_start rd_value rd_word to_unsurePair to_unsureYears to_triedPair to_seats to_slack to_sawInches to_quarrelChance to_people to_forkBits to_unsure to_tried to_triedFedBits tf_seatOf tf_one tf_other tf_kind tf_years tf_sawn tf_pairs tf_gone bd_unsurePair bd_unsureYears bd_triedPair bd_seats bd_slack bd_sawInches bd_quarrelChance bd_people bd_forkBits bd_unsure bd_tried bd_triedFedBits bf_seatOf bf_one bf_other bf_kind bf_years bf_sawn bf_pairs bf_gone nw_seatOf nw_one nw_other nw_kind nw_years nw_sawn nw_pairs nw_gone sc_seatOf sc_handle sc_both sc_slopOf sc_forkBits sc_canBits sc_bestBits sc_bestSlops sl_bits sl_count se_bestRow se_row se_pairAt se_hope se_hopeAt se_slopAt se_farBits se_gain se_worth se_bestWorth se_fresh ch_both ch_cost ch_bit ch_items ch_leastCost ch_leastBits o.1 o.2 fi_sets fi_count ps_act ps_whom ps_amount ps_next ps_count i0_seatOf i0_one i0_other i0_kind i0_years i0_sawn i0_pairs i0_gone i1_seatOf i1_one i1_other i1_kind i1_years i1_sawn i1_pairs i1_gone i2_seatOf i2_one i2_other i2_kind i2_years i2_sawn i2_pairs i2_gone) H locs → lv_has ls 6 [(0, .ref (ad 56)), (1, .int l1), (2, .ref (ad 53)), (3, .int l3), (4, .int l4)] → W p l e (xR 1 21) s m args below meth c H locs 0 0 Q (F0 m 86 ls [])) :
    ∀ (n : Nat) (l5 : Int32) (cl_bits : Nat → Int32) (cl_count : Int32) (H : Heap) (locs : List Loc) (ls : Array Slot), xG s E A (wX E ad x_imageCount x_lastTrouble x_lastFault x_lastPlace pa_names pa_faultNumber pa_faultPlace rd_tape rd_length rd_end rd_next rd_sort rd_start rd_value rd_word to_unsurePair to_unsureYears to_triedPair to_seats to_slack to_sawInches to_quarrelChance to_people to_forkBits to_unsure to_tried to_triedFedBits tf_seatOf tf_one tf_other tf_kind tf_years tf_sawn tf_pairs tf_gone bd_unsurePair bd_unsureYears bd_triedPair bd_seats bd_slack bd_sawInches bd_quarrelChance bd_people bd_forkBits bd_unsure bd_tried bd_triedFedBits bf_seatOf bf_one bf_other bf_kind bf_years bf_sawn bf_pairs bf_gone nw_seatOf nw_one nw_other nw_kind nw_years nw_sawn nw_pairs nw_gone sc_seatOf sc_handle sc_both sc_slopOf sc_forkBits sc_canBits sc_bestBits sc_bestSlops sl_bits sl_count se_bestRow se_row se_pairAt se_hope se_hopeAt se_slopAt se_farBits se_gain se_worth se_bestWorth se_fresh ch_both ch_cost ch_bit ch_items ch_leastCost ch_leastBits cl_bits cl_count fi_sets fi_count ps_act ps_whom ps_amount ps_next ps_count i0_seatOf i0_one i0_other i0_kind i0_years i0_sawn i0_pairs i0_gone i1_seatOf i1_one i1_other i1_kind i1_years i1_sawn i1_pairs i1_gone i2_seatOf i2_one i2_other i2_kind i2_years i2_sawn i2_pairs i2_gone) H locs → lv_has ls 6 [(0, .ref (ad 56)), (1, .int l1), (2, .ref (ad 53)), (3, .int l3), (4, .int l4), (5, .int l5)] → f_MatchList_fill_L39 l1 l4 ch_both n l5 cl_bits cl_count = some o → W p l e (xR 1 21) s m args below meth c H locs 0 0 Q (F0 m 39 ls []) := by
  have hx := C.1
  have hb := C.2.1
  intro n
  induction n with
  | zero =>
    intro l5 cl_bits cl_count H locs ls G hl hf
    exact nomatch (show (none : Option ((Nat → Int32) × Int32)) = some o from hf)
  | succ n ih =>
    intro l5 cl_bits cl_count H locs ls G hl hf
    rw [f_MatchList_fill_L39] at hf
    refine lv_iload hx hb dX3_fill_39 (lv_at hl 5 rfl) ?_
    refine lv_iload hx hb dX3_fill_41 (lv_at hl 4 rfl) ?_
    refine lv_icmp_ge (tgt := 86) hx hb dX3_fill_43 (by decide) (fun h => ?_) (fun h => ?_)
    · have hf := it_t h hf
      obtain rfl := Option.some.inj hf
      exact J _ _ _ G (lv_sub hl [0, 1, 2, 3, 4] rfl)
    · have hf := it_f h hf
      refine lv_iload_n hx hb dX3_fill_46 rfl (lv_at hl 1 rfl) ?_
      refine lv_iload hx hb dX3_fill_47 (lv_at hl 5 rfl) ?_
      obtain ⟨x5, hc, hf⟩ := bd_go hf
      refine xI_S C G (c_X_has_any hc) mX10_has kX3_23 ⟨Nat.le_of_ble_eq_true rfl, Nat.le_of_ble_eq_true rfl⟩ rfl hl.1 rfl (Nat.le_of_ble_eq_true rfl) ⟨Nat.le_refl _, Nat.le_refl _⟩ dX3_fill_49 (fun hz5 H locs G => ?_)
      obtain ⟨b6, hr, hf⟩ := bd_go hf
      cases b6 with
      | true =>
        have hf := it_t rfl hf
        have J : ∀ (H : Heap) (locs : List Loc), xG s E A (wX E ad x_imageCount x_lastTrouble x_lastFault x_lastPlace pa_names pa_faultNumber pa_faultPlace rd_tape rd_length rd_end rd_next rd_sort rd_start rd_value rd_word to_unsurePair to_unsureYears to_triedPair to_seats to_slack to_sawInches to_quarrelChance to_people to_forkBits to_unsure to_tried to_triedFedBits tf_seatOf tf_one tf_other tf_kind tf_years tf_sawn tf_pairs tf_gone bd_unsurePair bd_unsureYears bd_triedPair bd_seats bd_slack bd_sawInches bd_quarrelChance bd_people bd_forkBits bd_unsure bd_tried bd_triedFedBits bf_seatOf bf_one bf_other bf_kind bf_years bf_sawn bf_pairs bf_gone nw_seatOf nw_one nw_other nw_kind nw_years nw_sawn nw_pairs nw_gone sc_seatOf sc_handle sc_both sc_slopOf sc_forkBits sc_canBits sc_bestBits sc_bestSlops sl_bits sl_count se_bestRow se_row se_pairAt se_hope se_hopeAt se_slopAt se_farBits se_gain se_worth se_bestWorth se_fresh ch_both ch_cost ch_bit ch_items ch_leastCost ch_leastBits cl_bits cl_count fi_sets fi_count ps_act ps_whom ps_amount ps_next ps_count i0_seatOf i0_one i0_other i0_kind i0_years i0_sawn i0_pairs i0_gone i1_seatOf i1_one i1_other i1_kind i1_years i1_sawn i1_pairs i1_gone i2_seatOf i2_one i2_other i2_kind i2_years i2_sawn i2_pairs i2_gone) H locs → W p l e (xR 1 21) s m args below meth c H locs 0 0 Q (F0 m 80 ls []) := by
          intro H locs G
          obtain ⟨x7, ex7⟩ : ∃ z : Int32, z = l5 + (1 : Int32) := ⟨_, rfl⟩
          have hf := lt_go ex7 hf
          refine lv_iinc (v := x7) (lv' := [(5, .int x7), (0, .ref (ad 56)), (1, .int l1), (2, .ref (ad 53)), (3, .int l3), (4, .int l4)]) hx hb dX3_fill_80 hl (k := 5) rfl (by rw [ex7]; rfl) (by decide) rfl (fun ls hl => ?_)
          refine lv_goto (tgt := 39) hx hb dX3_fill_83 (by decide) ?_
          exact ih x7 cl_bits cl_count _ _ _ G (lv_sub hl [1, 2, 3, 4, 5, 0] rfl) hf
        have hf := hr
        clear hr
        refine lv_if_eq (tgt := 80) hx hb dX3_fill_52 (by decide) (fun h => ?_) (fun h => ?_)
        · have hf := it_t h hf
          exact J _ _ G
        · have hf := it_f h hf
          refine lv_aload_n hx hb dX3_fill_55 rfl (lv_at hl 2 rfl) ?_
          refine lv_iload hx hb dX3_fill_56 (lv_at hl 5 rfl) ?_
          have hi := ck_in hf
          have hf := ck_go hf
          refine x_iald C G (wX_at53) hi dX3_fill_58 ?_
          refine lv_aload_n hx hb dX3_fill_59 rfl (lv_at hl 2 rfl) ?_
          refine lv_iload hx hb dX3_fill_60 (lv_at hl 4 rfl) ?_
          have hi := ck_in hf
          have hf := ck_go hf
          refine x_iald C G (wX_at53) hi dX3_fill_62 ?_
          refine lv_iand hx hb dX3_fill_63 ?_
          refine lv_if_ne (tgt := 80) hx hb dX3_fill_64 (by decide) (fun h => ?_) (fun h => ?_)
          · have hf := it_f h hf
            exact J _ _ G
          · have hf := it_t h hf
            exact absurd (Option.some.inj hf) (by decide)
      | false =>
        have hf := it_f (by decide) hf
        have J : ∀ (H : Heap) (locs : List Loc), xG s E A (wX E ad x_imageCount x_lastTrouble x_lastFault x_lastPlace pa_names pa_faultNumber pa_faultPlace rd_tape rd_length rd_end rd_next rd_sort rd_start rd_value rd_word to_unsurePair to_unsureYears to_triedPair to_seats to_slack to_sawInches to_quarrelChance to_people to_forkBits to_unsure to_tried to_triedFedBits tf_seatOf tf_one tf_other tf_kind tf_years tf_sawn tf_pairs tf_gone bd_unsurePair bd_unsureYears bd_triedPair bd_seats bd_slack bd_sawInches bd_quarrelChance bd_people bd_forkBits bd_unsure bd_tried bd_triedFedBits bf_seatOf bf_one bf_other bf_kind bf_years bf_sawn bf_pairs bf_gone nw_seatOf nw_one nw_other nw_kind nw_years nw_sawn nw_pairs nw_gone sc_seatOf sc_handle sc_both sc_slopOf sc_forkBits sc_canBits sc_bestBits sc_bestSlops sl_bits sl_count se_bestRow se_row se_pairAt se_hope se_hopeAt se_slopAt se_farBits se_gain se_worth se_bestWorth se_fresh ch_both ch_cost ch_bit ch_items ch_leastCost ch_leastBits cl_bits cl_count fi_sets fi_count ps_act ps_whom ps_amount ps_next ps_count i0_seatOf i0_one i0_other i0_kind i0_years i0_sawn i0_pairs i0_gone i1_seatOf i1_one i1_other i1_kind i1_years i1_sawn i1_pairs i1_gone i2_seatOf i2_one i2_other i2_kind i2_years i2_sawn i2_pairs i2_gone) H locs → W p l e (xR 1 21) s m args below meth c H locs 0 0 Q (F0 m 67 ls []) := by
          intro H locs G
          refine lv_aload_n hx hb dX3_fill_67 rfl (lv_at hl 0 rfl) ?_
          refine lv_iconst (v := 1) hx hb dX3_fill_68 (by decide) ?_
          refine lv_iload hx hb dX3_fill_69 (lv_at hl 4 rfl) ?_
          refine lv_ishl hx hb dX3_fill_71 ?_
          refine lv_iconst (v := 1) hx hb dX3_fill_72 (by decide) ?_
          refine lv_iload hx hb dX3_fill_73 (lv_at hl 5 rfl) ?_
          refine lv_ishl hx hb dX3_fill_75 ?_
          refine lv_ior hx hb dX3_fill_76 ?_
          obtain ⟨x8, hc, hf⟩ := bd_go hf
          refine xV_V C G (c_MatchList_add_cl hc) mX3_add kX3_19 (wX_at56) rfl ⟨Nat.le_of_ble_eq_true rfl, Nat.le_of_ble_eq_true rfl⟩ rfl hl.1 rfl (Nat.le_of_ble_eq_true rfl) ⟨Nat.le_refl _, Nat.le_refl _⟩ dX3_fill_77 (fun H locs G => ?_)
          obtain ⟨x9, ex9⟩ : ∃ z : Int32, z = l5 + (1 : Int32) := ⟨_, rfl⟩
          have hf := lt_go ex9 hf
          refine lv_iinc (v := x9) (lv' := [(5, .int x9), (0, .ref (ad 56)), (1, .int l1), (2, .ref (ad 53)), (3, .int l3), (4, .int l4)]) hx hb dX3_fill_80 hl (k := 5) rfl (by rw [ex9]; rfl) (by decide) rfl (fun ls hl => ?_)
          refine lv_goto (tgt := 39) hx hb dX3_fill_83 (by decide) ?_
          exact ih x9 x8.1 x8.2 _ _ _ G (lv_sub hl [1, 2, 3, 4, 5, 0] rfl) hf
        have hf := hr
        clear hr
        refine lv_if_eq (tgt := 80) hx hb dX3_fill_52 (by decide) (fun h => ?_) (fun h => ?_)
        · have hf := it_t h hf
          exact absurd (Option.some.inj hf) (by decide)
        · have hf := it_f h hf
          refine lv_aload_n hx hb dX3_fill_55 rfl (lv_at hl 2 rfl) ?_
          refine lv_iload hx hb dX3_fill_56 (lv_at hl 5 rfl) ?_
          have hi := ck_in hf
          have hf := ck_go hf
          refine x_iald C G (wX_at53) hi dX3_fill_58 ?_
          refine lv_aload_n hx hb dX3_fill_59 rfl (lv_at hl 2 rfl) ?_
          refine lv_iload hx hb dX3_fill_60 (lv_at hl 4 rfl) ?_
          have hi := ck_in hf
          have hf := ck_go hf
          refine x_iald C G (wX_at53) hi dX3_fill_62 ?_
          refine lv_iand hx hb dX3_fill_63 ?_
          refine lv_if_ne (tgt := 80) hx hb dX3_fill_64 (by decide) (fun h => ?_) (fun h => ?_)
          · have hf := it_f h hf
            exact absurd (Option.some.inj hf) (by decide)
          · have hf := it_t h hf
            exact J _ _ G
set_option maxHeartbeats 4000000 in
set_option maxRecDepth 100000 in
theorem w_MatchList_fill_cl_ch_both_L13 {p : Program} {l : Launch} {e : Env} {s : State} {m : MethodId} {args : Array Value} {below : List Frame} {meth : Method} {c : Code} {A : Nat → Prop} {E : xE} {Q : State → Prop} {ad : Nat → Nat} {x_imageCount x_lastTrouble x_lastFault x_lastPlace pa_faultNumber pa_faultPlace rd_length rd_end rd_next rd_sort rd_start rd_value to_seats to_slack to_sawInches to_quarrelChance to_people to_forkBits to_unsure to_tried to_triedFedBits tf_pairs tf_gone bd_seats bd_slack bd_sawInches bd_quarrelChance bd_people bd_forkBits bd_unsure bd_tried bd_triedFedBits bf_pairs bf_gone nw_pairs nw_gone sc_forkBits sc_canBits sc_bestBits sc_bestSlops sl_count se_bestWorth se_fresh ch_items ch_leastCost ch_leastBits fi_count ps_next ps_count i0_pairs i0_gone i1_pairs i1_gone i2_pairs i2_gone : Int32} {pa_names : Nat → Int64} {rd_tape to_unsurePair to_unsureYears to_triedPair tf_seatOf tf_one tf_other tf_kind tf_years tf_sawn bd_unsurePair bd_unsureYears bd_triedPair bf_seatOf bf_one bf_other bf_kind bf_years bf_sawn nw_seatOf nw_one nw_other nw_kind nw_years nw_sawn sc_seatOf sc_handle sc_both sc_slopOf sl_bits se_bestRow se_row se_pairAt se_hope se_hopeAt se_slopAt se_farBits se_gain se_worth ch_both ch_cost ch_bit fi_sets ps_act ps_whom ps_amount i0_seatOf i0_one i0_other i0_kind i0_years i0_sawn i1_seatOf i1_one i1_other i1_kind i1_years i1_sawn i2_seatOf i2_one i2_other i2_kind i2_years i2_sawn : Nat → Int32} {rd_word : Int64} {l1 : Int32} {l3 : Int32} {o : (Nat → Int32) × Int32} (C : xC p s m args meth c cX3_fill 6 RX3 E A none) (J : ∀ (H : Heap) (locs : List Loc) (ls : Array Slot), xG s E A (wX E ad x_imageCount x_lastTrouble x_lastFault x_lastPlace pa_names pa_faultNumber pa_faultPlace rd_tape rd_length rd_end rd_next rd_sort rd_start rd_value rd_word to_unsurePair to_unsureYears to_triedPair to_seats to_slack to_sawInches to_quarrelChance to_people to_forkBits to_unsure to_tried to_triedFedBits tf_seatOf tf_one tf_other tf_kind tf_years tf_sawn tf_pairs tf_gone bd_unsurePair bd_unsureYears bd_triedPair bd_seats bd_slack bd_sawInches bd_quarrelChance bd_people bd_forkBits bd_unsure bd_tried bd_triedFedBits bf_seatOf bf_one bf_other bf_kind bf_years bf_sawn bf_pairs bf_gone nw_seatOf nw_one nw_other nw_kind nw_years nw_sawn nw_pairs nw_gone sc_seatOf sc_handle sc_both sc_slopOf sc_forkBits sc_canBits sc_bestBits sc_bestSlops sl_bits sl_count se_bestRow se_row se_pairAt se_hope se_hopeAt se_slopAt se_farBits se_gain se_worth se_bestWorth se_fresh ch_both ch_cost ch_bit ch_items ch_leastCost ch_leastBits o.1 o.2 fi_sets fi_count ps_act ps_whom ps_amount ps_next ps_count i0_seatOf i0_one i0_other i0_kind i0_years i0_sawn i0_pairs i0_gone i1_seatOf i1_one i1_other i1_kind i1_years i1_sawn i1_pairs i1_gone i2_seatOf i2_one i2_other i2_kind i2_years i2_sawn i2_pairs i2_gone) H locs → lv_has ls 6 [] → W p l e (xR 1 21) s m args below meth c H locs 0 0 Q (F0 m 92 ls [])) :
    ∀ (n : Nat) (l4 : Int32) (cl_bits : Nat → Int32) (cl_count : Int32) (H : Heap) (locs : List Loc) (ls : Array Slot), xG s E A (wX E ad x_imageCount x_lastTrouble x_lastFault x_lastPlace pa_names pa_faultNumber pa_faultPlace rd_tape rd_length rd_end rd_next rd_sort rd_start rd_value rd_word to_unsurePair to_unsureYears to_triedPair to_seats to_slack to_sawInches to_quarrelChance to_people to_forkBits to_unsure to_tried to_triedFedBits tf_seatOf tf_one tf_other tf_kind tf_years tf_sawn tf_pairs tf_gone bd_unsurePair bd_unsureYears bd_triedPair bd_seats bd_slack bd_sawInches bd_quarrelChance bd_people bd_forkBits bd_unsure bd_tried bd_triedFedBits bf_seatOf bf_one bf_other bf_kind bf_years bf_sawn bf_pairs bf_gone nw_seatOf nw_one nw_other nw_kind nw_years nw_sawn nw_pairs nw_gone sc_seatOf sc_handle sc_both sc_slopOf sc_forkBits sc_canBits sc_bestBits sc_bestSlops sl_bits sl_count se_bestRow se_row se_pairAt se_hope se_hopeAt se_slopAt se_farBits se_gain se_worth se_bestWorth se_fresh ch_both ch_cost ch_bit ch_items ch_leastCost ch_leastBits cl_bits cl_count fi_sets fi_count ps_act ps_whom ps_amount ps_next ps_count i0_seatOf i0_one i0_other i0_kind i0_years i0_sawn i0_pairs i0_gone i1_seatOf i1_one i1_other i1_kind i1_years i1_sawn i1_pairs i1_gone i2_seatOf i2_one i2_other i2_kind i2_years i2_sawn i2_pairs i2_gone) H locs → lv_has ls 6 [(0, .ref (ad 56)), (1, .int l1), (2, .ref (ad 53)), (3, .int l3), (4, .int l4)] → f_MatchList_fill_L13 l1 l3 ch_both n l4 cl_bits cl_count = some o → W p l e (xR 1 21) s m args below meth c H locs 0 0 Q (F0 m 13 ls []) := by
  have hx := C.1
  have hb := C.2.1
  intro n
  induction n with
  | zero =>
    intro l4 cl_bits cl_count H locs ls G hl hf
    exact nomatch (show (none : Option ((Nat → Int32) × Int32)) = some o from hf)
  | succ n ih =>
    intro l4 cl_bits cl_count H locs ls G hl hf
    rw [f_MatchList_fill_L13] at hf
    refine lv_iload hx hb dX3_fill_13 (lv_at hl 4 rfl) ?_
    refine lv_iload_n hx hb dX3_fill_15 rfl (lv_at hl 3 rfl) ?_
    refine lv_icmp_ge (tgt := 92) hx hb dX3_fill_16 (by decide) (fun h => ?_) (fun h => ?_)
    · have hf := it_t h hf
      obtain rfl := Option.some.inj hf
      exact J _ _ _ G (lv_sub hl [] rfl)
    · have hf := it_f h hf
      refine lv_iload_n hx hb dX3_fill_19 rfl (lv_at hl 1 rfl) ?_
      refine lv_iload hx hb dX3_fill_20 (lv_at hl 4 rfl) ?_
      obtain ⟨x2, hc, hf⟩ := bd_go hf
      refine xI_S C G (c_X_has_any hc) mX10_has kX3_23 ⟨Nat.le_of_ble_eq_true rfl, Nat.le_of_ble_eq_true rfl⟩ rfl hl.1 rfl (Nat.le_of_ble_eq_true rfl) ⟨Nat.le_refl _, Nat.le_refl _⟩ dX3_fill_22 (fun hz2 H locs G => ?_)
      refine lv_if_eq (tgt := 86) hx hb dX3_fill_25 (by decide) (fun h => ?_) (fun h => ?_)
      · have hf := it_t h hf
        obtain ⟨x3, ex3⟩ : ∃ z : Int32, z = l4 + (1 : Int32) := ⟨_, rfl⟩
        have hf := lt_go ex3 hf
        refine lv_iinc (v := x3) (lv' := [(4, .int x3), (0, .ref (ad 56)), (1, .int l1), (2, .ref (ad 53)), (3, .int l3)]) hx hb dX3_fill_86 hl (k := 4) rfl (by rw [ex3]; rfl) (by decide) rfl (fun ls hl => ?_)
        refine lv_goto (tgt := 13) hx hb dX3_fill_89 (by decide) ?_
        exact ih x3 cl_bits cl_count _ _ _ G (lv_sub hl [1, 2, 3, 4, 0] rfl) hf
      · have hf := it_f h hf
        refine lv_aload_n hx hb dX3_fill_28 rfl (lv_at hl 0 rfl) ?_
        refine lv_iconst (v := 1) hx hb dX3_fill_29 (by decide) ?_
        refine lv_iload hx hb dX3_fill_30 (lv_at hl 4 rfl) ?_
        refine lv_ishl hx hb dX3_fill_32 ?_
        obtain ⟨x4, hc, hf⟩ := bd_go hf
        refine xV_V C G (c_MatchList_add_cl hc) mX3_add kX3_19 (wX_at56) rfl ⟨Nat.le_of_ble_eq_true rfl, Nat.le_of_ble_eq_true rfl⟩ rfl hl.1 rfl (Nat.le_of_ble_eq_true rfl) ⟨Nat.le_refl _, Nat.le_refl _⟩ dX3_fill_33 (fun H locs G => ?_)
        refine lv_iconst (v := 0) hx hb dX3_fill_36 (by decide) ?_
        refine lv_istore (lv' := [(5, .int (0 : Int32)), (0, .ref (ad 56)), (1, .int l1), (2, .ref (ad 53)), (3, .int l3), (4, .int l4)]) hx hb dX3_fill_37 hl (by decide) rfl (fun ls hl => ?_)
        obtain ⟨x10, hr, hf⟩ := bd_go hf
        have Jx10 : ∀ (H : Heap) (locs : List Loc) (ls : Array Slot), xG s E A (wX E ad x_imageCount x_lastTrouble x_lastFault x_lastPlace pa_names pa_faultNumber pa_faultPlace rd_tape rd_length rd_end rd_next rd_sort rd_start rd_value rd_word to_unsurePair to_unsureYears to_triedPair to_seats to_slack to_sawInches to_quarrelChance to_people to_forkBits to_unsure to_tried to_triedFedBits tf_seatOf tf_one tf_other tf_kind tf_years tf_sawn tf_pairs tf_gone bd_unsurePair bd_unsureYears bd_triedPair bd_seats bd_slack bd_sawInches bd_quarrelChance bd_people bd_forkBits bd_unsure bd_tried bd_triedFedBits bf_seatOf bf_one bf_other bf_kind bf_years bf_sawn bf_pairs bf_gone nw_seatOf nw_one nw_other nw_kind nw_years nw_sawn nw_pairs nw_gone sc_seatOf sc_handle sc_both sc_slopOf sc_forkBits sc_canBits sc_bestBits sc_bestSlops sl_bits sl_count se_bestRow se_row se_pairAt se_hope se_hopeAt se_slopAt se_farBits se_gain se_worth se_bestWorth se_fresh ch_both ch_cost ch_bit ch_items ch_leastCost ch_leastBits x10.1 x10.2 fi_sets fi_count ps_act ps_whom ps_amount ps_next ps_count i0_seatOf i0_one i0_other i0_kind i0_years i0_sawn i0_pairs i0_gone i1_seatOf i1_one i1_other i1_kind i1_years i1_sawn i1_pairs i1_gone i2_seatOf i2_one i2_other i2_kind i2_years i2_sawn i2_pairs i2_gone) H locs → lv_has ls 6 [(0, .ref (ad 56)), (1, .int l1), (2, .ref (ad 53)), (3, .int l3), (4, .int l4)] → W p l e (xR 1 21) s m args below meth c H locs 0 0 Q (F0 m 86 ls []) := by
          intro H locs ls G hl
          obtain ⟨x11, ex11⟩ : ∃ z : Int32, z = l4 + (1 : Int32) := ⟨_, rfl⟩
          have hf := lt_go ex11 hf
          refine lv_iinc (v := x11) (lv' := [(4, .int x11), (0, .ref (ad 56)), (1, .int l1), (2, .ref (ad 53)), (3, .int l3)]) hx hb dX3_fill_86 hl (k := 4) rfl (by rw [ex11]; rfl) (by decide) rfl (fun ls hl => ?_)
          refine lv_goto (tgt := 13) hx hb dX3_fill_89 (by decide) ?_
          exact ih x11 x10.1 x10.2 _ _ _ G (lv_sub hl [1, 2, 3, 4, 0] rfl) hf
        exact w_MatchList_fill_cl_ch_both_L39 C Jx10 fu _ _ _ _ _ _ G (lv_sub hl [1, 2, 3, 4, 5, 0] rfl) hr
set_option maxHeartbeats 4000000 in
set_option maxRecDepth 100000 in
theorem c_MatchList_fill_cl_ch_both {l : Launch} {E : xE} {ad : Nat → Nat} {x_imageCount x_lastTrouble x_lastFault x_lastPlace pa_faultNumber pa_faultPlace rd_length rd_end rd_next rd_sort rd_start rd_value to_seats to_slack to_sawInches to_quarrelChance to_people to_forkBits to_unsure to_tried to_triedFedBits tf_pairs tf_gone bd_seats bd_slack bd_sawInches bd_quarrelChance bd_people bd_forkBits bd_unsure bd_tried bd_triedFedBits bf_pairs bf_gone nw_pairs nw_gone sc_forkBits sc_canBits sc_bestBits sc_bestSlops sl_count se_bestWorth se_fresh ch_items ch_leastCost ch_leastBits cl_count fi_count ps_next ps_count i0_pairs i0_gone i1_pairs i1_gone i2_pairs i2_gone : Int32} {pa_names : Nat → Int64} {rd_tape to_unsurePair to_unsureYears to_triedPair tf_seatOf tf_one tf_other tf_kind tf_years tf_sawn bd_unsurePair bd_unsureYears bd_triedPair bf_seatOf bf_one bf_other bf_kind bf_years bf_sawn nw_seatOf nw_one nw_other nw_kind nw_years nw_sawn sc_seatOf sc_handle sc_both sc_slopOf sl_bits se_bestRow se_row se_pairAt se_hope se_hopeAt se_slopAt se_farBits se_gain se_worth ch_both ch_cost ch_bit cl_bits fi_sets ps_act ps_whom ps_amount i0_seatOf i0_one i0_other i0_kind i0_years i0_sawn i1_seatOf i1_one i1_other i1_kind i1_years i1_sawn i2_seatOf i2_one i2_other i2_kind i2_years i2_sawn : Nat → Int32} {rd_word : Int64} {l1 : Int32} {l3 : Int32} {R0 : (Nat → Int32) × Int32} (hf : f_MatchList_fill l1 l3 ch_both cl_bits = some R0) : xV l E yX3_fill cX3_fill 6 none 1 21 [.ref (ad 56), .int l1, .ref (ad 53), .int l3] (wX E ad x_imageCount x_lastTrouble x_lastFault x_lastPlace pa_names pa_faultNumber pa_faultPlace rd_tape rd_length rd_end rd_next rd_sort rd_start rd_value rd_word to_unsurePair to_unsureYears to_triedPair to_seats to_slack to_sawInches to_quarrelChance to_people to_forkBits to_unsure to_tried to_triedFedBits tf_seatOf tf_one tf_other tf_kind tf_years tf_sawn tf_pairs tf_gone bd_unsurePair bd_unsureYears bd_triedPair bd_seats bd_slack bd_sawInches bd_quarrelChance bd_people bd_forkBits bd_unsure bd_tried bd_triedFedBits bf_seatOf bf_one bf_other bf_kind bf_years bf_sawn bf_pairs bf_gone nw_seatOf nw_one nw_other nw_kind nw_years nw_sawn nw_pairs nw_gone sc_seatOf sc_handle sc_both sc_slopOf sc_forkBits sc_canBits sc_bestBits sc_bestSlops sl_bits sl_count se_bestRow se_row se_pairAt se_hope se_hopeAt se_slopAt se_farBits se_gain se_worth se_bestWorth se_fresh ch_both ch_cost ch_bit ch_items ch_leastCost ch_leastBits cl_bits cl_count fi_sets fi_count ps_act ps_whom ps_amount ps_next ps_count i0_seatOf i0_one i0_other i0_kind i0_years i0_sawn i0_pairs i0_gone i1_seatOf i1_one i1_other i1_kind i1_years i1_sawn i1_pairs i1_gone i2_seatOf i2_one i2_other i2_kind i2_years i2_sawn i2_pairs i2_gone) (wX E ad x_imageCount x_lastTrouble x_lastFault x_lastPlace pa_names pa_faultNumber pa_faultPlace rd_tape rd_length rd_end rd_next rd_sort rd_start rd_value rd_word to_unsurePair to_unsureYears to_triedPair to_seats to_slack to_sawInches to_quarrelChance to_people to_forkBits to_unsure to_tried to_triedFedBits tf_seatOf tf_one tf_other tf_kind tf_years tf_sawn tf_pairs tf_gone bd_unsurePair bd_unsureYears bd_triedPair bd_seats bd_slack bd_sawInches bd_quarrelChance bd_people bd_forkBits bd_unsure bd_tried bd_triedFedBits bf_seatOf bf_one bf_other bf_kind bf_years bf_sawn bf_pairs bf_gone nw_seatOf nw_one nw_other nw_kind nw_years nw_sawn nw_pairs nw_gone sc_seatOf sc_handle sc_both sc_slopOf sc_forkBits sc_canBits sc_bestBits sc_bestSlops sl_bits sl_count se_bestRow se_row se_pairAt se_hope se_hopeAt se_slopAt se_farBits se_gain se_worth se_bestWorth se_fresh ch_both ch_cost ch_bit ch_items ch_leastCost ch_leastBits R0.1 R0.2 fi_sets fi_count ps_act ps_whom ps_amount ps_next ps_count i0_seatOf i0_one i0_other i0_kind i0_years i0_sawn i0_pairs i0_gone i1_seatOf i1_one i1_other i1_kind i1_years i1_sawn i1_pairs i1_gone i2_seatOf i2_one i2_other i2_kind i2_years i2_sawn i2_pairs i2_gone) := by
  refine xV_of (by decide) (Nat.le_of_ble_eq_true rfl) (fun p e s m args below meth c A C ls hl G => ?_)
  have hx := C.1
  have hb := C.2.1
  have hl : lv_has ls 6 [(0, .ref (ad 56)), (1, .int l1), (2, .ref (ad 53)), (3, .int l3)] := hl
  unfold f_MatchList_fill at hf
  refine lv_aload_n hx hb dX3_fill_0 rfl (lv_at hl 0 rfl) ?_
  refine lv_iconst (v := 0) hx hb dX3_fill_1 (by decide) ?_
  refine x_put (ws' := (wX E ad x_imageCount x_lastTrouble x_lastFault x_lastPlace pa_names pa_faultNumber pa_faultPlace rd_tape rd_length rd_end rd_next rd_sort rd_start rd_value rd_word to_unsurePair to_unsureYears to_triedPair to_seats to_slack to_sawInches to_quarrelChance to_people to_forkBits to_unsure to_tried to_triedFedBits tf_seatOf tf_one tf_other tf_kind tf_years tf_sawn tf_pairs tf_gone bd_unsurePair bd_unsureYears bd_triedPair bd_seats bd_slack bd_sawInches bd_quarrelChance bd_people bd_forkBits bd_unsure bd_tried bd_triedFedBits bf_seatOf bf_one bf_other bf_kind bf_years bf_sawn bf_pairs bf_gone nw_seatOf nw_one nw_other nw_kind nw_years nw_sawn nw_pairs nw_gone sc_seatOf sc_handle sc_both sc_slopOf sc_forkBits sc_canBits sc_bestBits sc_bestSlops sl_bits sl_count se_bestRow se_row se_pairAt se_hope se_hopeAt se_slopAt se_farBits se_gain se_worth se_bestWorth se_fresh ch_both ch_cost ch_bit ch_items ch_leastCost ch_leastBits cl_bits (0 : Int32) fi_sets fi_count ps_act ps_whom ps_amount ps_next ps_count i0_seatOf i0_one i0_other i0_kind i0_years i0_sawn i0_pairs i0_gone i1_seatOf i1_one i1_other i1_kind i1_years i1_sawn i1_pairs i1_gone i2_seatOf i2_one i2_other i2_kind i2_years i2_sawn i2_pairs i2_gone)) C G fX3_15 (wX_at56) rfl rfl (Nat.le_of_ble_eq_true rfl) wX_set_cl_count dX3_fill_2 (fun H locs G => ?_)
  refine lv_aload_n hx hb dX3_fill_5 rfl (lv_at hl 0 rfl) ?_
  refine lv_iconst (v := 0) hx hb dX3_fill_6 (by decide) ?_
  obtain ⟨x1, hc, hf⟩ := bd_go hf
  refine xV_V C G (c_MatchList_add_cl hc) mX3_add kX3_19 (wX_at56) rfl ⟨Nat.le_of_ble_eq_true rfl, Nat.le_of_ble_eq_true rfl⟩ rfl hl.1 rfl (Nat.le_of_ble_eq_true rfl) ⟨Nat.le_refl _, Nat.le_refl _⟩ dX3_fill_7 (fun H locs G => ?_)
  refine lv_iconst (v := 0) hx hb dX3_fill_10 (by decide) ?_
  refine lv_istore (lv' := [(4, .int (0 : Int32)), (0, .ref (ad 56)), (1, .int l1), (2, .ref (ad 53)), (3, .int l3)]) hx hb dX3_fill_11 hl (by decide) rfl (fun ls hl => ?_)
  obtain ⟨x12, hr, hf⟩ := bd_go hf
  have Jx12 : ∀ (H : Heap) (locs : List Loc) (ls : Array Slot), xG s E A (wX E ad x_imageCount x_lastTrouble x_lastFault x_lastPlace pa_names pa_faultNumber pa_faultPlace rd_tape rd_length rd_end rd_next rd_sort rd_start rd_value rd_word to_unsurePair to_unsureYears to_triedPair to_seats to_slack to_sawInches to_quarrelChance to_people to_forkBits to_unsure to_tried to_triedFedBits tf_seatOf tf_one tf_other tf_kind tf_years tf_sawn tf_pairs tf_gone bd_unsurePair bd_unsureYears bd_triedPair bd_seats bd_slack bd_sawInches bd_quarrelChance bd_people bd_forkBits bd_unsure bd_tried bd_triedFedBits bf_seatOf bf_one bf_other bf_kind bf_years bf_sawn bf_pairs bf_gone nw_seatOf nw_one nw_other nw_kind nw_years nw_sawn nw_pairs nw_gone sc_seatOf sc_handle sc_both sc_slopOf sc_forkBits sc_canBits sc_bestBits sc_bestSlops sl_bits sl_count se_bestRow se_row se_pairAt se_hope se_hopeAt se_slopAt se_farBits se_gain se_worth se_bestWorth se_fresh ch_both ch_cost ch_bit ch_items ch_leastCost ch_leastBits x12.1 x12.2 fi_sets fi_count ps_act ps_whom ps_amount ps_next ps_count i0_seatOf i0_one i0_other i0_kind i0_years i0_sawn i0_pairs i0_gone i1_seatOf i1_one i1_other i1_kind i1_years i1_sawn i1_pairs i1_gone i2_seatOf i2_one i2_other i2_kind i2_years i2_sawn i2_pairs i2_gone) H locs → lv_has ls 6 [] → W p l e (xR 1 21) s m args below meth c H locs 0 0 (MQ below (xqV E A (wX E ad x_imageCount x_lastTrouble x_lastFault x_lastPlace pa_names pa_faultNumber pa_faultPlace rd_tape rd_length rd_end rd_next rd_sort rd_start rd_value rd_word to_unsurePair to_unsureYears to_triedPair to_seats to_slack to_sawInches to_quarrelChance to_people to_forkBits to_unsure to_tried to_triedFedBits tf_seatOf tf_one tf_other tf_kind tf_years tf_sawn tf_pairs tf_gone bd_unsurePair bd_unsureYears bd_triedPair bd_seats bd_slack bd_sawInches bd_quarrelChance bd_people bd_forkBits bd_unsure bd_tried bd_triedFedBits bf_seatOf bf_one bf_other bf_kind bf_years bf_sawn bf_pairs bf_gone nw_seatOf nw_one nw_other nw_kind nw_years nw_sawn nw_pairs nw_gone sc_seatOf sc_handle sc_both sc_slopOf sc_forkBits sc_canBits sc_bestBits sc_bestSlops sl_bits sl_count se_bestRow se_row se_pairAt se_hope se_hopeAt se_slopAt se_farBits se_gain se_worth se_bestWorth se_fresh ch_both ch_cost ch_bit ch_items ch_leastCost ch_leastBits R0.1 R0.2 fi_sets fi_count ps_act ps_whom ps_amount ps_next ps_count i0_seatOf i0_one i0_other i0_kind i0_years i0_sawn i0_pairs i0_gone i1_seatOf i1_one i1_other i1_kind i1_years i1_sawn i1_pairs i1_gone i2_seatOf i2_one i2_other i2_kind i2_years i2_sawn i2_pairs i2_gone)) args s 0 0 A) (F0 m 92 ls []) := by
    intro H locs ls G hl
    obtain rfl := Option.some.inj hf
    exact xV_ret C G dX3_fill_92
  exact w_MatchList_fill_cl_ch_both_L13 C Jx12 fu _ _ _ _ _ _ G (lv_sub hl [1, 2, 3, 4, 0] rfl) hr
set_option maxHeartbeats 4000000 in
set_option maxRecDepth 100000 in
theorem w_X_sumOf_ch_cost_L4 {p : Program} {l : Launch} {e : Env} {s : State} {m : MethodId} {args : Array Value} {below : List Frame} {meth : Method} {c : Code} {A : Nat → Prop} {E : xE} {Q : State → Prop} {ad : Nat → Nat} {x_imageCount x_lastTrouble x_lastFault x_lastPlace pa_faultNumber pa_faultPlace rd_length rd_end rd_next rd_sort rd_start rd_value to_seats to_slack to_sawInches to_quarrelChance to_people to_forkBits to_unsure to_tried to_triedFedBits tf_pairs tf_gone bd_seats bd_slack bd_sawInches bd_quarrelChance bd_people bd_forkBits bd_unsure bd_tried bd_triedFedBits bf_pairs bf_gone nw_pairs nw_gone sc_forkBits sc_canBits sc_bestBits sc_bestSlops sl_count se_bestWorth se_fresh ch_items ch_leastCost ch_leastBits cl_count fi_count ps_next ps_count i0_pairs i0_gone i1_pairs i1_gone i2_pairs i2_gone : Int32} {pa_names : Nat → Int64} {rd_tape to_unsurePair to_unsureYears to_triedPair tf_seatOf tf_one tf_other tf_kind tf_years tf_sawn bd_unsurePair bd_unsureYears bd_triedPair bf_seatOf bf_one bf_other bf_kind bf_years bf_sawn nw_seatOf nw_one nw_other nw_kind nw_years nw_sawn sc_seatOf sc_handle sc_both sc_slopOf sl_bits se_bestRow se_row se_pairAt se_hope se_hopeAt se_slopAt se_farBits se_gain se_worth ch_both ch_cost ch_bit cl_bits fi_sets ps_act ps_whom ps_amount i0_seatOf i0_one i0_other i0_kind i0_years i0_sawn i1_seatOf i1_one i1_other i1_kind i1_years i1_sawn i2_seatOf i2_one i2_other i2_kind i2_years i2_sawn : Nat → Int32} {rd_word : Int64} {l0 : Int32} {o : Int32} (C : xC p s m args meth c cX10_sumOf 4 RX10 E A (some .int)) (J : ∀ (H : Heap) (locs : List Loc) (ls : Array Slot), xG s E A (wX E ad x_imageCount x_lastTrouble x_lastFault x_lastPlace pa_names pa_faultNumber pa_faultPlace rd_tape rd_length rd_end rd_next rd_sort rd_start rd_value rd_word to_unsurePair to_unsureYears to_triedPair to_seats to_slack to_sawInches to_quarrelChance to_people to_forkBits to_unsure to_tried to_triedFedBits tf_seatOf tf_one tf_other tf_kind tf_years tf_sawn tf_pairs tf_gone bd_unsurePair bd_unsureYears bd_triedPair bd_seats bd_slack bd_sawInches bd_quarrelChance bd_people bd_forkBits bd_unsure bd_tried bd_triedFedBits bf_seatOf bf_one bf_other bf_kind bf_years bf_sawn bf_pairs bf_gone nw_seatOf nw_one nw_other nw_kind nw_years nw_sawn nw_pairs nw_gone sc_seatOf sc_handle sc_both sc_slopOf sc_forkBits sc_canBits sc_bestBits sc_bestSlops sl_bits sl_count se_bestRow se_row se_pairAt se_hope se_hopeAt se_slopAt se_farBits se_gain se_worth se_bestWorth se_fresh ch_both ch_cost ch_bit ch_items ch_leastCost ch_leastBits cl_bits cl_count fi_sets fi_count ps_act ps_whom ps_amount ps_next ps_count i0_seatOf i0_one i0_other i0_kind i0_years i0_sawn i0_pairs i0_gone i1_seatOf i1_one i1_other i1_kind i1_years i1_sawn i1_pairs i1_gone i2_seatOf i2_one i2_other i2_kind i2_years i2_sawn i2_pairs i2_gone) H locs → lv_has ls 4 [(2, .int o)] → W p l e (xR 1 21) s m args below meth c H locs 0 0 Q (F0 m 30 ls [])) :
    ∀ (n : Nat) (l2 : Int32) (l3 : Int32) (H : Heap) (locs : List Loc) (ls : Array Slot), xG s E A (wX E ad x_imageCount x_lastTrouble x_lastFault x_lastPlace pa_names pa_faultNumber pa_faultPlace rd_tape rd_length rd_end rd_next rd_sort rd_start rd_value rd_word to_unsurePair to_unsureYears to_triedPair to_seats to_slack to_sawInches to_quarrelChance to_people to_forkBits to_unsure to_tried to_triedFedBits tf_seatOf tf_one tf_other tf_kind tf_years tf_sawn tf_pairs tf_gone bd_unsurePair bd_unsureYears bd_triedPair bd_seats bd_slack bd_sawInches bd_quarrelChance bd_people bd_forkBits bd_unsure bd_tried bd_triedFedBits bf_seatOf bf_one bf_other bf_kind bf_years bf_sawn bf_pairs bf_gone nw_seatOf nw_one nw_other nw_kind nw_years nw_sawn nw_pairs nw_gone sc_seatOf sc_handle sc_both sc_slopOf sc_forkBits sc_canBits sc_bestBits sc_bestSlops sl_bits sl_count se_bestRow se_row se_pairAt se_hope se_hopeAt se_slopAt se_farBits se_gain se_worth se_bestWorth se_fresh ch_both ch_cost ch_bit ch_items ch_leastCost ch_leastBits cl_bits cl_count fi_sets fi_count ps_act ps_whom ps_amount ps_next ps_count i0_seatOf i0_one i0_other i0_kind i0_years i0_sawn i0_pairs i0_gone i1_seatOf i1_one i1_other i1_kind i1_years i1_sawn i1_pairs i1_gone i2_seatOf i2_one i2_other i2_kind i2_years i2_sawn i2_pairs i2_gone) H locs → lv_has ls 4 [(0, .int l0), (1, .ref (ad 54)), (2, .int l2), (3, .int l3)] → f_X_sumOf_L4 l0 ch_cost n l2 l3 = some o → W p l e (xR 1 21) s m args below meth c H locs 0 0 Q (F0 m 4 ls []) := by
  have hx := C.1
  have hb := C.2.1
  intro n
  induction n with
  | zero =>
    intro l2 l3 H locs ls G hl hf
    exact nomatch (show (none : Option (Int32)) = some o from hf)
  | succ n ih =>
    intro l2 l3 H locs ls G hl hf
    rw [f_X_sumOf_L4] at hf
    refine lv_iload_n hx hb dX10_sumOf_4 rfl (lv_at hl 3 rfl) ?_
    refine lv_aload_n hx hb dX10_sumOf_5 rfl (lv_at hl 1 rfl) ?_
    refine x_ialen C G (wX_at54) dX10_sumOf_6 ?_
    refine lv_icmp_ge (tgt := 30) hx hb dX10_sumOf_7 (by decide) (fun h => ?_) (fun h => ?_)
    · have hf := it_t h hf
      obtain rfl := Option.some.inj hf
      exact J _ _ _ G (lv_sub hl [2] rfl)
    · have hf := it_f h hf
      refine lv_iload_n hx hb dX10_sumOf_10 rfl (lv_at hl 0 rfl) ?_
      refine lv_iload_n hx hb dX10_sumOf_11 rfl (lv_at hl 3 rfl) ?_
      obtain ⟨x1, hc, hf⟩ := bd_go hf
      refine xI_S C G (c_X_has_any hc) mX10_has kX10_257 ⟨Nat.le_of_ble_eq_true rfl, Nat.le_of_ble_eq_true rfl⟩ rfl hl.1 rfl (Nat.le_of_ble_eq_true rfl) ⟨Nat.le_refl _, Nat.le_refl _⟩ dX10_sumOf_12 (fun hz1 H locs G => ?_)
      refine lv_if_eq (tgt := 24) hx hb dX10_sumOf_15 (by decide) (fun h => ?_) (fun h => ?_)
      · have hf := it_t h hf
        obtain ⟨x2, ex2⟩ : ∃ z : Int32, z = l3 + (1 : Int32) := ⟨_, rfl⟩
        have hf := lt_go ex2 hf
        refine lv_iinc (v := x2) (lv' := [(3, .int x2), (0, .int l0), (1, .ref (ad 54)), (2, .int l2)]) hx hb dX10_sumOf_24 hl (k := 3) rfl (by rw [ex2]; rfl) (by decide) rfl (fun ls hl => ?_)
        refine lv_goto (tgt := 4) hx hb dX10_sumOf_27 (by decide) ?_
        exact ih l2 x2 _ _ _ G (lv_sub hl [1, 2, 3, 0] rfl) hf
      · have hf := it_f h hf
        refine lv_iload_n hx hb dX10_sumOf_18 rfl (lv_at hl 2 rfl) ?_
        refine lv_aload_n hx hb dX10_sumOf_19 rfl (lv_at hl 1 rfl) ?_
        refine lv_iload_n hx hb dX10_sumOf_20 rfl (lv_at hl 3 rfl) ?_
        have hi := ck_in hf
        have hf := ck_go hf
        refine x_iald C G (wX_at54) hi dX10_sumOf_21 ?_
        refine lv_iadd hx hb dX10_sumOf_22 ?_
        refine lv_topi (fun x3 ex3 => ?_)
        have hf := lt_go ex3 hf
        refine lv_istore_n (lv' := [(2, .int x3), (0, .int l0), (1, .ref (ad 54)), (3, .int l3)]) hx hb dX10_sumOf_23 rfl hl (by decide) rfl (fun ls hl => ?_)
        obtain ⟨x4, ex4⟩ : ∃ z : Int32, z = l3 + (1 : Int32) := ⟨_, rfl⟩
        have hf := lt_go ex4 hf
        refine lv_iinc (v := x4) (lv' := [(3, .int x4), (2, .int x3), (0, .int l0), (1, .ref (ad 54))]) hx hb dX10_sumOf_24 hl (k := 3) rfl (by rw [ex4]; rfl) (by decide) rfl (fun ls hl => ?_)
        refine lv_goto (tgt := 4) hx hb dX10_sumOf_27 (by decide) ?_
        exact ih x3 x4 _ _ _ G (lv_sub hl [2, 3, 1, 0] rfl) hf
set_option maxHeartbeats 4000000 in
set_option maxRecDepth 100000 in
theorem c_X_sumOf_ch_cost {l : Launch} {E : xE} {ad : Nat → Nat} {x_imageCount x_lastTrouble x_lastFault x_lastPlace pa_faultNumber pa_faultPlace rd_length rd_end rd_next rd_sort rd_start rd_value to_seats to_slack to_sawInches to_quarrelChance to_people to_forkBits to_unsure to_tried to_triedFedBits tf_pairs tf_gone bd_seats bd_slack bd_sawInches bd_quarrelChance bd_people bd_forkBits bd_unsure bd_tried bd_triedFedBits bf_pairs bf_gone nw_pairs nw_gone sc_forkBits sc_canBits sc_bestBits sc_bestSlops sl_count se_bestWorth se_fresh ch_items ch_leastCost ch_leastBits cl_count fi_count ps_next ps_count i0_pairs i0_gone i1_pairs i1_gone i2_pairs i2_gone : Int32} {pa_names : Nat → Int64} {rd_tape to_unsurePair to_unsureYears to_triedPair tf_seatOf tf_one tf_other tf_kind tf_years tf_sawn bd_unsurePair bd_unsureYears bd_triedPair bf_seatOf bf_one bf_other bf_kind bf_years bf_sawn nw_seatOf nw_one nw_other nw_kind nw_years nw_sawn sc_seatOf sc_handle sc_both sc_slopOf sl_bits se_bestRow se_row se_pairAt se_hope se_hopeAt se_slopAt se_farBits se_gain se_worth ch_both ch_cost ch_bit cl_bits fi_sets ps_act ps_whom ps_amount i0_seatOf i0_one i0_other i0_kind i0_years i0_sawn i1_seatOf i1_one i1_other i1_kind i1_years i1_sawn i2_seatOf i2_one i2_other i2_kind i2_years i2_sawn : Nat → Int32} {rd_word : Int64} {l0 : Int32} {R0 : Int32} (hf : f_X_sumOf l0 ch_cost = some R0) : xI l E yX10_sumOf cX10_sumOf 4 (some .int) 1 21 [.int l0, .ref (ad 54)] (wX E ad x_imageCount x_lastTrouble x_lastFault x_lastPlace pa_names pa_faultNumber pa_faultPlace rd_tape rd_length rd_end rd_next rd_sort rd_start rd_value rd_word to_unsurePair to_unsureYears to_triedPair to_seats to_slack to_sawInches to_quarrelChance to_people to_forkBits to_unsure to_tried to_triedFedBits tf_seatOf tf_one tf_other tf_kind tf_years tf_sawn tf_pairs tf_gone bd_unsurePair bd_unsureYears bd_triedPair bd_seats bd_slack bd_sawInches bd_quarrelChance bd_people bd_forkBits bd_unsure bd_tried bd_triedFedBits bf_seatOf bf_one bf_other bf_kind bf_years bf_sawn bf_pairs bf_gone nw_seatOf nw_one nw_other nw_kind nw_years nw_sawn nw_pairs nw_gone sc_seatOf sc_handle sc_both sc_slopOf sc_forkBits sc_canBits sc_bestBits sc_bestSlops sl_bits sl_count se_bestRow se_row se_pairAt se_hope se_hopeAt se_slopAt se_farBits se_gain se_worth se_bestWorth se_fresh ch_both ch_cost ch_bit ch_items ch_leastCost ch_leastBits cl_bits cl_count fi_sets fi_count ps_act ps_whom ps_amount ps_next ps_count i0_seatOf i0_one i0_other i0_kind i0_years i0_sawn i0_pairs i0_gone i1_seatOf i1_one i1_other i1_kind i1_years i1_sawn i1_pairs i1_gone i2_seatOf i2_one i2_other i2_kind i2_years i2_sawn i2_pairs i2_gone) (wX E ad x_imageCount x_lastTrouble x_lastFault x_lastPlace pa_names pa_faultNumber pa_faultPlace rd_tape rd_length rd_end rd_next rd_sort rd_start rd_value rd_word to_unsurePair to_unsureYears to_triedPair to_seats to_slack to_sawInches to_quarrelChance to_people to_forkBits to_unsure to_tried to_triedFedBits tf_seatOf tf_one tf_other tf_kind tf_years tf_sawn tf_pairs tf_gone bd_unsurePair bd_unsureYears bd_triedPair bd_seats bd_slack bd_sawInches bd_quarrelChance bd_people bd_forkBits bd_unsure bd_tried bd_triedFedBits bf_seatOf bf_one bf_other bf_kind bf_years bf_sawn bf_pairs bf_gone nw_seatOf nw_one nw_other nw_kind nw_years nw_sawn nw_pairs nw_gone sc_seatOf sc_handle sc_both sc_slopOf sc_forkBits sc_canBits sc_bestBits sc_bestSlops sl_bits sl_count se_bestRow se_row se_pairAt se_hope se_hopeAt se_slopAt se_farBits se_gain se_worth se_bestWorth se_fresh ch_both ch_cost ch_bit ch_items ch_leastCost ch_leastBits cl_bits cl_count fi_sets fi_count ps_act ps_whom ps_amount ps_next ps_count i0_seatOf i0_one i0_other i0_kind i0_years i0_sawn i0_pairs i0_gone i1_seatOf i1_one i1_other i1_kind i1_years i1_sawn i1_pairs i1_gone i2_seatOf i2_one i2_other i2_kind i2_years i2_sawn i2_pairs i2_gone) R0 := by
  refine xI_of (by decide) (Nat.le_of_ble_eq_true rfl) (fun p e s m args below meth c A C ls hl G => ?_)
  have hx := C.1
  have hb := C.2.1
  have hl : lv_has ls 4 [(0, .int l0), (1, .ref (ad 54))] := hl
  unfold f_X_sumOf at hf
  refine lv_iconst (v := 0) hx hb dX10_sumOf_0 (by decide) ?_
  refine lv_istore_n (lv' := [(2, .int (0 : Int32)), (0, .int l0), (1, .ref (ad 54))]) hx hb dX10_sumOf_1 rfl hl (by decide) rfl (fun ls hl => ?_)
  refine lv_iconst (v := 0) hx hb dX10_sumOf_2 (by decide) ?_
  refine lv_istore_n (lv' := [(3, .int (0 : Int32)), (2, .int (0 : Int32)), (0, .int l0), (1, .ref (ad 54))]) hx hb dX10_sumOf_3 rfl hl (by decide) rfl (fun ls hl => ?_)
  obtain ⟨x5, hr, hf⟩ := bd_go hf
  have Jx5 : ∀ (H : Heap) (locs : List Loc) (ls : Array Slot), xG s E A (wX E ad x_imageCount x_lastTrouble x_lastFault x_lastPlace pa_names pa_faultNumber pa_faultPlace rd_tape rd_length rd_end rd_next rd_sort rd_start rd_value rd_word to_unsurePair to_unsureYears to_triedPair to_seats to_slack to_sawInches to_quarrelChance to_people to_forkBits to_unsure to_tried to_triedFedBits tf_seatOf tf_one tf_other tf_kind tf_years tf_sawn tf_pairs tf_gone bd_unsurePair bd_unsureYears bd_triedPair bd_seats bd_slack bd_sawInches bd_quarrelChance bd_people bd_forkBits bd_unsure bd_tried bd_triedFedBits bf_seatOf bf_one bf_other bf_kind bf_years bf_sawn bf_pairs bf_gone nw_seatOf nw_one nw_other nw_kind nw_years nw_sawn nw_pairs nw_gone sc_seatOf sc_handle sc_both sc_slopOf sc_forkBits sc_canBits sc_bestBits sc_bestSlops sl_bits sl_count se_bestRow se_row se_pairAt se_hope se_hopeAt se_slopAt se_farBits se_gain se_worth se_bestWorth se_fresh ch_both ch_cost ch_bit ch_items ch_leastCost ch_leastBits cl_bits cl_count fi_sets fi_count ps_act ps_whom ps_amount ps_next ps_count i0_seatOf i0_one i0_other i0_kind i0_years i0_sawn i0_pairs i0_gone i1_seatOf i1_one i1_other i1_kind i1_years i1_sawn i1_pairs i1_gone i2_seatOf i2_one i2_other i2_kind i2_years i2_sawn i2_pairs i2_gone) H locs → lv_has ls 4 [(2, .int x5)] → W p l e (xR 1 21) s m args below meth c H locs 0 0 (MQ below (xqI E A (wX E ad x_imageCount x_lastTrouble x_lastFault x_lastPlace pa_names pa_faultNumber pa_faultPlace rd_tape rd_length rd_end rd_next rd_sort rd_start rd_value rd_word to_unsurePair to_unsureYears to_triedPair to_seats to_slack to_sawInches to_quarrelChance to_people to_forkBits to_unsure to_tried to_triedFedBits tf_seatOf tf_one tf_other tf_kind tf_years tf_sawn tf_pairs tf_gone bd_unsurePair bd_unsureYears bd_triedPair bd_seats bd_slack bd_sawInches bd_quarrelChance bd_people bd_forkBits bd_unsure bd_tried bd_triedFedBits bf_seatOf bf_one bf_other bf_kind bf_years bf_sawn bf_pairs bf_gone nw_seatOf nw_one nw_other nw_kind nw_years nw_sawn nw_pairs nw_gone sc_seatOf sc_handle sc_both sc_slopOf sc_forkBits sc_canBits sc_bestBits sc_bestSlops sl_bits sl_count se_bestRow se_row se_pairAt se_hope se_hopeAt se_slopAt se_farBits se_gain se_worth se_bestWorth se_fresh ch_both ch_cost ch_bit ch_items ch_leastCost ch_leastBits cl_bits cl_count fi_sets fi_count ps_act ps_whom ps_amount ps_next ps_count i0_seatOf i0_one i0_other i0_kind i0_years i0_sawn i0_pairs i0_gone i1_seatOf i1_one i1_other i1_kind i1_years i1_sawn i1_pairs i1_gone i2_seatOf i2_one i2_other i2_kind i2_years i2_sawn i2_pairs i2_gone) (some .int) R0) args s 0 0 A) (F0 m 30 ls []) := by
    intro H locs ls G hl
    refine lv_iload_n hx hb dX10_sumOf_30 rfl (lv_at hl 0 rfl) ?_
    obtain rfl := Option.some.inj hf
    exact xI_ret C G rfl dX10_sumOf_31
  exact w_X_sumOf_ch_cost_L4 C Jx5 fu _ _ _ _ _ G (lv_sub hl [2, 3, 1, 0] rfl) hr
set_option maxHeartbeats 4000000 in
set_option maxRecDepth 100000 in
theorem w_X_sumOf_ch_bit_L4 {p : Program} {l : Launch} {e : Env} {s : State} {m : MethodId} {args : Array Value} {below : List Frame} {meth : Method} {c : Code} {A : Nat → Prop} {E : xE} {Q : State → Prop} {ad : Nat → Nat} {x_imageCount x_lastTrouble x_lastFault x_lastPlace pa_faultNumber pa_faultPlace rd_length rd_end rd_next rd_sort rd_start rd_value to_seats to_slack to_sawInches to_quarrelChance to_people to_forkBits to_unsure to_tried to_triedFedBits tf_pairs tf_gone bd_seats bd_slack bd_sawInches bd_quarrelChance bd_people bd_forkBits bd_unsure bd_tried bd_triedFedBits bf_pairs bf_gone nw_pairs nw_gone sc_forkBits sc_canBits sc_bestBits sc_bestSlops sl_count se_bestWorth se_fresh ch_items ch_leastCost ch_leastBits cl_count fi_count ps_next ps_count i0_pairs i0_gone i1_pairs i1_gone i2_pairs i2_gone : Int32} {pa_names : Nat → Int64} {rd_tape to_unsurePair to_unsureYears to_triedPair tf_seatOf tf_one tf_other tf_kind tf_years tf_sawn bd_unsurePair bd_unsureYears bd_triedPair bf_seatOf bf_one bf_other bf_kind bf_years bf_sawn nw_seatOf nw_one nw_other nw_kind nw_years nw_sawn sc_seatOf sc_handle sc_both sc_slopOf sl_bits se_bestRow se_row se_pairAt se_hope se_hopeAt se_slopAt se_farBits se_gain se_worth ch_both ch_cost ch_bit cl_bits fi_sets ps_act ps_whom ps_amount i0_seatOf i0_one i0_other i0_kind i0_years i0_sawn i1_seatOf i1_one i1_other i1_kind i1_years i1_sawn i2_seatOf i2_one i2_other i2_kind i2_years i2_sawn : Nat → Int32} {rd_word : Int64} {l0 : Int32} {o : Int32} (C : xC p s m args meth c cX10_sumOf 4 RX10 E A (some .int)) (J : ∀ (H : Heap) (locs : List Loc) (ls : Array Slot), xG s E A (wX E ad x_imageCount x_lastTrouble x_lastFault x_lastPlace pa_names pa_faultNumber pa_faultPlace rd_tape rd_length rd_end rd_next rd_sort rd_start rd_value rd_word to_unsurePair to_unsureYears to_triedPair to_seats to_slack to_sawInches to_quarrelChance to_people to_forkBits to_unsure to_tried to_triedFedBits tf_seatOf tf_one tf_other tf_kind tf_years tf_sawn tf_pairs tf_gone bd_unsurePair bd_unsureYears bd_triedPair bd_seats bd_slack bd_sawInches bd_quarrelChance bd_people bd_forkBits bd_unsure bd_tried bd_triedFedBits bf_seatOf bf_one bf_other bf_kind bf_years bf_sawn bf_pairs bf_gone nw_seatOf nw_one nw_other nw_kind nw_years nw_sawn nw_pairs nw_gone sc_seatOf sc_handle sc_both sc_slopOf sc_forkBits sc_canBits sc_bestBits sc_bestSlops sl_bits sl_count se_bestRow se_row se_pairAt se_hope se_hopeAt se_slopAt se_farBits se_gain se_worth se_bestWorth se_fresh ch_both ch_cost ch_bit ch_items ch_leastCost ch_leastBits cl_bits cl_count fi_sets fi_count ps_act ps_whom ps_amount ps_next ps_count i0_seatOf i0_one i0_other i0_kind i0_years i0_sawn i0_pairs i0_gone i1_seatOf i1_one i1_other i1_kind i1_years i1_sawn i1_pairs i1_gone i2_seatOf i2_one i2_other i2_kind i2_years i2_sawn i2_pairs i2_gone) H locs → lv_has ls 4 [(2, .int o)] → W p l e (xR 1 21) s m args below meth c H locs 0 0 Q (F0 m 30 ls [])) :
    ∀ (n : Nat) (l2 : Int32) (l3 : Int32) (H : Heap) (locs : List Loc) (ls : Array Slot), xG s E A (wX E ad x_imageCount x_lastTrouble x_lastFault x_lastPlace pa_names pa_faultNumber pa_faultPlace rd_tape rd_length rd_end rd_next rd_sort rd_start rd_value rd_word to_unsurePair to_unsureYears to_triedPair to_seats to_slack to_sawInches to_quarrelChance to_people to_forkBits to_unsure to_tried to_triedFedBits tf_seatOf tf_one tf_other tf_kind tf_years tf_sawn tf_pairs tf_gone bd_unsurePair bd_unsureYears bd_triedPair bd_seats bd_slack bd_sawInches bd_quarrelChance bd_people bd_forkBits bd_unsure bd_tried bd_triedFedBits bf_seatOf bf_one bf_other bf_kind bf_years bf_sawn bf_pairs bf_gone nw_seatOf nw_one nw_other nw_kind nw_years nw_sawn nw_pairs nw_gone sc_seatOf sc_handle sc_both sc_slopOf sc_forkBits sc_canBits sc_bestBits sc_bestSlops sl_bits sl_count se_bestRow se_row se_pairAt se_hope se_hopeAt se_slopAt se_farBits se_gain se_worth se_bestWorth se_fresh ch_both ch_cost ch_bit ch_items ch_leastCost ch_leastBits cl_bits cl_count fi_sets fi_count ps_act ps_whom ps_amount ps_next ps_count i0_seatOf i0_one i0_other i0_kind i0_years i0_sawn i0_pairs i0_gone i1_seatOf i1_one i1_other i1_kind i1_years i1_sawn i1_pairs i1_gone i2_seatOf i2_one i2_other i2_kind i2_years i2_sawn i2_pairs i2_gone) H locs → lv_has ls 4 [(0, .int l0), (1, .ref (ad 55)), (2, .int l2), (3, .int l3)] → f_X_sumOf_L4 l0 ch_bit n l2 l3 = some o → W p l e (xR 1 21) s m args below meth c H locs 0 0 Q (F0 m 4 ls []) := by
  have hx := C.1
  have hb := C.2.1
  intro n
  induction n with
  | zero =>
    intro l2 l3 H locs ls G hl hf
    exact nomatch (show (none : Option (Int32)) = some o from hf)
  | succ n ih =>
    intro l2 l3 H locs ls G hl hf
    rw [f_X_sumOf_L4] at hf
    refine lv_iload_n hx hb dX10_sumOf_4 rfl (lv_at hl 3 rfl) ?_
    refine lv_aload_n hx hb dX10_sumOf_5 rfl (lv_at hl 1 rfl) ?_
    refine x_ialen C G (wX_at55) dX10_sumOf_6 ?_
    refine lv_icmp_ge (tgt := 30) hx hb dX10_sumOf_7 (by decide) (fun h => ?_) (fun h => ?_)
    · have hf := it_t h hf
      obtain rfl := Option.some.inj hf
      exact J _ _ _ G (lv_sub hl [2] rfl)
    · have hf := it_f h hf
      refine lv_iload_n hx hb dX10_sumOf_10 rfl (lv_at hl 0 rfl) ?_
      refine lv_iload_n hx hb dX10_sumOf_11 rfl (lv_at hl 3 rfl) ?_
      obtain ⟨x1, hc, hf⟩ := bd_go hf
      refine xI_S C G (c_X_has_any hc) mX10_has kX10_257 ⟨Nat.le_of_ble_eq_true rfl, Nat.le_of_ble_eq_true rfl⟩ rfl hl.1 rfl (Nat.le_of_ble_eq_true rfl) ⟨Nat.le_refl _, Nat.le_refl _⟩ dX10_sumOf_12 (fun hz1 H locs G => ?_)
      refine lv_if_eq (tgt := 24) hx hb dX10_sumOf_15 (by decide) (fun h => ?_) (fun h => ?_)
      · have hf := it_t h hf
        obtain ⟨x2, ex2⟩ : ∃ z : Int32, z = l3 + (1 : Int32) := ⟨_, rfl⟩
        have hf := lt_go ex2 hf
        refine lv_iinc (v := x2) (lv' := [(3, .int x2), (0, .int l0), (1, .ref (ad 55)), (2, .int l2)]) hx hb dX10_sumOf_24 hl (k := 3) rfl (by rw [ex2]; rfl) (by decide) rfl (fun ls hl => ?_)
        refine lv_goto (tgt := 4) hx hb dX10_sumOf_27 (by decide) ?_
        exact ih l2 x2 _ _ _ G (lv_sub hl [1, 2, 3, 0] rfl) hf
      · have hf := it_f h hf
        refine lv_iload_n hx hb dX10_sumOf_18 rfl (lv_at hl 2 rfl) ?_
        refine lv_aload_n hx hb dX10_sumOf_19 rfl (lv_at hl 1 rfl) ?_
        refine lv_iload_n hx hb dX10_sumOf_20 rfl (lv_at hl 3 rfl) ?_
        have hi := ck_in hf
        have hf := ck_go hf
        refine x_iald C G (wX_at55) hi dX10_sumOf_21 ?_
        refine lv_iadd hx hb dX10_sumOf_22 ?_
        refine lv_topi (fun x3 ex3 => ?_)
        have hf := lt_go ex3 hf
        refine lv_istore_n (lv' := [(2, .int x3), (0, .int l0), (1, .ref (ad 55)), (3, .int l3)]) hx hb dX10_sumOf_23 rfl hl (by decide) rfl (fun ls hl => ?_)
        obtain ⟨x4, ex4⟩ : ∃ z : Int32, z = l3 + (1 : Int32) := ⟨_, rfl⟩
        have hf := lt_go ex4 hf
        refine lv_iinc (v := x4) (lv' := [(3, .int x4), (2, .int x3), (0, .int l0), (1, .ref (ad 55))]) hx hb dX10_sumOf_24 hl (k := 3) rfl (by rw [ex4]; rfl) (by decide) rfl (fun ls hl => ?_)
        refine lv_goto (tgt := 4) hx hb dX10_sumOf_27 (by decide) ?_
        exact ih x3 x4 _ _ _ G (lv_sub hl [2, 3, 1, 0] rfl) hf
set_option maxHeartbeats 4000000 in
set_option maxRecDepth 100000 in
theorem c_X_sumOf_ch_bit {l : Launch} {E : xE} {ad : Nat → Nat} {x_imageCount x_lastTrouble x_lastFault x_lastPlace pa_faultNumber pa_faultPlace rd_length rd_end rd_next rd_sort rd_start rd_value to_seats to_slack to_sawInches to_quarrelChance to_people to_forkBits to_unsure to_tried to_triedFedBits tf_pairs tf_gone bd_seats bd_slack bd_sawInches bd_quarrelChance bd_people bd_forkBits bd_unsure bd_tried bd_triedFedBits bf_pairs bf_gone nw_pairs nw_gone sc_forkBits sc_canBits sc_bestBits sc_bestSlops sl_count se_bestWorth se_fresh ch_items ch_leastCost ch_leastBits cl_count fi_count ps_next ps_count i0_pairs i0_gone i1_pairs i1_gone i2_pairs i2_gone : Int32} {pa_names : Nat → Int64} {rd_tape to_unsurePair to_unsureYears to_triedPair tf_seatOf tf_one tf_other tf_kind tf_years tf_sawn bd_unsurePair bd_unsureYears bd_triedPair bf_seatOf bf_one bf_other bf_kind bf_years bf_sawn nw_seatOf nw_one nw_other nw_kind nw_years nw_sawn sc_seatOf sc_handle sc_both sc_slopOf sl_bits se_bestRow se_row se_pairAt se_hope se_hopeAt se_slopAt se_farBits se_gain se_worth ch_both ch_cost ch_bit cl_bits fi_sets ps_act ps_whom ps_amount i0_seatOf i0_one i0_other i0_kind i0_years i0_sawn i1_seatOf i1_one i1_other i1_kind i1_years i1_sawn i2_seatOf i2_one i2_other i2_kind i2_years i2_sawn : Nat → Int32} {rd_word : Int64} {l0 : Int32} {R0 : Int32} (hf : f_X_sumOf l0 ch_bit = some R0) : xI l E yX10_sumOf cX10_sumOf 4 (some .int) 1 21 [.int l0, .ref (ad 55)] (wX E ad x_imageCount x_lastTrouble x_lastFault x_lastPlace pa_names pa_faultNumber pa_faultPlace rd_tape rd_length rd_end rd_next rd_sort rd_start rd_value rd_word to_unsurePair to_unsureYears to_triedPair to_seats to_slack to_sawInches to_quarrelChance to_people to_forkBits to_unsure to_tried to_triedFedBits tf_seatOf tf_one tf_other tf_kind tf_years tf_sawn tf_pairs tf_gone bd_unsurePair bd_unsureYears bd_triedPair bd_seats bd_slack bd_sawInches bd_quarrelChance bd_people bd_forkBits bd_unsure bd_tried bd_triedFedBits bf_seatOf bf_one bf_other bf_kind bf_years bf_sawn bf_pairs bf_gone nw_seatOf nw_one nw_other nw_kind nw_years nw_sawn nw_pairs nw_gone sc_seatOf sc_handle sc_both sc_slopOf sc_forkBits sc_canBits sc_bestBits sc_bestSlops sl_bits sl_count se_bestRow se_row se_pairAt se_hope se_hopeAt se_slopAt se_farBits se_gain se_worth se_bestWorth se_fresh ch_both ch_cost ch_bit ch_items ch_leastCost ch_leastBits cl_bits cl_count fi_sets fi_count ps_act ps_whom ps_amount ps_next ps_count i0_seatOf i0_one i0_other i0_kind i0_years i0_sawn i0_pairs i0_gone i1_seatOf i1_one i1_other i1_kind i1_years i1_sawn i1_pairs i1_gone i2_seatOf i2_one i2_other i2_kind i2_years i2_sawn i2_pairs i2_gone) (wX E ad x_imageCount x_lastTrouble x_lastFault x_lastPlace pa_names pa_faultNumber pa_faultPlace rd_tape rd_length rd_end rd_next rd_sort rd_start rd_value rd_word to_unsurePair to_unsureYears to_triedPair to_seats to_slack to_sawInches to_quarrelChance to_people to_forkBits to_unsure to_tried to_triedFedBits tf_seatOf tf_one tf_other tf_kind tf_years tf_sawn tf_pairs tf_gone bd_unsurePair bd_unsureYears bd_triedPair bd_seats bd_slack bd_sawInches bd_quarrelChance bd_people bd_forkBits bd_unsure bd_tried bd_triedFedBits bf_seatOf bf_one bf_other bf_kind bf_years bf_sawn bf_pairs bf_gone nw_seatOf nw_one nw_other nw_kind nw_years nw_sawn nw_pairs nw_gone sc_seatOf sc_handle sc_both sc_slopOf sc_forkBits sc_canBits sc_bestBits sc_bestSlops sl_bits sl_count se_bestRow se_row se_pairAt se_hope se_hopeAt se_slopAt se_farBits se_gain se_worth se_bestWorth se_fresh ch_both ch_cost ch_bit ch_items ch_leastCost ch_leastBits cl_bits cl_count fi_sets fi_count ps_act ps_whom ps_amount ps_next ps_count i0_seatOf i0_one i0_other i0_kind i0_years i0_sawn i0_pairs i0_gone i1_seatOf i1_one i1_other i1_kind i1_years i1_sawn i1_pairs i1_gone i2_seatOf i2_one i2_other i2_kind i2_years i2_sawn i2_pairs i2_gone) R0 := by
  refine xI_of (by decide) (Nat.le_of_ble_eq_true rfl) (fun p e s m args below meth c A C ls hl G => ?_)
  have hx := C.1
  have hb := C.2.1
  have hl : lv_has ls 4 [(0, .int l0), (1, .ref (ad 55))] := hl
  unfold f_X_sumOf at hf
  refine lv_iconst (v := 0) hx hb dX10_sumOf_0 (by decide) ?_
  refine lv_istore_n (lv' := [(2, .int (0 : Int32)), (0, .int l0), (1, .ref (ad 55))]) hx hb dX10_sumOf_1 rfl hl (by decide) rfl (fun ls hl => ?_)
  refine lv_iconst (v := 0) hx hb dX10_sumOf_2 (by decide) ?_
  refine lv_istore_n (lv' := [(3, .int (0 : Int32)), (2, .int (0 : Int32)), (0, .int l0), (1, .ref (ad 55))]) hx hb dX10_sumOf_3 rfl hl (by decide) rfl (fun ls hl => ?_)
  obtain ⟨x5, hr, hf⟩ := bd_go hf
  have Jx5 : ∀ (H : Heap) (locs : List Loc) (ls : Array Slot), xG s E A (wX E ad x_imageCount x_lastTrouble x_lastFault x_lastPlace pa_names pa_faultNumber pa_faultPlace rd_tape rd_length rd_end rd_next rd_sort rd_start rd_value rd_word to_unsurePair to_unsureYears to_triedPair to_seats to_slack to_sawInches to_quarrelChance to_people to_forkBits to_unsure to_tried to_triedFedBits tf_seatOf tf_one tf_other tf_kind tf_years tf_sawn tf_pairs tf_gone bd_unsurePair bd_unsureYears bd_triedPair bd_seats bd_slack bd_sawInches bd_quarrelChance bd_people bd_forkBits bd_unsure bd_tried bd_triedFedBits bf_seatOf bf_one bf_other bf_kind bf_years bf_sawn bf_pairs bf_gone nw_seatOf nw_one nw_other nw_kind nw_years nw_sawn nw_pairs nw_gone sc_seatOf sc_handle sc_both sc_slopOf sc_forkBits sc_canBits sc_bestBits sc_bestSlops sl_bits sl_count se_bestRow se_row se_pairAt se_hope se_hopeAt se_slopAt se_farBits se_gain se_worth se_bestWorth se_fresh ch_both ch_cost ch_bit ch_items ch_leastCost ch_leastBits cl_bits cl_count fi_sets fi_count ps_act ps_whom ps_amount ps_next ps_count i0_seatOf i0_one i0_other i0_kind i0_years i0_sawn i0_pairs i0_gone i1_seatOf i1_one i1_other i1_kind i1_years i1_sawn i1_pairs i1_gone i2_seatOf i2_one i2_other i2_kind i2_years i2_sawn i2_pairs i2_gone) H locs → lv_has ls 4 [(2, .int x5)] → W p l e (xR 1 21) s m args below meth c H locs 0 0 (MQ below (xqI E A (wX E ad x_imageCount x_lastTrouble x_lastFault x_lastPlace pa_names pa_faultNumber pa_faultPlace rd_tape rd_length rd_end rd_next rd_sort rd_start rd_value rd_word to_unsurePair to_unsureYears to_triedPair to_seats to_slack to_sawInches to_quarrelChance to_people to_forkBits to_unsure to_tried to_triedFedBits tf_seatOf tf_one tf_other tf_kind tf_years tf_sawn tf_pairs tf_gone bd_unsurePair bd_unsureYears bd_triedPair bd_seats bd_slack bd_sawInches bd_quarrelChance bd_people bd_forkBits bd_unsure bd_tried bd_triedFedBits bf_seatOf bf_one bf_other bf_kind bf_years bf_sawn bf_pairs bf_gone nw_seatOf nw_one nw_other nw_kind nw_years nw_sawn nw_pairs nw_gone sc_seatOf sc_handle sc_both sc_slopOf sc_forkBits sc_canBits sc_bestBits sc_bestSlops sl_bits sl_count se_bestRow se_row se_pairAt se_hope se_hopeAt se_slopAt se_farBits se_gain se_worth se_bestWorth se_fresh ch_both ch_cost ch_bit ch_items ch_leastCost ch_leastBits cl_bits cl_count fi_sets fi_count ps_act ps_whom ps_amount ps_next ps_count i0_seatOf i0_one i0_other i0_kind i0_years i0_sawn i0_pairs i0_gone i1_seatOf i1_one i1_other i1_kind i1_years i1_sawn i1_pairs i1_gone i2_seatOf i2_one i2_other i2_kind i2_years i2_sawn i2_pairs i2_gone) (some .int) R0) args s 0 0 A) (F0 m 30 ls []) := by
    intro H locs ls G hl
    refine lv_iload_n hx hb dX10_sumOf_30 rfl (lv_at hl 0 rfl) ?_
    obtain rfl := Option.some.inj hf
    exact xI_ret C G rfl dX10_sumOf_31
  exact w_X_sumOf_ch_bit_L4 C Jx5 fu _ _ _ _ _ G (lv_sub hl [2, 3, 1, 0] rfl) hr
set_option maxHeartbeats 4000000 in
set_option maxRecDepth 100000 in
theorem c_Choice_consider_ch {l : Launch} {E : xE} {ad : Nat → Nat} {x_imageCount x_lastTrouble x_lastFault x_lastPlace pa_faultNumber pa_faultPlace rd_length rd_end rd_next rd_sort rd_start rd_value to_seats to_slack to_sawInches to_quarrelChance to_people to_forkBits to_unsure to_tried to_triedFedBits tf_pairs tf_gone bd_seats bd_slack bd_sawInches bd_quarrelChance bd_people bd_forkBits bd_unsure bd_tried bd_triedFedBits bf_pairs bf_gone nw_pairs nw_gone sc_forkBits sc_canBits sc_bestBits sc_bestSlops sl_count se_bestWorth se_fresh ch_items ch_leastCost ch_leastBits cl_count fi_count ps_next ps_count i0_pairs i0_gone i1_pairs i1_gone i2_pairs i2_gone : Int32} {pa_names : Nat → Int64} {rd_tape to_unsurePair to_unsureYears to_triedPair tf_seatOf tf_one tf_other tf_kind tf_years tf_sawn bd_unsurePair bd_unsureYears bd_triedPair bf_seatOf bf_one bf_other bf_kind bf_years bf_sawn nw_seatOf nw_one nw_other nw_kind nw_years nw_sawn sc_seatOf sc_handle sc_both sc_slopOf sl_bits se_bestRow se_row se_pairAt se_hope se_hopeAt se_slopAt se_farBits se_gain se_worth ch_both ch_cost ch_bit cl_bits fi_sets ps_act ps_whom ps_amount i0_seatOf i0_one i0_other i0_kind i0_years i0_sawn i1_seatOf i1_one i1_other i1_kind i1_years i1_sawn i2_seatOf i2_one i2_other i2_kind i2_years i2_sawn : Nat → Int32} {rd_word : Int64} {l1 : Int32} {l2 : Int32} {R0 : Int32 × Int32} (hf : f_Choice_consider l1 l2 ch_leastCost ch_leastBits = some R0) : xV l E yX1_consider cX1_consider 3 none 0 0 [.ref (ad 52), .int l1, .int l2] (wX E ad x_imageCount x_lastTrouble x_lastFault x_lastPlace pa_names pa_faultNumber pa_faultPlace rd_tape rd_length rd_end rd_next rd_sort rd_start rd_value rd_word to_unsurePair to_unsureYears to_triedPair to_seats to_slack to_sawInches to_quarrelChance to_people to_forkBits to_unsure to_tried to_triedFedBits tf_seatOf tf_one tf_other tf_kind tf_years tf_sawn tf_pairs tf_gone bd_unsurePair bd_unsureYears bd_triedPair bd_seats bd_slack bd_sawInches bd_quarrelChance bd_people bd_forkBits bd_unsure bd_tried bd_triedFedBits bf_seatOf bf_one bf_other bf_kind bf_years bf_sawn bf_pairs bf_gone nw_seatOf nw_one nw_other nw_kind nw_years nw_sawn nw_pairs nw_gone sc_seatOf sc_handle sc_both sc_slopOf sc_forkBits sc_canBits sc_bestBits sc_bestSlops sl_bits sl_count se_bestRow se_row se_pairAt se_hope se_hopeAt se_slopAt se_farBits se_gain se_worth se_bestWorth se_fresh ch_both ch_cost ch_bit ch_items ch_leastCost ch_leastBits cl_bits cl_count fi_sets fi_count ps_act ps_whom ps_amount ps_next ps_count i0_seatOf i0_one i0_other i0_kind i0_years i0_sawn i0_pairs i0_gone i1_seatOf i1_one i1_other i1_kind i1_years i1_sawn i1_pairs i1_gone i2_seatOf i2_one i2_other i2_kind i2_years i2_sawn i2_pairs i2_gone) (wX E ad x_imageCount x_lastTrouble x_lastFault x_lastPlace pa_names pa_faultNumber pa_faultPlace rd_tape rd_length rd_end rd_next rd_sort rd_start rd_value rd_word to_unsurePair to_unsureYears to_triedPair to_seats to_slack to_sawInches to_quarrelChance to_people to_forkBits to_unsure to_tried to_triedFedBits tf_seatOf tf_one tf_other tf_kind tf_years tf_sawn tf_pairs tf_gone bd_unsurePair bd_unsureYears bd_triedPair bd_seats bd_slack bd_sawInches bd_quarrelChance bd_people bd_forkBits bd_unsure bd_tried bd_triedFedBits bf_seatOf bf_one bf_other bf_kind bf_years bf_sawn bf_pairs bf_gone nw_seatOf nw_one nw_other nw_kind nw_years nw_sawn nw_pairs nw_gone sc_seatOf sc_handle sc_both sc_slopOf sc_forkBits sc_canBits sc_bestBits sc_bestSlops sl_bits sl_count se_bestRow se_row se_pairAt se_hope se_hopeAt se_slopAt se_farBits se_gain se_worth se_bestWorth se_fresh ch_both ch_cost ch_bit ch_items R0.1 R0.2 cl_bits cl_count fi_sets fi_count ps_act ps_whom ps_amount ps_next ps_count i0_seatOf i0_one i0_other i0_kind i0_years i0_sawn i0_pairs i0_gone i1_seatOf i1_one i1_other i1_kind i1_years i1_sawn i1_pairs i1_gone i2_seatOf i2_one i2_other i2_kind i2_years i2_sawn i2_pairs i2_gone) := by
  refine xV_of (by decide) (Nat.le_of_ble_eq_true rfl) (fun p e s m args below meth c A C ls hl G => ?_)
  have hx := C.1
  have hb := C.2.1
  have hl : lv_has ls 3 [(0, .ref (ad 52)), (1, .int l1), (2, .int l2)] := hl
  unfold f_Choice_consider at hf
  refine lv_aload_n hx hb dX1_consider_0 rfl (lv_at hl 0 rfl) ?_
  refine x_get C G fX1_36.g (wX_at52) rfl dX1_consider_1 ?_
  obtain ⟨b1, hr, hf⟩ := bd_go hf
  cases b1 with
  | true =>
    have hf := it_t rfl hf
    have J : ∀ (H : Heap) (locs : List Loc), xG s E A (wX E ad x_imageCount x_lastTrouble x_lastFault x_lastPlace pa_names pa_faultNumber pa_faultPlace rd_tape rd_length rd_end rd_next rd_sort rd_start rd_value rd_word to_unsurePair to_unsureYears to_triedPair to_seats to_slack to_sawInches to_quarrelChance to_people to_forkBits to_unsure to_tried to_triedFedBits tf_seatOf tf_one tf_other tf_kind tf_years tf_sawn tf_pairs tf_gone bd_unsurePair bd_unsureYears bd_triedPair bd_seats bd_slack bd_sawInches bd_quarrelChance bd_people bd_forkBits bd_unsure bd_tried bd_triedFedBits bf_seatOf bf_one bf_other bf_kind bf_years bf_sawn bf_pairs bf_gone nw_seatOf nw_one nw_other nw_kind nw_years nw_sawn nw_pairs nw_gone sc_seatOf sc_handle sc_both sc_slopOf sc_forkBits sc_canBits sc_bestBits sc_bestSlops sl_bits sl_count se_bestRow se_row se_pairAt se_hope se_hopeAt se_slopAt se_farBits se_gain se_worth se_bestWorth se_fresh ch_both ch_cost ch_bit ch_items ch_leastCost ch_leastBits cl_bits cl_count fi_sets fi_count ps_act ps_whom ps_amount ps_next ps_count i0_seatOf i0_one i0_other i0_kind i0_years i0_sawn i0_pairs i0_gone i1_seatOf i1_one i1_other i1_kind i1_years i1_sawn i1_pairs i1_gone i2_seatOf i2_one i2_other i2_kind i2_years i2_sawn i2_pairs i2_gone) H locs → W p l e (xR 0 0) s m args below meth c H locs 0 0 (MQ below (xqV E A (wX E ad x_imageCount x_lastTrouble x_lastFault x_lastPlace pa_names pa_faultNumber pa_faultPlace rd_tape rd_length rd_end rd_next rd_sort rd_start rd_value rd_word to_unsurePair to_unsureYears to_triedPair to_seats to_slack to_sawInches to_quarrelChance to_people to_forkBits to_unsure to_tried to_triedFedBits tf_seatOf tf_one tf_other tf_kind tf_years tf_sawn tf_pairs tf_gone bd_unsurePair bd_unsureYears bd_triedPair bd_seats bd_slack bd_sawInches bd_quarrelChance bd_people bd_forkBits bd_unsure bd_tried bd_triedFedBits bf_seatOf bf_one bf_other bf_kind bf_years bf_sawn bf_pairs bf_gone nw_seatOf nw_one nw_other nw_kind nw_years nw_sawn nw_pairs nw_gone sc_seatOf sc_handle sc_both sc_slopOf sc_forkBits sc_canBits sc_bestBits sc_bestSlops sl_bits sl_count se_bestRow se_row se_pairAt se_hope se_hopeAt se_slopAt se_farBits se_gain se_worth se_bestWorth se_fresh ch_both ch_cost ch_bit ch_items R0.1 R0.2 cl_bits cl_count fi_sets fi_count ps_act ps_whom ps_amount ps_next ps_count i0_seatOf i0_one i0_other i0_kind i0_years i0_sawn i0_pairs i0_gone i1_seatOf i1_one i1_other i1_kind i1_years i1_sawn i1_pairs i1_gone i2_seatOf i2_one i2_other i2_kind i2_years i2_sawn i2_pairs i2_gone)) args s 0 0 A) (F0 m 31 ls []) := by
      intro H locs G
      refine lv_aload_n hx hb dX1_consider_31 rfl (lv_at hl 0 rfl) ?_
      refine lv_iload_n hx hb dX1_consider_32 rfl (lv_at hl 1 rfl) ?_
      refine x_put (ws' := (wX E ad x_imageCount x_lastTrouble x_lastFault x_lastPlace pa_names pa_faultNumber pa_faultPlace rd_tape rd_length rd_end rd_next rd_sort rd_start rd_value rd_word to_unsurePair to_unsureYears to_triedPair to_seats to_slack to_sawInches to_quarrelChance to_people to_forkBits to_unsure to_tried to_triedFedBits tf_seatOf tf_one tf_other tf_kind tf_years tf_sawn tf_pairs tf_gone bd_unsurePair bd_unsureYears bd_triedPair bd_seats bd_slack bd_sawInches bd_quarrelChance bd_people bd_forkBits bd_unsure bd_tried bd_triedFedBits bf_seatOf bf_one bf_other bf_kind bf_years bf_sawn bf_pairs bf_gone nw_seatOf nw_one nw_other nw_kind nw_years nw_sawn nw_pairs nw_gone sc_seatOf sc_handle sc_both sc_slopOf sc_forkBits sc_canBits sc_bestBits sc_bestSlops sl_bits sl_count se_bestRow se_row se_pairAt se_hope se_hopeAt se_slopAt se_farBits se_gain se_worth se_bestWorth se_fresh ch_both ch_cost ch_bit ch_items l1 ch_leastBits cl_bits cl_count fi_sets fi_count ps_act ps_whom ps_amount ps_next ps_count i0_seatOf i0_one i0_other i0_kind i0_years i0_sawn i0_pairs i0_gone i1_seatOf i1_one i1_other i1_kind i1_years i1_sawn i1_pairs i1_gone i2_seatOf i2_one i2_other i2_kind i2_years i2_sawn i2_pairs i2_gone)) C G fX1_36 (wX_at52) rfl rfl (Nat.le_of_ble_eq_true rfl) wX_set_ch_leastCost dX1_consider_33 (fun H locs G => ?_)
      refine lv_aload_n hx hb dX1_consider_36 rfl (lv_at hl 0 rfl) ?_
      refine lv_iload_n hx hb dX1_consider_37 rfl (lv_at hl 2 rfl) ?_
      refine x_put (ws' := (wX E ad x_imageCount x_lastTrouble x_lastFault x_lastPlace pa_names pa_faultNumber pa_faultPlace rd_tape rd_length rd_end rd_next rd_sort rd_start rd_value rd_word to_unsurePair to_unsureYears to_triedPair to_seats to_slack to_sawInches to_quarrelChance to_people to_forkBits to_unsure to_tried to_triedFedBits tf_seatOf tf_one tf_other tf_kind tf_years tf_sawn tf_pairs tf_gone bd_unsurePair bd_unsureYears bd_triedPair bd_seats bd_slack bd_sawInches bd_quarrelChance bd_people bd_forkBits bd_unsure bd_tried bd_triedFedBits bf_seatOf bf_one bf_other bf_kind bf_years bf_sawn bf_pairs bf_gone nw_seatOf nw_one nw_other nw_kind nw_years nw_sawn nw_pairs nw_gone sc_seatOf sc_handle sc_both sc_slopOf sc_forkBits sc_canBits sc_bestBits sc_bestSlops sl_bits sl_count se_bestRow se_row se_pairAt se_hope se_hopeAt se_slopAt se_farBits se_gain se_worth se_bestWorth se_fresh ch_both ch_cost ch_bit ch_items l1 l2 cl_bits cl_count fi_sets fi_count ps_act ps_whom ps_amount ps_next ps_count i0_seatOf i0_one i0_other i0_kind i0_years i0_sawn i0_pairs i0_gone i1_seatOf i1_one i1_other i1_kind i1_years i1_sawn i1_pairs i1_gone i2_seatOf i2_one i2_other i2_kind i2_years i2_sawn i2_pairs i2_gone)) C G fX1_39 (wX_at52) rfl rfl (Nat.le_of_ble_eq_true rfl) wX_set_ch_leastBits dX1_consider_38 (fun H locs G => ?_)
      obtain rfl := Option.some.inj hf
      exact xV_ret C G dX1_consider_41
    have hf := hr
    clear hr
    refine lv_if_lt (tgt := 31) hx hb dX1_consider_4 (by decide) (fun h => ?_) (fun h => ?_)
    · have hf := it_t h hf
      exact J _ _ G
    · have hf := it_f h hf
      refine lv_iload_n hx hb dX1_consider_7 rfl (lv_at hl 1 rfl) ?_
      refine lv_aload_n hx hb dX1_consider_8 rfl (lv_at hl 0 rfl) ?_
      refine x_get C G fX1_36.g (wX_at52) rfl dX1_consider_9 ?_
      refine lv_icmp_lt (tgt := 31) hx hb dX1_consider_12 (by decide) (fun h => ?_) (fun h => ?_)
      · have hf := it_t h hf
        exact J _ _ G
      · have hf := it_f h hf
        refine lv_iload_n hx hb dX1_consider_15 rfl (lv_at hl 1 rfl) ?_
        refine lv_aload_n hx hb dX1_consider_16 rfl (lv_at hl 0 rfl) ?_
        refine x_get C G fX1_36.g (wX_at52) rfl dX1_consider_17 ?_
        refine lv_icmp_ne (tgt := 41) hx hb dX1_consider_20 (by decide) (fun h => ?_) (fun h => ?_)
        · have hf := it_f h hf
          exact absurd (Option.some.inj hf) (by decide)
        · have hf := it_t h hf
          refine lv_iload_n hx hb dX1_consider_23 rfl (lv_at hl 2 rfl) ?_
          refine lv_aload_n hx hb dX1_consider_24 rfl (lv_at hl 0 rfl) ?_
          refine x_get C G fX1_39.g (wX_at52) rfl dX1_consider_25 ?_
          refine lv_icmp_ge (tgt := 41) hx hb dX1_consider_28 (by decide) (fun h => ?_) (fun h => ?_)
          · have hf := it_t h hf
            exact absurd (Option.some.inj hf) (by decide)
          · have hf := it_f h hf
            exact J _ _ G
  | false =>
    have hf := it_f (by decide) hf
    have J : ∀ (H : Heap) (locs : List Loc), xG s E A (wX E ad x_imageCount x_lastTrouble x_lastFault x_lastPlace pa_names pa_faultNumber pa_faultPlace rd_tape rd_length rd_end rd_next rd_sort rd_start rd_value rd_word to_unsurePair to_unsureYears to_triedPair to_seats to_slack to_sawInches to_quarrelChance to_people to_forkBits to_unsure to_tried to_triedFedBits tf_seatOf tf_one tf_other tf_kind tf_years tf_sawn tf_pairs tf_gone bd_unsurePair bd_unsureYears bd_triedPair bd_seats bd_slack bd_sawInches bd_quarrelChance bd_people bd_forkBits bd_unsure bd_tried bd_triedFedBits bf_seatOf bf_one bf_other bf_kind bf_years bf_sawn bf_pairs bf_gone nw_seatOf nw_one nw_other nw_kind nw_years nw_sawn nw_pairs nw_gone sc_seatOf sc_handle sc_both sc_slopOf sc_forkBits sc_canBits sc_bestBits sc_bestSlops sl_bits sl_count se_bestRow se_row se_pairAt se_hope se_hopeAt se_slopAt se_farBits se_gain se_worth se_bestWorth se_fresh ch_both ch_cost ch_bit ch_items ch_leastCost ch_leastBits cl_bits cl_count fi_sets fi_count ps_act ps_whom ps_amount ps_next ps_count i0_seatOf i0_one i0_other i0_kind i0_years i0_sawn i0_pairs i0_gone i1_seatOf i1_one i1_other i1_kind i1_years i1_sawn i1_pairs i1_gone i2_seatOf i2_one i2_other i2_kind i2_years i2_sawn i2_pairs i2_gone) H locs → W p l e (xR 0 0) s m args below meth c H locs 0 0 (MQ below (xqV E A (wX E ad x_imageCount x_lastTrouble x_lastFault x_lastPlace pa_names pa_faultNumber pa_faultPlace rd_tape rd_length rd_end rd_next rd_sort rd_start rd_value rd_word to_unsurePair to_unsureYears to_triedPair to_seats to_slack to_sawInches to_quarrelChance to_people to_forkBits to_unsure to_tried to_triedFedBits tf_seatOf tf_one tf_other tf_kind tf_years tf_sawn tf_pairs tf_gone bd_unsurePair bd_unsureYears bd_triedPair bd_seats bd_slack bd_sawInches bd_quarrelChance bd_people bd_forkBits bd_unsure bd_tried bd_triedFedBits bf_seatOf bf_one bf_other bf_kind bf_years bf_sawn bf_pairs bf_gone nw_seatOf nw_one nw_other nw_kind nw_years nw_sawn nw_pairs nw_gone sc_seatOf sc_handle sc_both sc_slopOf sc_forkBits sc_canBits sc_bestBits sc_bestSlops sl_bits sl_count se_bestRow se_row se_pairAt se_hope se_hopeAt se_slopAt se_farBits se_gain se_worth se_bestWorth se_fresh ch_both ch_cost ch_bit ch_items R0.1 R0.2 cl_bits cl_count fi_sets fi_count ps_act ps_whom ps_amount ps_next ps_count i0_seatOf i0_one i0_other i0_kind i0_years i0_sawn i0_pairs i0_gone i1_seatOf i1_one i1_other i1_kind i1_years i1_sawn i1_pairs i1_gone i2_seatOf i2_one i2_other i2_kind i2_years i2_sawn i2_pairs i2_gone)) args s 0 0 A) (F0 m 41 ls []) := by
      intro H locs G
      obtain rfl := Option.some.inj hf
      exact xV_ret C G dX1_consider_41
    have hf := hr
    clear hr
    refine lv_if_lt (tgt := 31) hx hb dX1_consider_4 (by decide) (fun h => ?_) (fun h => ?_)
    · have hf := it_t h hf
      exact absurd (Option.some.inj hf) (by decide)
    · have hf := it_f h hf
      refine lv_iload_n hx hb dX1_consider_7 rfl (lv_at hl 1 rfl) ?_
      refine lv_aload_n hx hb dX1_consider_8 rfl (lv_at hl 0 rfl) ?_
      refine x_get C G fX1_36.g (wX_at52) rfl dX1_consider_9 ?_
      refine lv_icmp_lt (tgt := 31) hx hb dX1_consider_12 (by decide) (fun h => ?_) (fun h => ?_)
      · have hf := it_t h hf
        exact absurd (Option.some.inj hf) (by decide)
      · have hf := it_f h hf
        refine lv_iload_n hx hb dX1_consider_15 rfl (lv_at hl 1 rfl) ?_
        refine lv_aload_n hx hb dX1_consider_16 rfl (lv_at hl 0 rfl) ?_
        refine x_get C G fX1_36.g (wX_at52) rfl dX1_consider_17 ?_
        refine lv_icmp_ne (tgt := 41) hx hb dX1_consider_20 (by decide) (fun h => ?_) (fun h => ?_)
        · have hf := it_f h hf
          exact J _ _ G
        · have hf := it_t h hf
          refine lv_iload_n hx hb dX1_consider_23 rfl (lv_at hl 2 rfl) ?_
          refine lv_aload_n hx hb dX1_consider_24 rfl (lv_at hl 0 rfl) ?_
          refine x_get C G fX1_39.g (wX_at52) rfl dX1_consider_25 ?_
          refine lv_icmp_ge (tgt := 41) hx hb dX1_consider_28 (by decide) (fun h => ?_) (fun h => ?_)
          · have hf := it_t h hf
            exact J _ _ G
          · have hf := it_f h hf
            exact absurd (Option.some.inj hf) (by decide)
set_option maxHeartbeats 4000000 in
set_option maxRecDepth 100000 in
theorem w_Choice_decide_ch_L4 {p : Program} {l : Launch} {e : Env} {s : State} {m : MethodId} {args : Array Value} {below : List Frame} {meth : Method} {c : Code} {A : Nat → Prop} {E : xE} {Q : State → Prop} {ad : Nat → Nat} {x_imageCount x_lastTrouble x_lastFault x_lastPlace pa_faultNumber pa_faultPlace rd_length rd_end rd_next rd_sort rd_start rd_value to_seats to_slack to_sawInches to_quarrelChance to_people to_forkBits to_unsure to_tried to_triedFedBits tf_pairs tf_gone bd_seats bd_slack bd_sawInches bd_quarrelChance bd_people bd_forkBits bd_unsure bd_tried bd_triedFedBits bf_pairs bf_gone nw_pairs nw_gone sc_forkBits sc_canBits sc_bestBits sc_bestSlops sl_count se_bestWorth se_fresh ch_items ch_leastCost ch_leastBits cl_count fi_count ps_next ps_count i0_pairs i0_gone i1_pairs i1_gone i2_pairs i2_gone : Int32} {pa_names : Nat → Int64} {rd_tape to_unsurePair to_unsureYears to_triedPair tf_seatOf tf_one tf_other tf_kind tf_years tf_sawn bd_unsurePair bd_unsureYears bd_triedPair bf_seatOf bf_one bf_other bf_kind bf_years bf_sawn nw_seatOf nw_one nw_other nw_kind nw_years nw_sawn sc_seatOf sc_handle sc_both sc_slopOf sl_bits se_bestRow se_row se_pairAt se_hope se_hopeAt se_slopAt se_farBits se_gain se_worth ch_both ch_cost ch_bit cl_bits fi_sets ps_act ps_whom ps_amount i0_seatOf i0_one i0_other i0_kind i0_years i0_sawn i1_seatOf i1_one i1_other i1_kind i1_years i1_sawn i2_seatOf i2_one i2_other i2_kind i2_years i2_sawn : Nat → Int32} {rd_word : Int64} {l1 : Int32} {o : Int32} (C : xC p s m args meth c cX1_decide 4 RX1 E A none) (J : ∀ (H : Heap) (locs : List Loc) (ls : Array Slot), xG s E A (wX E ad x_imageCount x_lastTrouble x_lastFault x_lastPlace pa_names pa_faultNumber pa_faultPlace rd_tape rd_length rd_end rd_next rd_sort rd_start rd_value rd_word to_unsurePair to_unsureYears to_triedPair to_seats to_slack to_sawInches to_quarrelChance to_people to_forkBits to_unsure to_tried to_triedFedBits tf_seatOf tf_one tf_other tf_kind tf_years tf_sawn tf_pairs tf_gone bd_unsurePair bd_unsureYears bd_triedPair bd_seats bd_slack bd_sawInches bd_quarrelChance bd_people bd_forkBits bd_unsure bd_tried bd_triedFedBits bf_seatOf bf_one bf_other bf_kind bf_years bf_sawn bf_pairs bf_gone nw_seatOf nw_one nw_other nw_kind nw_years nw_sawn nw_pairs nw_gone sc_seatOf sc_handle sc_both sc_slopOf sc_forkBits sc_canBits sc_bestBits sc_bestSlops sl_bits sl_count se_bestRow se_row se_pairAt se_hope se_hopeAt se_slopAt se_farBits se_gain se_worth se_bestWorth se_fresh ch_both ch_cost ch_bit ch_items ch_leastCost ch_leastBits cl_bits cl_count fi_sets fi_count ps_act ps_whom ps_amount ps_next ps_count i0_seatOf i0_one i0_other i0_kind i0_years i0_sawn i0_pairs i0_gone i1_seatOf i1_one i1_other i1_kind i1_years i1_sawn i1_pairs i1_gone i2_seatOf i2_one i2_other i2_kind i2_years i2_sawn i2_pairs i2_gone) H locs → lv_has ls 4 [(0, .ref (ad 52)), (1, .int l1), (2, .int o)] → W p l e (xR 2 46) s m args below meth c H locs 0 0 Q (F0 m 33 ls [])) :
    ∀ (n : Nat) (l2 : Int32) (l3 : Int32) (H : Heap) (locs : List Loc) (ls : Array Slot), xG s E A (wX E ad x_imageCount x_lastTrouble x_lastFault x_lastPlace pa_names pa_faultNumber pa_faultPlace rd_tape rd_length rd_end rd_next rd_sort rd_start rd_value rd_word to_unsurePair to_unsureYears to_triedPair to_seats to_slack to_sawInches to_quarrelChance to_people to_forkBits to_unsure to_tried to_triedFedBits tf_seatOf tf_one tf_other tf_kind tf_years tf_sawn tf_pairs tf_gone bd_unsurePair bd_unsureYears bd_triedPair bd_seats bd_slack bd_sawInches bd_quarrelChance bd_people bd_forkBits bd_unsure bd_tried bd_triedFedBits bf_seatOf bf_one bf_other bf_kind bf_years bf_sawn bf_pairs bf_gone nw_seatOf nw_one nw_other nw_kind nw_years nw_sawn nw_pairs nw_gone sc_seatOf sc_handle sc_both sc_slopOf sc_forkBits sc_canBits sc_bestBits sc_bestSlops sl_bits sl_count se_bestRow se_row se_pairAt se_hope se_hopeAt se_slopAt se_farBits se_gain se_worth se_bestWorth se_fresh ch_both ch_cost ch_bit ch_items ch_leastCost ch_leastBits cl_bits cl_count fi_sets fi_count ps_act ps_whom ps_amount ps_next ps_count i0_seatOf i0_one i0_other i0_kind i0_years i0_sawn i0_pairs i0_gone i1_seatOf i1_one i1_other i1_kind i1_years i1_sawn i1_pairs i1_gone i2_seatOf i2_one i2_other i2_kind i2_years i2_sawn i2_pairs i2_gone) H locs → lv_has ls 4 [(0, .ref (ad 52)), (1, .int l1), (2, .int l2), (3, .int l3)] → f_Choice_decide_L4 ch_cost ch_items n l2 l3 = some o → W p l e (xR 2 46) s m args below meth c H locs 0 0 Q (F0 m 4 ls []) := by
  have hx := C.1
  have hb := C.2.1
  intro n
  induction n with
  | zero =>
    intro l2 l3 H locs ls G hl hf
    exact nomatch (show (none : Option (Int32)) = some o from hf)
  | succ n ih =>
    intro l2 l3 H locs ls G hl hf
    rw [f_Choice_decide_L4] at hf
    refine lv_iload_n hx hb dX1_decide_4 rfl (lv_at hl 3 rfl) ?_
    refine lv_aload_n hx hb dX1_decide_5 rfl (lv_at hl 0 rfl) ?_
    refine x_get C G fX1_28.g (wX_at52) rfl dX1_decide_6 ?_
    refine lv_icmp_ge (tgt := 33) hx hb dX1_decide_9 (by decide) (fun h => ?_) (fun h => ?_)
    · have hf := it_t h hf
      obtain rfl := Option.some.inj hf
      exact J _ _ _ G (lv_sub hl [0, 1, 2] rfl)
    · have hf := it_f h hf
      refine lv_aload_n hx hb dX1_decide_12 rfl (lv_at hl 0 rfl) ?_
      refine x_get C G fX1_15 (wX_at52) rfl dX1_decide_13 ?_
      refine lv_iload_n hx hb dX1_decide_16 rfl (lv_at hl 3 rfl) ?_
      have hi := ck_in hf
      have hf := ck_go hf
      refine x_iald C G (wX_at54) hi dX1_decide_17 ?_
      refine lv_if_lt (tgt := 27) hx hb dX1_decide_18 (by decide) (fun h => ?_) (fun h => ?_)
      · have hf := it_t h hf
        obtain ⟨x1, ex1⟩ : ∃ z : Int32, z = l3 + (1 : Int32) := ⟨_, rfl⟩
        have hf := lt_go ex1 hf
        refine lv_iinc (v := x1) (lv' := [(3, .int x1), (0, .ref (ad 52)), (1, .int l1), (2, .int l2)]) hx hb dX1_decide_27 hl (k := 3) rfl (by rw [ex1]; rfl) (by decide) rfl (fun ls hl => ?_)
        refine lv_goto (tgt := 4) hx hb dX1_decide_30 (by decide) ?_
        exact ih l2 x1 _ _ _ G (lv_sub hl [1, 2, 3, 0] rfl) hf
      · have hf := it_f h hf
        refine lv_iload_n hx hb dX1_decide_21 rfl (lv_at hl 2 rfl) ?_
        refine lv_iconst (v := 1) hx hb dX1_decide_22 (by decide) ?_
        refine lv_iload_n hx hb dX1_decide_23 rfl (lv_at hl 3 rfl) ?_
        refine lv_ishl hx hb dX1_decide_24 ?_
        refine lv_ior hx hb dX1_decide_25 ?_
        refine lv_topi (fun x2 ex2 => ?_)
        have hf := lt_go ex2 hf
        refine lv_istore_n (lv' := [(2, .int x2), (0, .ref (ad 52)), (1, .int l1), (3, .int l3)]) hx hb dX1_decide_26 rfl hl (by decide) rfl (fun ls hl => ?_)
        obtain ⟨x3, ex3⟩ : ∃ z : Int32, z = l3 + (1 : Int32) := ⟨_, rfl⟩
        have hf := lt_go ex3 hf
        refine lv_iinc (v := x3) (lv' := [(3, .int x3), (2, .int x2), (0, .ref (ad 52)), (1, .int l1)]) hx hb dX1_decide_27 hl (k := 3) rfl (by rw [ex3]; rfl) (by decide) rfl (fun ls hl => ?_)
        refine lv_goto (tgt := 4) hx hb dX1_decide_30 (by decide) ?_
        exact ih x2 x3 _ _ _ G (lv_sub hl [2, 3, 1, 0] rfl) hf
set_option maxHeartbeats 4000000 in
set_option maxRecDepth 100000 in
theorem w_Choice_decide_ch_L62 {p : Program} {l : Launch} {e : Env} {s : State} {m : MethodId} {args : Array Value} {below : List Frame} {meth : Method} {c : Code} {A : Nat → Prop} {E : xE} {Q : State → Prop} {ad : Nat → Nat} {x_imageCount x_lastTrouble x_lastFault x_lastPlace pa_faultNumber pa_faultPlace rd_length rd_end rd_next rd_sort rd_start rd_value to_seats to_slack to_sawInches to_quarrelChance to_people to_forkBits to_unsure to_tried to_triedFedBits tf_pairs tf_gone bd_seats bd_slack bd_sawInches bd_quarrelChance bd_people bd_forkBits bd_unsure bd_tried bd_triedFedBits bf_pairs bf_gone nw_pairs nw_gone sc_forkBits sc_canBits sc_bestBits sc_bestSlops sl_count se_bestWorth se_fresh ch_items cl_count fi_count ps_next ps_count i0_pairs i0_gone i1_pairs i1_gone i2_pairs i2_gone : Int32} {pa_names : Nat → Int64} {rd_tape to_unsurePair to_unsureYears to_triedPair tf_seatOf tf_one tf_other tf_kind tf_years tf_sawn bd_unsurePair bd_unsureYears bd_triedPair bf_seatOf bf_one bf_other bf_kind bf_years bf_sawn nw_seatOf nw_one nw_other nw_kind nw_years nw_sawn sc_seatOf sc_handle sc_both sc_slopOf sl_bits se_bestRow se_row se_pairAt se_hope se_hopeAt se_slopAt se_farBits se_gain se_worth ch_both ch_cost ch_bit cl_bits fi_sets ps_act ps_whom ps_amount i0_seatOf i0_one i0_other i0_kind i0_years i0_sawn i1_seatOf i1_one i1_other i1_kind i1_years i1_sawn i2_seatOf i2_one i2_other i2_kind i2_years i2_sawn : Nat → Int32} {rd_word : Int64} {l1 : Int32} {o : Int32 × Int32} (C : xC p s m args meth c cX1_decide 4 RX1 E A none) (J : ∀ (H : Heap) (locs : List Loc) (ls : Array Slot), xG s E A (wX E ad x_imageCount x_lastTrouble x_lastFault x_lastPlace pa_names pa_faultNumber pa_faultPlace rd_tape rd_length rd_end rd_next rd_sort rd_start rd_value rd_word to_unsurePair to_unsureYears to_triedPair to_seats to_slack to_sawInches to_quarrelChance to_people to_forkBits to_unsure to_tried to_triedFedBits tf_seatOf tf_one tf_other tf_kind tf_years tf_sawn tf_pairs tf_gone bd_unsurePair bd_unsureYears bd_triedPair bd_seats bd_slack bd_sawInches bd_quarrelChance bd_people bd_forkBits bd_unsure bd_tried bd_triedFedBits bf_seatOf bf_one bf_other bf_kind bf_years bf_sawn bf_pairs bf_gone nw_seatOf nw_one nw_other nw_kind nw_years nw_sawn nw_pairs nw_gone sc_seatOf sc_handle sc_both sc_slopOf sc_forkBits sc_canBits sc_bestBits sc_bestSlops sl_bits sl_count se_bestRow se_row se_pairAt se_hope se_hopeAt se_slopAt se_farBits se_gain se_worth se_bestWorth se_fresh ch_both ch_cost ch_bit ch_items o.1 o.2 cl_bits cl_count fi_sets fi_count ps_act ps_whom ps_amount ps_next ps_count i0_seatOf i0_one i0_other i0_kind i0_years i0_sawn i0_pairs i0_gone i1_seatOf i1_one i1_other i1_kind i1_years i1_sawn i1_pairs i1_gone i2_seatOf i2_one i2_other i2_kind i2_years i2_sawn i2_pairs i2_gone) H locs → lv_has ls 4 [] → W p l e (xR 2 46) s m args below meth c H locs 0 0 Q (F0 m 131 ls [])) :
    ∀ (n : Nat) (l3 : Int32) (ch_leastCost : Int32) (ch_leastBits : Int32) (H : Heap) (locs : List Loc) (ls : Array Slot), xG s E A (wX E ad x_imageCount x_lastTrouble x_lastFault x_lastPlace pa_names pa_faultNumber pa_faultPlace rd_tape rd_length rd_end rd_next rd_sort rd_start rd_value rd_word to_unsurePair to_unsureYears to_triedPair to_seats to_slack to_sawInches to_quarrelChance to_people to_forkBits to_unsure to_tried to_triedFedBits tf_seatOf tf_one tf_other tf_kind tf_years tf_sawn tf_pairs tf_gone bd_unsurePair bd_unsureYears bd_triedPair bd_seats bd_slack bd_sawInches bd_quarrelChance bd_people bd_forkBits bd_unsure bd_tried bd_triedFedBits bf_seatOf bf_one bf_other bf_kind bf_years bf_sawn bf_pairs bf_gone nw_seatOf nw_one nw_other nw_kind nw_years nw_sawn nw_pairs nw_gone sc_seatOf sc_handle sc_both sc_slopOf sc_forkBits sc_canBits sc_bestBits sc_bestSlops sl_bits sl_count se_bestRow se_row se_pairAt se_hope se_hopeAt se_slopAt se_farBits se_gain se_worth se_bestWorth se_fresh ch_both ch_cost ch_bit ch_items ch_leastCost ch_leastBits cl_bits cl_count fi_sets fi_count ps_act ps_whom ps_amount ps_next ps_count i0_seatOf i0_one i0_other i0_kind i0_years i0_sawn i0_pairs i0_gone i1_seatOf i1_one i1_other i1_kind i1_years i1_sawn i1_pairs i1_gone i2_seatOf i2_one i2_other i2_kind i2_years i2_sawn i2_pairs i2_gone) H locs → lv_has ls 4 [(0, .ref (ad 52)), (1, .int l1), (3, .int l3)] → f_Choice_decide_L62 l1 ch_cost ch_bit cl_bits cl_count n l3 ch_leastCost ch_leastBits = some o → W p l e (xR 2 46) s m args below meth c H locs 0 0 Q (F0 m 62 ls []) := by
  have hx := C.1
  have hb := C.2.1
  intro n
  induction n with
  | zero =>
    intro l3 ch_leastCost ch_leastBits H locs ls G hl hf
    exact nomatch (show (none : Option (Int32 × Int32)) = some o from hf)
  | succ n ih =>
    intro l3 ch_leastCost ch_leastBits H locs ls G hl hf
    rw [f_Choice_decide_L62] at hf
    refine lv_iload_n hx hb dX1_decide_62 rfl (lv_at hl 2 rfl) ?_
    refine lv_aload_n hx hb dX1_decide_63 rfl (lv_at hl 0 rfl) ?_
    refine x_get C G fX1_24 (wX_at52) rfl dX1_decide_64 ?_
    refine x_get C G fX1_42.g (wX_at56) rfl dX1_decide_67 ?_
    refine lv_icmp_ge (tgt := 131) hx hb dX1_decide_70 (by decide) (fun h => ?_) (fun h => ?_)
    · have hf := it_t h hf
      obtain rfl := Option.some.inj hf
      exact J _ _ _ G (lv_sub hl [] rfl)
    · have hf := it_f h hf
      refine lv_aload_n hx hb dX1_decide_73 rfl (lv_at hl 0 rfl) ?_
      refine x_get C G fX1_24 (wX_at52) rfl dX1_decide_74 ?_
      refine x_get C G fX1_45 (wX_at56) rfl dX1_decide_77 ?_
      refine lv_iload_n hx hb dX1_decide_80 rfl (lv_at hl 2 rfl) ?_
      have hi := ck_in hf
      have hf := ck_go hf
      refine x_iald C G (wX_at57) hi dX1_decide_81 ?_
      obtain ⟨x6, hc, hf⟩ := bd_go hf
      refine xI_S C G (c_JInt_bitCount_any hc) mJ6_bitCount_0f7a4 kX1_48 ⟨Nat.le_of_ble_eq_true rfl, Nat.le_of_ble_eq_true rfl⟩ rfl hl.1 rfl (Nat.le_of_ble_eq_true rfl) ⟨Nat.le_refl _, Nat.le_refl _⟩ dX1_decide_82 (fun hz H locs G => ?_)
      refine lv_iload_n hx hb dX1_decide_85 rfl (lv_at hl 1 rfl) ?_
      refine lv_icmp_ne (tgt := 125) hx hb dX1_decide_86 (by decide) (fun h => ?_) (fun h => ?_)
      · have hf := it_f h hf
        obtain ⟨x7, ex7⟩ : ∃ z : Int32, z = l3 + (1 : Int32) := ⟨_, rfl⟩
        have hf := lt_go ex7 hf
        refine lv_iinc (v := x7) (lv' := [(3, .int x7), (0, .ref (ad 52)), (1, .int l1)]) hx hb dX1_decide_125 hl (k := 2) rfl (by rw [ex7]; rfl) (by decide) rfl (fun ls hl => ?_)
        refine lv_goto (tgt := 62) hx hb dX1_decide_128 (by decide) ?_
        exact ih x7 ch_leastCost ch_leastBits _ _ _ G (lv_sub hl [1, 2, 0] rfl) hf
      · have hf := it_t h hf
        refine lv_aload_n hx hb dX1_decide_89 rfl (lv_at hl 0 rfl) ?_
        refine lv_aload_n hx hb dX1_decide_90 rfl (lv_at hl 0 rfl) ?_
        refine x_get C G fX1_24 (wX_at52) rfl dX1_decide_91 ?_
        refine x_get C G fX1_45 (wX_at56) rfl dX1_decide_94 ?_
        refine lv_iload_n hx hb dX1_decide_97 rfl (lv_at hl 2 rfl) ?_
        have hi := ck_in hf
        have hf := ck_go hf
        refine x_iald C G (wX_at57) hi dX1_decide_98 ?_
        refine lv_aload_n hx hb dX1_decide_99 rfl (lv_at hl 0 rfl) ?_
        refine x_get C G fX1_15 (wX_at52) rfl dX1_decide_100 ?_
        obtain ⟨x8, hc, hf⟩ := bd_go hf
        refine xI_S C G (c_X_sumOf_ch_cost hc) mX10_sumOf kX1_54 ⟨Nat.le_of_ble_eq_true rfl, Nat.le_of_ble_eq_true rfl⟩ rfl hl.1 rfl (Nat.le_of_ble_eq_true rfl) ⟨Nat.le_refl _, Nat.le_refl _⟩ dX1_decide_103 (fun hz H locs G => ?_)
        refine lv_aload_n hx hb dX1_decide_106 rfl (lv_at hl 0 rfl) ?_
        refine x_get C G fX1_24 (wX_at52) rfl dX1_decide_107 ?_
        refine x_get C G fX1_45 (wX_at56) rfl dX1_decide_110 ?_
        refine lv_iload_n hx hb dX1_decide_113 rfl (lv_at hl 2 rfl) ?_
        have hi := ck_in hf
        have hf := ck_go hf
        refine x_iald C G (wX_at57) hi dX1_decide_114 ?_
        refine lv_aload_n hx hb dX1_decide_115 rfl (lv_at hl 0 rfl) ?_
        refine x_get C G fX1_18 (wX_at52) rfl dX1_decide_116 ?_
        obtain ⟨x9, hc, hf⟩ := bd_go hf
        refine xI_S C G (c_X_sumOf_ch_bit hc) mX10_sumOf kX1_54 ⟨Nat.le_of_ble_eq_true rfl, Nat.le_of_ble_eq_true rfl⟩ rfl hl.1 rfl (Nat.le_of_ble_eq_true rfl) ⟨Nat.le_refl _, Nat.le_refl _⟩ dX1_decide_119 (fun hz H locs G => ?_)
        obtain ⟨x10, hc, hf⟩ := bd_go hf
        refine xV_V C G (c_Choice_consider_ch hc) mX1_consider kX1_58 (wX_at52) rfl ⟨Nat.le_of_ble_eq_true rfl, Nat.le_of_ble_eq_true rfl⟩ rfl hl.1 rfl (Nat.le_of_ble_eq_true rfl) ⟨Nat.le_refl _, Nat.le_refl _⟩ dX1_decide_122 (fun H locs G => ?_)
        obtain ⟨x11, ex11⟩ : ∃ z : Int32, z = l3 + (1 : Int32) := ⟨_, rfl⟩
        have hf := lt_go ex11 hf
        refine lv_iinc (v := x11) (lv' := [(3, .int x11), (0, .ref (ad 52)), (1, .int l1)]) hx hb dX1_decide_125 hl (k := 2) rfl (by rw [ex11]; rfl) (by decide) rfl (fun ls hl => ?_)
        refine lv_goto (tgt := 62) hx hb dX1_decide_128 (by decide) ?_
        exact ih x11 x10.1 x10.2 _ _ _ G (lv_sub hl [1, 2, 0] rfl) hf
set_option maxHeartbeats 4000000 in
set_option maxRecDepth 100000 in
theorem c_Choice_decide_ch {l : Launch} {E : xE} {ad : Nat → Nat} {x_imageCount x_lastTrouble x_lastFault x_lastPlace pa_faultNumber pa_faultPlace rd_length rd_end rd_next rd_sort rd_start rd_value to_seats to_slack to_sawInches to_quarrelChance to_people to_forkBits to_unsure to_tried to_triedFedBits tf_pairs tf_gone bd_seats bd_slack bd_sawInches bd_quarrelChance bd_people bd_forkBits bd_unsure bd_tried bd_triedFedBits bf_pairs bf_gone nw_pairs nw_gone sc_forkBits sc_canBits sc_bestBits sc_bestSlops sl_count se_bestWorth se_fresh ch_items ch_leastCost ch_leastBits cl_count fi_count ps_next ps_count i0_pairs i0_gone i1_pairs i1_gone i2_pairs i2_gone : Int32} {pa_names : Nat → Int64} {rd_tape to_unsurePair to_unsureYears to_triedPair tf_seatOf tf_one tf_other tf_kind tf_years tf_sawn bd_unsurePair bd_unsureYears bd_triedPair bf_seatOf bf_one bf_other bf_kind bf_years bf_sawn nw_seatOf nw_one nw_other nw_kind nw_years nw_sawn sc_seatOf sc_handle sc_both sc_slopOf sl_bits se_bestRow se_row se_pairAt se_hope se_hopeAt se_slopAt se_farBits se_gain se_worth ch_both ch_cost ch_bit cl_bits fi_sets ps_act ps_whom ps_amount i0_seatOf i0_one i0_other i0_kind i0_years i0_sawn i1_seatOf i1_one i1_other i1_kind i1_years i1_sawn i2_seatOf i2_one i2_other i2_kind i2_years i2_sawn : Nat → Int32} {rd_word : Int64} {l1 : Int32} {R0 : Int32 × Int32 × (Nat → Int32) × Int32} (hf : f_Choice_decide l1 ch_both ch_cost ch_bit ch_items cl_bits = some R0) : xV l E yX1_decide cX1_decide 4 none 2 46 [.ref (ad 52), .int l1] (wX E ad x_imageCount x_lastTrouble x_lastFault x_lastPlace pa_names pa_faultNumber pa_faultPlace rd_tape rd_length rd_end rd_next rd_sort rd_start rd_value rd_word to_unsurePair to_unsureYears to_triedPair to_seats to_slack to_sawInches to_quarrelChance to_people to_forkBits to_unsure to_tried to_triedFedBits tf_seatOf tf_one tf_other tf_kind tf_years tf_sawn tf_pairs tf_gone bd_unsurePair bd_unsureYears bd_triedPair bd_seats bd_slack bd_sawInches bd_quarrelChance bd_people bd_forkBits bd_unsure bd_tried bd_triedFedBits bf_seatOf bf_one bf_other bf_kind bf_years bf_sawn bf_pairs bf_gone nw_seatOf nw_one nw_other nw_kind nw_years nw_sawn nw_pairs nw_gone sc_seatOf sc_handle sc_both sc_slopOf sc_forkBits sc_canBits sc_bestBits sc_bestSlops sl_bits sl_count se_bestRow se_row se_pairAt se_hope se_hopeAt se_slopAt se_farBits se_gain se_worth se_bestWorth se_fresh ch_both ch_cost ch_bit ch_items ch_leastCost ch_leastBits cl_bits cl_count fi_sets fi_count ps_act ps_whom ps_amount ps_next ps_count i0_seatOf i0_one i0_other i0_kind i0_years i0_sawn i0_pairs i0_gone i1_seatOf i1_one i1_other i1_kind i1_years i1_sawn i1_pairs i1_gone i2_seatOf i2_one i2_other i2_kind i2_years i2_sawn i2_pairs i2_gone) (wX E ad x_imageCount x_lastTrouble x_lastFault x_lastPlace pa_names pa_faultNumber pa_faultPlace rd_tape rd_length rd_end rd_next rd_sort rd_start rd_value rd_word to_unsurePair to_unsureYears to_triedPair to_seats to_slack to_sawInches to_quarrelChance to_people to_forkBits to_unsure to_tried to_triedFedBits tf_seatOf tf_one tf_other tf_kind tf_years tf_sawn tf_pairs tf_gone bd_unsurePair bd_unsureYears bd_triedPair bd_seats bd_slack bd_sawInches bd_quarrelChance bd_people bd_forkBits bd_unsure bd_tried bd_triedFedBits bf_seatOf bf_one bf_other bf_kind bf_years bf_sawn bf_pairs bf_gone nw_seatOf nw_one nw_other nw_kind nw_years nw_sawn nw_pairs nw_gone sc_seatOf sc_handle sc_both sc_slopOf sc_forkBits sc_canBits sc_bestBits sc_bestSlops sl_bits sl_count se_bestRow se_row se_pairAt se_hope se_hopeAt se_slopAt se_farBits se_gain se_worth se_bestWorth se_fresh ch_both ch_cost ch_bit ch_items R0.1 R0.2.1 R0.2.2.1 R0.2.2.2 fi_sets fi_count ps_act ps_whom ps_amount ps_next ps_count i0_seatOf i0_one i0_other i0_kind i0_years i0_sawn i0_pairs i0_gone i1_seatOf i1_one i1_other i1_kind i1_years i1_sawn i1_pairs i1_gone i2_seatOf i2_one i2_other i2_kind i2_years i2_sawn i2_pairs i2_gone) := by
  refine xV_of (by decide) (Nat.le_of_ble_eq_true rfl) (fun p e s m args below meth c A C ls hl G => ?_)
  have hx := C.1
  have hb := C.2.1
  have hl : lv_has ls 4 [(0, .ref (ad 52)), (1, .int l1)] := hl
  unfold f_Choice_decide at hf
  refine lv_iconst (v := 0) hx hb dX1_decide_0 (by decide) ?_
  refine lv_istore_n (lv' := [(2, .int (0 : Int32)), (0, .ref (ad 52)), (1, .int l1)]) hx hb dX1_decide_1 rfl hl (by decide) rfl (fun ls hl => ?_)
  refine lv_iconst (v := 0) hx hb dX1_decide_2 (by decide) ?_
  refine lv_istore_n (lv' := [(3, .int (0 : Int32)), (2, .int (0 : Int32)), (0, .ref (ad 52)), (1, .int l1)]) hx hb dX1_decide_3 rfl hl (by decide) rfl (fun ls hl => ?_)
  obtain ⟨x4, hr, hf⟩ := bd_go hf
  have Jx4 : ∀ (H : Heap) (locs : List Loc) (ls : Array Slot), xG s E A (wX E ad x_imageCount x_lastTrouble x_lastFault x_lastPlace pa_names pa_faultNumber pa_faultPlace rd_tape rd_length rd_end rd_next rd_sort rd_start rd_value rd_word to_unsurePair to_unsureYears to_triedPair to_seats to_slack to_sawInches to_quarrelChance to_people to_forkBits to_unsure to_tried to_triedFedBits tf_seatOf tf_one tf_other tf_kind tf_years tf_sawn tf_pairs tf_gone bd_unsurePair bd_unsureYears bd_triedPair bd_seats bd_slack bd_sawInches bd_quarrelChance bd_people bd_forkBits bd_unsure bd_tried bd_triedFedBits bf_seatOf bf_one bf_other bf_kind bf_years bf_sawn bf_pairs bf_gone nw_seatOf nw_one nw_other nw_kind nw_years nw_sawn nw_pairs nw_gone sc_seatOf sc_handle sc_both sc_slopOf sc_forkBits sc_canBits sc_bestBits sc_bestSlops sl_bits sl_count se_bestRow se_row se_pairAt se_hope se_hopeAt se_slopAt se_farBits se_gain se_worth se_bestWorth se_fresh ch_both ch_cost ch_bit ch_items ch_leastCost ch_leastBits cl_bits cl_count fi_sets fi_count ps_act ps_whom ps_amount ps_next ps_count i0_seatOf i0_one i0_other i0_kind i0_years i0_sawn i0_pairs i0_gone i1_seatOf i1_one i1_other i1_kind i1_years i1_sawn i1_pairs i1_gone i2_seatOf i2_one i2_other i2_kind i2_years i2_sawn i2_pairs i2_gone) H locs → lv_has ls 4 [(0, .ref (ad 52)), (1, .int l1), (2, .int x4)] → W p l e (xR 2 46) s m args below meth c H locs 0 0 (MQ below (xqV E A (wX E ad x_imageCount x_lastTrouble x_lastFault x_lastPlace pa_names pa_faultNumber pa_faultPlace rd_tape rd_length rd_end rd_next rd_sort rd_start rd_value rd_word to_unsurePair to_unsureYears to_triedPair to_seats to_slack to_sawInches to_quarrelChance to_people to_forkBits to_unsure to_tried to_triedFedBits tf_seatOf tf_one tf_other tf_kind tf_years tf_sawn tf_pairs tf_gone bd_unsurePair bd_unsureYears bd_triedPair bd_seats bd_slack bd_sawInches bd_quarrelChance bd_people bd_forkBits bd_unsure bd_tried bd_triedFedBits bf_seatOf bf_one bf_other bf_kind bf_years bf_sawn bf_pairs bf_gone nw_seatOf nw_one nw_other nw_kind nw_years nw_sawn nw_pairs nw_gone sc_seatOf sc_handle sc_both sc_slopOf sc_forkBits sc_canBits sc_bestBits sc_bestSlops sl_bits sl_count se_bestRow se_row se_pairAt se_hope se_hopeAt se_slopAt se_farBits se_gain se_worth se_bestWorth se_fresh ch_both ch_cost ch_bit ch_items R0.1 R0.2.1 R0.2.2.1 R0.2.2.2 fi_sets fi_count ps_act ps_whom ps_amount ps_next ps_count i0_seatOf i0_one i0_other i0_kind i0_years i0_sawn i0_pairs i0_gone i1_seatOf i1_one i1_other i1_kind i1_years i1_sawn i1_pairs i1_gone i2_seatOf i2_one i2_other i2_kind i2_years i2_sawn i2_pairs i2_gone)) args s 0 0 A) (F0 m 33 ls []) := by
    intro H locs ls G hl
    refine lv_aload_n hx hb dX1_decide_33 rfl (lv_at hl 0 rfl) ?_
    refine x_get C G fX1_24 (wX_at52) rfl dX1_decide_34 ?_
    refine lv_iload_n hx hb dX1_decide_37 rfl (lv_at hl 2 rfl) ?_
    refine lv_aload_n hx hb dX1_decide_38 rfl (lv_at hl 0 rfl) ?_
    refine x_get C G fX1_9 (wX_at52) rfl dX1_decide_39 ?_
    refine lv_aload_n hx hb dX1_decide_42 rfl (lv_at hl 0 rfl) ?_
    refine x_get C G fX1_28.g (wX_at52) rfl dX1_decide_43 ?_
    obtain ⟨x5, hc, hf⟩ := bd_go hf
    refine xV_V C G (c_MatchList_fill_cl_ch_both hc) mX3_fill kX1_32 (wX_at56) rfl ⟨Nat.le_of_ble_eq_true rfl, Nat.le_of_ble_eq_true rfl⟩ rfl hl.1 rfl (Nat.le_of_ble_eq_true rfl) ⟨Nat.le_refl _, Nat.le_refl _⟩ dX1_decide_46 (fun H locs G => ?_)
    refine lv_aload_n hx hb dX1_decide_49 rfl (lv_at hl 0 rfl) ?_
    refine lv_bipush (v := -2) hx hb dX1_decide_50 (by decide) ?_
    refine x_put (ws' := (wX E ad x_imageCount x_lastTrouble x_lastFault x_lastPlace pa_names pa_faultNumber pa_faultPlace rd_tape rd_length rd_end rd_next rd_sort rd_start rd_value rd_word to_unsurePair to_unsureYears to_triedPair to_seats to_slack to_sawInches to_quarrelChance to_people to_forkBits to_unsure to_tried to_triedFedBits tf_seatOf tf_one tf_other tf_kind tf_years tf_sawn tf_pairs tf_gone bd_unsurePair bd_unsureYears bd_triedPair bd_seats bd_slack bd_sawInches bd_quarrelChance bd_people bd_forkBits bd_unsure bd_tried bd_triedFedBits bf_seatOf bf_one bf_other bf_kind bf_years bf_sawn bf_pairs bf_gone nw_seatOf nw_one nw_other nw_kind nw_years nw_sawn nw_pairs nw_gone sc_seatOf sc_handle sc_both sc_slopOf sc_forkBits sc_canBits sc_bestBits sc_bestSlops sl_bits sl_count se_bestRow se_row se_pairAt se_hope se_hopeAt se_slopAt se_farBits se_gain se_worth se_bestWorth se_fresh ch_both ch_cost ch_bit ch_items (-2 : Int32) ch_leastBits x5.1 x5.2 fi_sets fi_count ps_act ps_whom ps_amount ps_next ps_count i0_seatOf i0_one i0_other i0_kind i0_years i0_sawn i0_pairs i0_gone i1_seatOf i1_one i1_other i1_kind i1_years i1_sawn i1_pairs i1_gone i2_seatOf i2_one i2_other i2_kind i2_years i2_sawn i2_pairs i2_gone)) C G fX1_36 (wX_at52) rfl rfl (Nat.le_of_ble_eq_true rfl) wX_set_ch_leastCost dX1_decide_52 (fun H locs G => ?_)
    refine lv_aload_n hx hb dX1_decide_55 rfl (lv_at hl 0 rfl) ?_
    refine lv_iconst (v := 0) hx hb dX1_decide_56 (by decide) ?_
    refine x_put (ws' := (wX E ad x_imageCount x_lastTrouble x_lastFault x_lastPlace pa_names pa_faultNumber pa_faultPlace rd_tape rd_length rd_end rd_next rd_sort rd_start rd_value rd_word to_unsurePair to_unsureYears to_triedPair to_seats to_slack to_sawInches to_quarrelChance to_people to_forkBits to_unsure to_tried to_triedFedBits tf_seatOf tf_one tf_other tf_kind tf_years tf_sawn tf_pairs tf_gone bd_unsurePair bd_unsureYears bd_triedPair bd_seats bd_slack bd_sawInches bd_quarrelChance bd_people bd_forkBits bd_unsure bd_tried bd_triedFedBits bf_seatOf bf_one bf_other bf_kind bf_years bf_sawn bf_pairs bf_gone nw_seatOf nw_one nw_other nw_kind nw_years nw_sawn nw_pairs nw_gone sc_seatOf sc_handle sc_both sc_slopOf sc_forkBits sc_canBits sc_bestBits sc_bestSlops sl_bits sl_count se_bestRow se_row se_pairAt se_hope se_hopeAt se_slopAt se_farBits se_gain se_worth se_bestWorth se_fresh ch_both ch_cost ch_bit ch_items (-2 : Int32) (0 : Int32) x5.1 x5.2 fi_sets fi_count ps_act ps_whom ps_amount ps_next ps_count i0_seatOf i0_one i0_other i0_kind i0_years i0_sawn i0_pairs i0_gone i1_seatOf i1_one i1_other i1_kind i1_years i1_sawn i1_pairs i1_gone i2_seatOf i2_one i2_other i2_kind i2_years i2_sawn i2_pairs i2_gone)) C G fX1_39 (wX_at52) rfl rfl (Nat.le_of_ble_eq_true rfl) wX_set_ch_leastBits dX1_decide_57 (fun H locs G => ?_)
    refine lv_iconst (v := 0) hx hb dX1_decide_60 (by decide) ?_
    refine lv_istore_n (lv' := [(3, .int (0 : Int32)), (0, .ref (ad 52)), (1, .int l1), (2, .int x4)]) hx hb dX1_decide_61 rfl hl (by decide) rfl (fun ls hl => ?_)
    obtain ⟨x12, hr, hf⟩ := bd_go hf
    have Jx12 : ∀ (H : Heap) (locs : List Loc) (ls : Array Slot), xG s E A (wX E ad x_imageCount x_lastTrouble x_lastFault x_lastPlace pa_names pa_faultNumber pa_faultPlace rd_tape rd_length rd_end rd_next rd_sort rd_start rd_value rd_word to_unsurePair to_unsureYears to_triedPair to_seats to_slack to_sawInches to_quarrelChance to_people to_forkBits to_unsure to_tried to_triedFedBits tf_seatOf tf_one tf_other tf_kind tf_years tf_sawn tf_pairs tf_gone bd_unsurePair bd_unsureYears bd_triedPair bd_seats bd_slack bd_sawInches bd_quarrelChance bd_people bd_forkBits bd_unsure bd_tried bd_triedFedBits bf_seatOf bf_one bf_other bf_kind bf_years bf_sawn bf_pairs bf_gone nw_seatOf nw_one nw_other nw_kind nw_years nw_sawn nw_pairs nw_gone sc_seatOf sc_handle sc_both sc_slopOf sc_forkBits sc_canBits sc_bestBits sc_bestSlops sl_bits sl_count se_bestRow se_row se_pairAt se_hope se_hopeAt se_slopAt se_farBits se_gain se_worth se_bestWorth se_fresh ch_both ch_cost ch_bit ch_items x12.1 x12.2 x5.1 x5.2 fi_sets fi_count ps_act ps_whom ps_amount ps_next ps_count i0_seatOf i0_one i0_other i0_kind i0_years i0_sawn i0_pairs i0_gone i1_seatOf i1_one i1_other i1_kind i1_years i1_sawn i1_pairs i1_gone i2_seatOf i2_one i2_other i2_kind i2_years i2_sawn i2_pairs i2_gone) H locs → lv_has ls 4 [] → W p l e (xR 2 46) s m args below meth c H locs 0 0 (MQ below (xqV E A (wX E ad x_imageCount x_lastTrouble x_lastFault x_lastPlace pa_names pa_faultNumber pa_faultPlace rd_tape rd_length rd_end rd_next rd_sort rd_start rd_value rd_word to_unsurePair to_unsureYears to_triedPair to_seats to_slack to_sawInches to_quarrelChance to_people to_forkBits to_unsure to_tried to_triedFedBits tf_seatOf tf_one tf_other tf_kind tf_years tf_sawn tf_pairs tf_gone bd_unsurePair bd_unsureYears bd_triedPair bd_seats bd_slack bd_sawInches bd_quarrelChance bd_people bd_forkBits bd_unsure bd_tried bd_triedFedBits bf_seatOf bf_one bf_other bf_kind bf_years bf_sawn bf_pairs bf_gone nw_seatOf nw_one nw_other nw_kind nw_years nw_sawn nw_pairs nw_gone sc_seatOf sc_handle sc_both sc_slopOf sc_forkBits sc_canBits sc_bestBits sc_bestSlops sl_bits sl_count se_bestRow se_row se_pairAt se_hope se_hopeAt se_slopAt se_farBits se_gain se_worth se_bestWorth se_fresh ch_both ch_cost ch_bit ch_items R0.1 R0.2.1 R0.2.2.1 R0.2.2.2 fi_sets fi_count ps_act ps_whom ps_amount ps_next ps_count i0_seatOf i0_one i0_other i0_kind i0_years i0_sawn i0_pairs i0_gone i1_seatOf i1_one i1_other i1_kind i1_years i1_sawn i1_pairs i1_gone i2_seatOf i2_one i2_other i2_kind i2_years i2_sawn i2_pairs i2_gone)) args s 0 0 A) (F0 m 131 ls []) := by
      intro H locs ls G hl
      obtain rfl := Option.some.inj hf
      exact xV_ret C G dX1_decide_131
    exact w_Choice_decide_ch_L62 C Jx12 fu _ _ _ _ _ _ G (lv_sub hl [1, 2, 0] rfl) hr
  exact w_Choice_decide_ch_L4 C Jx4 fu _ _ _ _ _ G (lv_sub hl [2, 3, 1, 0] rfl) hr
set_option maxHeartbeats 4000000 in
set_option maxRecDepth 100000 in
theorem w_X_chooseSaws_x_L10 {p : Program} {l : Launch} {e : Env} {s : State} {m : MethodId} {args : Array Value} {below : List Frame} {meth : Method} {c : Code} {A : Nat → Prop} {E : xE} {Q : State → Prop} {ad : Nat → Nat} {x_imageCount x_lastTrouble x_lastFault x_lastPlace pa_faultNumber pa_faultPlace rd_length rd_end rd_next rd_sort rd_start rd_value to_seats to_slack to_sawInches to_quarrelChance to_people to_forkBits to_unsure to_tried to_triedFedBits tf_pairs tf_gone bd_seats bd_slack bd_sawInches bd_quarrelChance bd_people bd_forkBits bd_unsure bd_tried bd_triedFedBits bf_pairs bf_gone nw_pairs nw_gone sc_forkBits sc_canBits sc_bestBits sc_bestSlops sl_count se_bestWorth se_fresh ch_leastCost ch_leastBits cl_count fi_count ps_next ps_count i0_pairs i0_gone i1_pairs i1_gone i2_pairs i2_gone : Int32} {pa_names : Nat → Int64} {rd_tape to_unsurePair to_unsureYears to_triedPair tf_seatOf tf_one tf_other tf_kind tf_years tf_sawn bd_unsurePair bd_unsureYears bd_triedPair bf_seatOf bf_one bf_other bf_kind bf_years bf_sawn nw_seatOf nw_one nw_other nw_kind nw_years nw_sawn sc_seatOf sc_handle sc_both sc_slopOf sl_bits se_bestRow se_row se_pairAt se_hope se_hopeAt se_slopAt se_farBits se_gain se_worth cl_bits fi_sets ps_act ps_whom ps_amount i0_seatOf i0_one i0_other i0_kind i0_years i0_sawn i1_seatOf i1_one i1_other i1_kind i1_years i1_sawn i2_seatOf i2_one i2_other i2_kind i2_years i2_sawn : Nat → Int32} {rd_word : Int64} {o : (Nat → Int32) × (Nat → Int32) × (Nat → Int32) × Int32} (C : xC p s m args meth c cX10_chooseSaws 2 RX10 E A none) (J : ∀ (H : Heap) (locs : List Loc) (ls : Array Slot), xG s E A (wX E ad x_imageCount x_lastTrouble x_lastFault x_lastPlace pa_names pa_faultNumber pa_faultPlace rd_tape rd_length rd_end rd_next rd_sort rd_start rd_value rd_word to_unsurePair to_unsureYears to_triedPair to_seats to_slack to_sawInches to_quarrelChance to_people to_forkBits to_unsure to_tried to_triedFedBits tf_seatOf tf_one tf_other tf_kind tf_years tf_sawn tf_pairs tf_gone bd_unsurePair bd_unsureYears bd_triedPair bd_seats bd_slack bd_sawInches bd_quarrelChance bd_people bd_forkBits bd_unsure bd_tried bd_triedFedBits bf_seatOf bf_one bf_other bf_kind bf_years bf_sawn bf_pairs bf_gone nw_seatOf nw_one nw_other nw_kind nw_years nw_sawn nw_pairs nw_gone sc_seatOf sc_handle sc_both sc_slopOf sc_forkBits sc_canBits sc_bestBits sc_bestSlops sl_bits sl_count se_bestRow se_row se_pairAt se_hope se_hopeAt se_slopAt se_farBits se_gain se_worth se_bestWorth se_fresh o.1 o.2.1 o.2.2.1 o.2.2.2 ch_leastCost ch_leastBits cl_bits cl_count fi_sets fi_count ps_act ps_whom ps_amount ps_next ps_count i0_seatOf i0_one i0_other i0_kind i0_years i0_sawn i0_pairs i0_gone i1_seatOf i1_one i1_other i1_kind i1_years i1_sawn i1_pairs i1_gone i2_seatOf i2_one i2_other i2_kind i2_years i2_sawn i2_pairs i2_gone) H locs → lv_has ls 2 [(0, .ref (ad 0))] → W p l e (xR 4 91) s m args below meth c H locs 0 0 Q (F0 m 50 ls [])) :
    ∀ (n : Nat) (l1 : Int32) (ch_both : Nat → Int32) (ch_cost : Nat → Int32) (ch_bit : Nat → Int32) (ch_items : Int32) (H : Heap) (locs : List Loc) (ls : Array Slot), xG s E A (wX E ad x_imageCount x_lastTrouble x_lastFault x_lastPlace pa_names pa_faultNumber pa_faultPlace rd_tape rd_length rd_end rd_next rd_sort rd_start rd_value rd_word to_unsurePair to_unsureYears to_triedPair to_seats to_slack to_sawInches to_quarrelChance to_people to_forkBits to_unsure to_tried to_triedFedBits tf_seatOf tf_one tf_other tf_kind tf_years tf_sawn tf_pairs tf_gone bd_unsurePair bd_unsureYears bd_triedPair bd_seats bd_slack bd_sawInches bd_quarrelChance bd_people bd_forkBits bd_unsure bd_tried bd_triedFedBits bf_seatOf bf_one bf_other bf_kind bf_years bf_sawn bf_pairs bf_gone nw_seatOf nw_one nw_other nw_kind nw_years nw_sawn nw_pairs nw_gone sc_seatOf sc_handle sc_both sc_slopOf sc_forkBits sc_canBits sc_bestBits sc_bestSlops sl_bits sl_count se_bestRow se_row se_pairAt se_hope se_hopeAt se_slopAt se_farBits se_gain se_worth se_bestWorth se_fresh ch_both ch_cost ch_bit ch_items ch_leastCost ch_leastBits cl_bits cl_count fi_sets fi_count ps_act ps_whom ps_amount ps_next ps_count i0_seatOf i0_one i0_other i0_kind i0_years i0_sawn i0_pairs i0_gone i1_seatOf i1_one i1_other i1_kind i1_years i1_sawn i1_pairs i1_gone i2_seatOf i2_one i2_other i2_kind i2_years i2_sawn i2_pairs i2_gone) H locs → lv_has ls 2 [(0, .ref (ad 0)), (1, .int l1)] → f_X_chooseSaws_L10 bd_slack nw_seatOf nw_one nw_other nw_kind nw_years nw_sawn nw_pairs n l1 ch_both ch_cost ch_bit ch_items = some o → W p l e (xR 4 91) s m args below meth c H locs 0 0 Q (F0 m 10 ls []) := by
  have hx := C.1
  have hb := C.2.1
  intro n
  induction n with
  | zero =>
    intro l1 ch_both ch_cost ch_bit ch_items H locs ls G hl hf
    exact nomatch (show (none : Option ((Nat → Int32) × (Nat → Int32) × (Nat → Int32) × Int32)) = some o from hf)
  | succ n ih =>
    intro l1 ch_both ch_cost ch_bit ch_items H locs ls G hl hf
    rw [f_X_chooseSaws_L10] at hf
    refine lv_iload_n hx hb dX10_chooseSaws_10 rfl (lv_at hl 1 rfl) ?_
    refine lv_aload_n hx hb dX10_chooseSaws_11 rfl (lv_at hl 0 rfl) ?_
    refine x_get C G fX10_26 (wX_at0) rfl dX10_chooseSaws_12 ?_
    refine x_get C G fX10_282.g (wX_at28) rfl dX10_chooseSaws_15 ?_
    refine lv_icmp_ge (tgt := 50) hx hb dX10_chooseSaws_18 (by decide) (fun h => ?_) (fun h => ?_)
    · have hf := it_t h hf
      obtain rfl := Option.some.inj hf
      exact J _ _ _ G (lv_sub hl [0] rfl)
    · have hf := it_f h hf
      refine lv_aload_n hx hb dX10_chooseSaws_21 rfl (lv_at hl 0 rfl) ?_
      refine x_get C G fX10_49 (wX_at0) rfl dX10_chooseSaws_22 ?_
      refine lv_aload_n hx hb dX10_chooseSaws_25 rfl (lv_at hl 0 rfl) ?_
      refine x_get C G fX10_26 (wX_at0) rfl dX10_chooseSaws_26 ?_
      refine lv_iload_n hx hb dX10_chooseSaws_29 rfl (lv_at hl 1 rfl) ?_
      obtain ⟨x1, hc, hf⟩ := bd_go hf
      refine xI_V C G (c_Now_both_nw hc) mX4_both kX10_404 (wX_at28) rfl ⟨Nat.le_of_ble_eq_true rfl, Nat.le_of_ble_eq_true rfl⟩ rfl hl.1 rfl (Nat.le_of_ble_eq_true rfl) ⟨Nat.le_refl _, Nat.le_refl _⟩ dX10_chooseSaws_30 (fun hz H locs G => ?_)
      refine lv_aload_n hx hb dX10_chooseSaws_33 rfl (lv_at hl 0 rfl) ?_
      refine lv_iload_n hx hb dX10_chooseSaws_34 rfl (lv_at hl 1 rfl) ?_
      obtain ⟨x2, hc, hf⟩ := bd_go hf
      refine xI_V C G (c_X_fewestInches_x hc) mX10_fewestInches kX10_407 (wX_at0) rfl ⟨Nat.le_of_ble_eq_true rfl, Nat.le_of_ble_eq_true rfl⟩ rfl hl.1 rfl (Nat.le_of_ble_eq_true rfl) ⟨Nat.le_refl _, Nat.le_refl _⟩ dX10_chooseSaws_35 (fun hz H locs G => ?_)
      refine lv_iconst (v := 1) hx hb dX10_chooseSaws_38 (by decide) ?_
      refine lv_iload_n hx hb dX10_chooseSaws_39 rfl (lv_at hl 1 rfl) ?_
      refine lv_ishl hx hb dX10_chooseSaws_40 ?_
      obtain ⟨x3, hc, hf⟩ := bd_go hf
      refine xV_V C G (c_Choice_add_ch hc) mX1_add kX10_410 (wX_at52) rfl ⟨Nat.le_of_ble_eq_true rfl, Nat.le_of_ble_eq_true rfl⟩ rfl hl.1 rfl (Nat.le_of_ble_eq_true rfl) ⟨Nat.le_refl _, Nat.le_refl _⟩ dX10_chooseSaws_41 (fun H locs G => ?_)
      obtain ⟨x4, ex4⟩ : ∃ z : Int32, z = l1 + (1 : Int32) := ⟨_, rfl⟩
      have hf := lt_go ex4 hf
      refine lv_iinc (v := x4) (lv' := [(1, .int x4), (0, .ref (ad 0))]) hx hb dX10_chooseSaws_44 hl (k := 1) rfl (by rw [ex4]; rfl) (by decide) rfl (fun ls hl => ?_)
      refine lv_goto (tgt := 10) hx hb dX10_chooseSaws_47 (by decide) ?_
      exact ih x4 x3.1 x3.2.1 x3.2.2.1 x3.2.2.2 _ _ _ G (lv_sub hl [1, 0] rfl) hf
set_option maxHeartbeats 4000000 in
set_option maxRecDepth 100000 in
theorem c_X_chooseSaws_x {l : Launch} {E : xE} {ad : Nat → Nat} {x_imageCount x_lastTrouble x_lastFault x_lastPlace pa_faultNumber pa_faultPlace rd_length rd_end rd_next rd_sort rd_start rd_value to_seats to_slack to_sawInches to_quarrelChance to_people to_forkBits to_unsure to_tried to_triedFedBits tf_pairs tf_gone bd_seats bd_slack bd_sawInches bd_quarrelChance bd_people bd_forkBits bd_unsure bd_tried bd_triedFedBits bf_pairs bf_gone nw_pairs nw_gone sc_forkBits sc_canBits sc_bestBits sc_bestSlops sl_count se_bestWorth se_fresh ch_items ch_leastCost ch_leastBits cl_count fi_count ps_next ps_count i0_pairs i0_gone i1_pairs i1_gone i2_pairs i2_gone : Int32} {pa_names : Nat → Int64} {rd_tape to_unsurePair to_unsureYears to_triedPair tf_seatOf tf_one tf_other tf_kind tf_years tf_sawn bd_unsurePair bd_unsureYears bd_triedPair bf_seatOf bf_one bf_other bf_kind bf_years bf_sawn nw_seatOf nw_one nw_other nw_kind nw_years nw_sawn sc_seatOf sc_handle sc_both sc_slopOf sl_bits se_bestRow se_row se_pairAt se_hope se_hopeAt se_slopAt se_farBits se_gain se_worth ch_both ch_cost ch_bit cl_bits fi_sets ps_act ps_whom ps_amount i0_seatOf i0_one i0_other i0_kind i0_years i0_sawn i1_seatOf i1_one i1_other i1_kind i1_years i1_sawn i2_seatOf i2_one i2_other i2_kind i2_years i2_sawn : Nat → Int32} {rd_word : Int64} {R0 : (Nat → Int32) × (Nat → Int32) × (Nat → Int32) × Int32 × Int32 × Int32 × (Nat → Int32) × Int32} (hf : f_X_chooseSaws bd_slack bd_people nw_seatOf nw_one nw_other nw_kind nw_years nw_sawn nw_pairs ch_both ch_cost ch_bit cl_bits = some R0) : xV l E yX10_chooseSaws cX10_chooseSaws 2 none 4 91 [.ref (ad 0)] (wX E ad x_imageCount x_lastTrouble x_lastFault x_lastPlace pa_names pa_faultNumber pa_faultPlace rd_tape rd_length rd_end rd_next rd_sort rd_start rd_value rd_word to_unsurePair to_unsureYears to_triedPair to_seats to_slack to_sawInches to_quarrelChance to_people to_forkBits to_unsure to_tried to_triedFedBits tf_seatOf tf_one tf_other tf_kind tf_years tf_sawn tf_pairs tf_gone bd_unsurePair bd_unsureYears bd_triedPair bd_seats bd_slack bd_sawInches bd_quarrelChance bd_people bd_forkBits bd_unsure bd_tried bd_triedFedBits bf_seatOf bf_one bf_other bf_kind bf_years bf_sawn bf_pairs bf_gone nw_seatOf nw_one nw_other nw_kind nw_years nw_sawn nw_pairs nw_gone sc_seatOf sc_handle sc_both sc_slopOf sc_forkBits sc_canBits sc_bestBits sc_bestSlops sl_bits sl_count se_bestRow se_row se_pairAt se_hope se_hopeAt se_slopAt se_farBits se_gain se_worth se_bestWorth se_fresh ch_both ch_cost ch_bit ch_items ch_leastCost ch_leastBits cl_bits cl_count fi_sets fi_count ps_act ps_whom ps_amount ps_next ps_count i0_seatOf i0_one i0_other i0_kind i0_years i0_sawn i0_pairs i0_gone i1_seatOf i1_one i1_other i1_kind i1_years i1_sawn i1_pairs i1_gone i2_seatOf i2_one i2_other i2_kind i2_years i2_sawn i2_pairs i2_gone) (wX E ad x_imageCount x_lastTrouble x_lastFault x_lastPlace pa_names pa_faultNumber pa_faultPlace rd_tape rd_length rd_end rd_next rd_sort rd_start rd_value rd_word to_unsurePair to_unsureYears to_triedPair to_seats to_slack to_sawInches to_quarrelChance to_people to_forkBits to_unsure to_tried to_triedFedBits tf_seatOf tf_one tf_other tf_kind tf_years tf_sawn tf_pairs tf_gone bd_unsurePair bd_unsureYears bd_triedPair bd_seats bd_slack bd_sawInches bd_quarrelChance bd_people bd_forkBits bd_unsure bd_tried bd_triedFedBits bf_seatOf bf_one bf_other bf_kind bf_years bf_sawn bf_pairs bf_gone nw_seatOf nw_one nw_other nw_kind nw_years nw_sawn nw_pairs nw_gone sc_seatOf sc_handle sc_both sc_slopOf sc_forkBits sc_canBits sc_bestBits sc_bestSlops sl_bits sl_count se_bestRow se_row se_pairAt se_hope se_hopeAt se_slopAt se_farBits se_gain se_worth se_bestWorth se_fresh R0.1 R0.2.1 R0.2.2.1 R0.2.2.2.1 R0.2.2.2.2.1 R0.2.2.2.2.2.1 R0.2.2.2.2.2.2.1 R0.2.2.2.2.2.2.2 fi_sets fi_count ps_act ps_whom ps_amount ps_next ps_count i0_seatOf i0_one i0_other i0_kind i0_years i0_sawn i0_pairs i0_gone i1_seatOf i1_one i1_other i1_kind i1_years i1_sawn i1_pairs i1_gone i2_seatOf i2_one i2_other i2_kind i2_years i2_sawn i2_pairs i2_gone) := by
  refine xV_of (by decide) (Nat.le_of_ble_eq_true rfl) (fun p e s m args below meth c A C ls hl G => ?_)
  have hx := C.1
  have hb := C.2.1
  have hl : lv_has ls 2 [(0, .ref (ad 0))] := hl
  unfold f_X_chooseSaws at hf
  refine lv_aload_n hx hb dX10_chooseSaws_0 rfl (lv_at hl 0 rfl) ?_
  refine x_get C G fX10_49 (wX_at0) rfl dX10_chooseSaws_1 ?_
  refine lv_iconst (v := 0) hx hb dX10_chooseSaws_4 (by decide) ?_
  refine x_put (ws' := (wX E ad x_imageCount x_lastTrouble x_lastFault x_lastPlace pa_names pa_faultNumber pa_faultPlace rd_tape rd_length rd_end rd_next rd_sort rd_start rd_value rd_word to_unsurePair to_unsureYears to_triedPair to_seats to_slack to_sawInches to_quarrelChance to_people to_forkBits to_unsure to_tried to_triedFedBits tf_seatOf tf_one tf_other tf_kind tf_years tf_sawn tf_pairs tf_gone bd_unsurePair bd_unsureYears bd_triedPair bd_seats bd_slack bd_sawInches bd_quarrelChance bd_people bd_forkBits bd_unsure bd_tried bd_triedFedBits bf_seatOf bf_one bf_other bf_kind bf_years bf_sawn bf_pairs bf_gone nw_seatOf nw_one nw_other nw_kind nw_years nw_sawn nw_pairs nw_gone sc_seatOf sc_handle sc_both sc_slopOf sc_forkBits sc_canBits sc_bestBits sc_bestSlops sl_bits sl_count se_bestRow se_row se_pairAt se_hope se_hopeAt se_slopAt se_farBits se_gain se_worth se_bestWorth se_fresh ch_both ch_cost ch_bit (0 : Int32) ch_leastCost ch_leastBits cl_bits cl_count fi_sets fi_count ps_act ps_whom ps_amount ps_next ps_count i0_seatOf i0_one i0_other i0_kind i0_years i0_sawn i0_pairs i0_gone i1_seatOf i1_one i1_other i1_kind i1_years i1_sawn i1_pairs i1_gone i2_seatOf i2_one i2_other i2_kind i2_years i2_sawn i2_pairs i2_gone)) C G fX10_401 (wX_at52) rfl rfl (Nat.le_of_ble_eq_true rfl) wX_set_ch_items dX10_chooseSaws_5 (fun H locs G => ?_)
  refine lv_iconst (v := 0) hx hb dX10_chooseSaws_8 (by decide) ?_
  refine lv_istore_n (lv' := [(1, .int (0 : Int32)), (0, .ref (ad 0))]) hx hb dX10_chooseSaws_9 rfl hl (by decide) rfl (fun ls hl => ?_)
  obtain ⟨x5, hr, hf⟩ := bd_go hf
  have Jx5 : ∀ (H : Heap) (locs : List Loc) (ls : Array Slot), xG s E A (wX E ad x_imageCount x_lastTrouble x_lastFault x_lastPlace pa_names pa_faultNumber pa_faultPlace rd_tape rd_length rd_end rd_next rd_sort rd_start rd_value rd_word to_unsurePair to_unsureYears to_triedPair to_seats to_slack to_sawInches to_quarrelChance to_people to_forkBits to_unsure to_tried to_triedFedBits tf_seatOf tf_one tf_other tf_kind tf_years tf_sawn tf_pairs tf_gone bd_unsurePair bd_unsureYears bd_triedPair bd_seats bd_slack bd_sawInches bd_quarrelChance bd_people bd_forkBits bd_unsure bd_tried bd_triedFedBits bf_seatOf bf_one bf_other bf_kind bf_years bf_sawn bf_pairs bf_gone nw_seatOf nw_one nw_other nw_kind nw_years nw_sawn nw_pairs nw_gone sc_seatOf sc_handle sc_both sc_slopOf sc_forkBits sc_canBits sc_bestBits sc_bestSlops sl_bits sl_count se_bestRow se_row se_pairAt se_hope se_hopeAt se_slopAt se_farBits se_gain se_worth se_bestWorth se_fresh x5.1 x5.2.1 x5.2.2.1 x5.2.2.2 ch_leastCost ch_leastBits cl_bits cl_count fi_sets fi_count ps_act ps_whom ps_amount ps_next ps_count i0_seatOf i0_one i0_other i0_kind i0_years i0_sawn i0_pairs i0_gone i1_seatOf i1_one i1_other i1_kind i1_years i1_sawn i1_pairs i1_gone i2_seatOf i2_one i2_other i2_kind i2_years i2_sawn i2_pairs i2_gone) H locs → lv_has ls 2 [(0, .ref (ad 0))] → W p l e (xR 4 91) s m args below meth c H locs 0 0 (MQ below (xqV E A (wX E ad x_imageCount x_lastTrouble x_lastFault x_lastPlace pa_names pa_faultNumber pa_faultPlace rd_tape rd_length rd_end rd_next rd_sort rd_start rd_value rd_word to_unsurePair to_unsureYears to_triedPair to_seats to_slack to_sawInches to_quarrelChance to_people to_forkBits to_unsure to_tried to_triedFedBits tf_seatOf tf_one tf_other tf_kind tf_years tf_sawn tf_pairs tf_gone bd_unsurePair bd_unsureYears bd_triedPair bd_seats bd_slack bd_sawInches bd_quarrelChance bd_people bd_forkBits bd_unsure bd_tried bd_triedFedBits bf_seatOf bf_one bf_other bf_kind bf_years bf_sawn bf_pairs bf_gone nw_seatOf nw_one nw_other nw_kind nw_years nw_sawn nw_pairs nw_gone sc_seatOf sc_handle sc_both sc_slopOf sc_forkBits sc_canBits sc_bestBits sc_bestSlops sl_bits sl_count se_bestRow se_row se_pairAt se_hope se_hopeAt se_slopAt se_farBits se_gain se_worth se_bestWorth se_fresh R0.1 R0.2.1 R0.2.2.1 R0.2.2.2.1 R0.2.2.2.2.1 R0.2.2.2.2.2.1 R0.2.2.2.2.2.2.1 R0.2.2.2.2.2.2.2 fi_sets fi_count ps_act ps_whom ps_amount ps_next ps_count i0_seatOf i0_one i0_other i0_kind i0_years i0_sawn i0_pairs i0_gone i1_seatOf i1_one i1_other i1_kind i1_years i1_sawn i1_pairs i1_gone i2_seatOf i2_one i2_other i2_kind i2_years i2_sawn i2_pairs i2_gone)) args s 0 0 A) (F0 m 50 ls []) := by
    intro H locs ls G hl
    refine lv_aload_n hx hb dX10_chooseSaws_50 rfl (lv_at hl 0 rfl) ?_
    refine x_get C G fX10_49 (wX_at0) rfl dX10_chooseSaws_51 ?_
    refine lv_aload_n hx hb dX10_chooseSaws_54 rfl (lv_at hl 0 rfl) ?_
    refine x_get C G fX10_22 (wX_at0) rfl dX10_chooseSaws_55 ?_
    refine x_get C G fX10_132.g (wX_at17) rfl dX10_chooseSaws_58 ?_
    refine lv_iconst (v := 2) hx hb dX10_chooseSaws_61 (by decide) ?_
    refine lv_idiv hx hb dX10_chooseSaws_62 (by decide) ?_
    obtain ⟨x6, hc, hf⟩ := bd_go hf
    refine xV_V C G (c_Choice_decide_ch hc) mX1_decide kX10_413 (wX_at52) rfl ⟨Nat.le_of_ble_eq_true rfl, Nat.le_of_ble_eq_true rfl⟩ rfl hl.1 rfl (Nat.le_of_ble_eq_true rfl) ⟨Nat.le_refl _, Nat.le_refl _⟩ dX10_chooseSaws_63 (fun H locs G => ?_)
    obtain rfl := Option.some.inj hf
    exact xV_ret C G dX10_chooseSaws_66
  exact w_X_chooseSaws_x_L10 C Jx5 fu _ _ _ _ _ _ _ _ G (lv_sub hl [1, 0] rfl) hr
set_option maxHeartbeats 4000000 in
set_option maxRecDepth 100000 in
theorem c_X_saws_x {l : Launch} {E : xE} {ad : Nat → Nat} {x_imageCount x_lastTrouble x_lastFault x_lastPlace pa_faultNumber pa_faultPlace rd_length rd_end rd_next rd_sort rd_start rd_value to_seats to_slack to_sawInches to_quarrelChance to_people to_forkBits to_unsure to_tried to_triedFedBits tf_pairs tf_gone bd_seats bd_slack bd_sawInches bd_quarrelChance bd_people bd_forkBits bd_unsure bd_tried bd_triedFedBits bf_pairs bf_gone nw_pairs nw_gone sc_forkBits sc_canBits sc_bestBits sc_bestSlops sl_count se_bestWorth se_fresh ch_items ch_leastCost ch_leastBits cl_count fi_count ps_next ps_count i0_pairs i0_gone i1_pairs i1_gone i2_pairs i2_gone : Int32} {pa_names : Nat → Int64} {rd_tape to_unsurePair to_unsureYears to_triedPair tf_seatOf tf_one tf_other tf_kind tf_years tf_sawn bd_unsurePair bd_unsureYears bd_triedPair bf_seatOf bf_one bf_other bf_kind bf_years bf_sawn nw_seatOf nw_one nw_other nw_kind nw_years nw_sawn sc_seatOf sc_handle sc_both sc_slopOf sl_bits se_bestRow se_row se_pairAt se_hope se_hopeAt se_slopAt se_farBits se_gain se_worth ch_both ch_cost ch_bit cl_bits fi_sets ps_act ps_whom ps_amount i0_seatOf i0_one i0_other i0_kind i0_years i0_sawn i1_seatOf i1_one i1_other i1_kind i1_years i1_sawn i2_seatOf i2_one i2_other i2_kind i2_years i2_sawn : Nat → Int32} {rd_word : Int64} {R0 : Int32 × Int32 × (Nat → Int32) × (Nat → Int32) × (Nat → Int32) × Int32 × Int32 × Int32 × (Nat → Int32) × Int32} (hf : f_X_saws bd_slack bd_people nw_seatOf nw_one nw_other nw_kind nw_years nw_sawn nw_pairs ch_both ch_cost ch_bit ch_items ch_leastCost ch_leastBits cl_bits cl_count = some R0) : xI l E yX10_saws cX10_saws 1 (some .int) 5 112 [.ref (ad 0)] (wX E ad x_imageCount x_lastTrouble x_lastFault x_lastPlace pa_names pa_faultNumber pa_faultPlace rd_tape rd_length rd_end rd_next rd_sort rd_start rd_value rd_word to_unsurePair to_unsureYears to_triedPair to_seats to_slack to_sawInches to_quarrelChance to_people to_forkBits to_unsure to_tried to_triedFedBits tf_seatOf tf_one tf_other tf_kind tf_years tf_sawn tf_pairs tf_gone bd_unsurePair bd_unsureYears bd_triedPair bd_seats bd_slack bd_sawInches bd_quarrelChance bd_people bd_forkBits bd_unsure bd_tried bd_triedFedBits bf_seatOf bf_one bf_other bf_kind bf_years bf_sawn bf_pairs bf_gone nw_seatOf nw_one nw_other nw_kind nw_years nw_sawn nw_pairs nw_gone sc_seatOf sc_handle sc_both sc_slopOf sc_forkBits sc_canBits sc_bestBits sc_bestSlops sl_bits sl_count se_bestRow se_row se_pairAt se_hope se_hopeAt se_slopAt se_farBits se_gain se_worth se_bestWorth se_fresh ch_both ch_cost ch_bit ch_items ch_leastCost ch_leastBits cl_bits cl_count fi_sets fi_count ps_act ps_whom ps_amount ps_next ps_count i0_seatOf i0_one i0_other i0_kind i0_years i0_sawn i0_pairs i0_gone i1_seatOf i1_one i1_other i1_kind i1_years i1_sawn i1_pairs i1_gone i2_seatOf i2_one i2_other i2_kind i2_years i2_sawn i2_pairs i2_gone) (wX E ad x_imageCount R0.2.1 x_lastFault x_lastPlace pa_names pa_faultNumber pa_faultPlace rd_tape rd_length rd_end rd_next rd_sort rd_start rd_value rd_word to_unsurePair to_unsureYears to_triedPair to_seats to_slack to_sawInches to_quarrelChance to_people to_forkBits to_unsure to_tried to_triedFedBits tf_seatOf tf_one tf_other tf_kind tf_years tf_sawn tf_pairs tf_gone bd_unsurePair bd_unsureYears bd_triedPair bd_seats bd_slack bd_sawInches bd_quarrelChance bd_people bd_forkBits bd_unsure bd_tried bd_triedFedBits bf_seatOf bf_one bf_other bf_kind bf_years bf_sawn bf_pairs bf_gone nw_seatOf nw_one nw_other nw_kind nw_years nw_sawn nw_pairs nw_gone sc_seatOf sc_handle sc_both sc_slopOf sc_forkBits sc_canBits sc_bestBits sc_bestSlops sl_bits sl_count se_bestRow se_row se_pairAt se_hope se_hopeAt se_slopAt se_farBits se_gain se_worth se_bestWorth se_fresh R0.2.2.1 R0.2.2.2.1 R0.2.2.2.2.1 R0.2.2.2.2.2.1 R0.2.2.2.2.2.2.1 R0.2.2.2.2.2.2.2.1 R0.2.2.2.2.2.2.2.2.1 R0.2.2.2.2.2.2.2.2.2 fi_sets fi_count ps_act ps_whom ps_amount ps_next ps_count i0_seatOf i0_one i0_other i0_kind i0_years i0_sawn i0_pairs i0_gone i1_seatOf i1_one i1_other i1_kind i1_years i1_sawn i1_pairs i1_gone i2_seatOf i2_one i2_other i2_kind i2_years i2_sawn i2_pairs i2_gone) R0.1 := by
  refine xI_of (by decide) (Nat.le_of_ble_eq_true rfl) (fun p e s m args below meth c A C ls hl G => ?_)
  have hx := C.1
  have hb := C.2.1
  have hl : lv_has ls 1 [(0, .ref (ad 0))] := hl
  unfold f_X_saws at hf
  refine lv_aload_n hx hb dX10_saws_0 rfl (lv_at hl 0 rfl) ?_
  obtain ⟨x1, hc, hf⟩ := bd_go hf
  refine xI_V C G (c_X_noTable_x hc) mX10_noTable kX10_187 (wX_at0) rfl ⟨Nat.le_of_ble_eq_true rfl, Nat.le_of_ble_eq_true rfl⟩ rfl hl.1 rfl (Nat.le_of_ble_eq_true rfl) ⟨Nat.le_refl _, Nat.le_refl _⟩ dX10_saws_1 (fun hz1 H locs G => ?_)
  refine lv_if_eq (tgt := 9) hx hb dX10_saws_4 (by decide) (fun h => ?_) (fun h => ?_)
  · have hf := it_t h hf
    refine lv_aload_n hx hb dX10_saws_9 rfl (lv_at hl 0 rfl) ?_
    obtain ⟨x2, hc, hf⟩ := bd_go hf
    refine xV_V C G (c_X_chooseSaws_x hc) mX10_chooseSaws kX10_261 (wX_at0) rfl ⟨Nat.le_of_ble_eq_true rfl, Nat.le_of_ble_eq_true rfl⟩ rfl hl.1 rfl (Nat.le_of_ble_eq_true rfl) ⟨Nat.le_refl _, Nat.le_refl _⟩ dX10_saws_10 (fun H locs G => ?_)
    refine lv_aload_n hx hb dX10_saws_13 rfl (lv_at hl 0 rfl) ?_
    refine x_get C G fX10_49 (wX_at0) rfl dX10_saws_14 ?_
    refine x_get C G fX10_264.g (wX_at52) rfl dX10_saws_17 ?_
    obtain rfl := Option.some.inj hf
    exact xI_ret C G rfl dX10_saws_20
  · have hf := it_f h hf
    refine lv_iconst (v := -1) hx hb dX10_saws_7 (by decide) ?_
    obtain rfl := Option.some.inj hf
    exact xI_ret C G rfl dX10_saws_8
set_option maxHeartbeats 4000000 in
set_option maxRecDepth 100000 in
theorem c_X_sawsOf_x {l : Launch} {E : xE} {ad : Nat → Nat} {x_imageCount x_lastTrouble x_lastFault x_lastPlace pa_faultNumber pa_faultPlace rd_length rd_end rd_next rd_sort rd_start rd_value to_seats to_slack to_sawInches to_quarrelChance to_people to_forkBits to_unsure to_tried to_triedFedBits tf_pairs tf_gone bd_seats bd_slack bd_sawInches bd_quarrelChance bd_people bd_forkBits bd_unsure bd_tried bd_triedFedBits bf_pairs bf_gone nw_pairs nw_gone sc_forkBits sc_canBits sc_bestBits sc_bestSlops sl_count se_bestWorth se_fresh ch_items ch_leastCost ch_leastBits cl_count fi_count ps_next ps_count i0_pairs i0_gone i1_pairs i1_gone i2_pairs i2_gone : Int32} {pa_names : Nat → Int64} {rd_tape to_unsurePair to_unsureYears to_triedPair tf_seatOf tf_one tf_other tf_kind tf_years tf_sawn bd_unsurePair bd_unsureYears bd_triedPair bf_seatOf bf_one bf_other bf_kind bf_years bf_sawn nw_seatOf nw_one nw_other nw_kind nw_years nw_sawn sc_seatOf sc_handle sc_both sc_slopOf sl_bits se_bestRow se_row se_pairAt se_hope se_hopeAt se_slopAt se_farBits se_gain se_worth ch_both ch_cost ch_bit cl_bits fi_sets ps_act ps_whom ps_amount i0_seatOf i0_one i0_other i0_kind i0_years i0_sawn i1_seatOf i1_one i1_other i1_kind i1_years i1_sawn i2_seatOf i2_one i2_other i2_kind i2_years i2_sawn : Nat → Int32} {rd_word : Int64} {l1 : Int32} {R0 : Int32 × Int32 × (Nat → Int32) × (Nat → Int32) × (Nat → Int32) × Int32 × Int32 × Int32 × (Nat → Int32) × Int32} (hf : f_X_sawsOf l1 bd_slack bd_people nw_seatOf nw_one nw_other nw_kind nw_years nw_sawn nw_pairs ch_both ch_cost ch_bit ch_items ch_leastCost ch_leastBits cl_bits cl_count = some R0) : xI l E yX10_sawsOf cX10_sawsOf 2 (some .int) 5 112 [.ref (ad 0), .int l1] (wX E ad x_imageCount x_lastTrouble x_lastFault x_lastPlace pa_names pa_faultNumber pa_faultPlace rd_tape rd_length rd_end rd_next rd_sort rd_start rd_value rd_word to_unsurePair to_unsureYears to_triedPair to_seats to_slack to_sawInches to_quarrelChance to_people to_forkBits to_unsure to_tried to_triedFedBits tf_seatOf tf_one tf_other tf_kind tf_years tf_sawn tf_pairs tf_gone bd_unsurePair bd_unsureYears bd_triedPair bd_seats bd_slack bd_sawInches bd_quarrelChance bd_people bd_forkBits bd_unsure bd_tried bd_triedFedBits bf_seatOf bf_one bf_other bf_kind bf_years bf_sawn bf_pairs bf_gone nw_seatOf nw_one nw_other nw_kind nw_years nw_sawn nw_pairs nw_gone sc_seatOf sc_handle sc_both sc_slopOf sc_forkBits sc_canBits sc_bestBits sc_bestSlops sl_bits sl_count se_bestRow se_row se_pairAt se_hope se_hopeAt se_slopAt se_farBits se_gain se_worth se_bestWorth se_fresh ch_both ch_cost ch_bit ch_items ch_leastCost ch_leastBits cl_bits cl_count fi_sets fi_count ps_act ps_whom ps_amount ps_next ps_count i0_seatOf i0_one i0_other i0_kind i0_years i0_sawn i0_pairs i0_gone i1_seatOf i1_one i1_other i1_kind i1_years i1_sawn i1_pairs i1_gone i2_seatOf i2_one i2_other i2_kind i2_years i2_sawn i2_pairs i2_gone) (wX E ad x_imageCount R0.2.1 x_lastFault x_lastPlace pa_names pa_faultNumber pa_faultPlace rd_tape rd_length rd_end rd_next rd_sort rd_start rd_value rd_word to_unsurePair to_unsureYears to_triedPair to_seats to_slack to_sawInches to_quarrelChance to_people to_forkBits to_unsure to_tried to_triedFedBits tf_seatOf tf_one tf_other tf_kind tf_years tf_sawn tf_pairs tf_gone bd_unsurePair bd_unsureYears bd_triedPair bd_seats bd_slack bd_sawInches bd_quarrelChance bd_people bd_forkBits bd_unsure bd_tried bd_triedFedBits bf_seatOf bf_one bf_other bf_kind bf_years bf_sawn bf_pairs bf_gone nw_seatOf nw_one nw_other nw_kind nw_years nw_sawn nw_pairs nw_gone sc_seatOf sc_handle sc_both sc_slopOf sc_forkBits sc_canBits sc_bestBits sc_bestSlops sl_bits sl_count se_bestRow se_row se_pairAt se_hope se_hopeAt se_slopAt se_farBits se_gain se_worth se_bestWorth se_fresh R0.2.2.1 R0.2.2.2.1 R0.2.2.2.2.1 R0.2.2.2.2.2.1 R0.2.2.2.2.2.2.1 R0.2.2.2.2.2.2.2.1 R0.2.2.2.2.2.2.2.2.1 R0.2.2.2.2.2.2.2.2.2 fi_sets fi_count ps_act ps_whom ps_amount ps_next ps_count i0_seatOf i0_one i0_other i0_kind i0_years i0_sawn i0_pairs i0_gone i1_seatOf i1_one i1_other i1_kind i1_years i1_sawn i1_pairs i1_gone i2_seatOf i2_one i2_other i2_kind i2_years i2_sawn i2_pairs i2_gone) R0.1 := by
  refine xI_of (by decide) (Nat.le_of_ble_eq_true rfl) (fun p e s m args below meth c A C ls hl G => ?_)
  have hx := C.1
  have hb := C.2.1
  have hl : lv_has ls 2 [(0, .ref (ad 0)), (1, .int l1)] := hl
  unfold f_X_sawsOf at hf
  refine lv_aload_n hx hb dX10_sawsOf_0 rfl (lv_at hl 0 rfl) ?_
  refine lv_iload_n hx hb dX10_sawsOf_1 rfl (lv_at hl 1 rfl) ?_
  obtain ⟨x1, hc, hf⟩ := bd_go hf
  refine xI_V C G (c_X_noPair_x hc) mX10_noPair kX10_142 (wX_at0) rfl ⟨Nat.le_of_ble_eq_true rfl, Nat.le_of_ble_eq_true rfl⟩ rfl hl.1 rfl (Nat.le_of_ble_eq_true rfl) ⟨Nat.le_refl _, Nat.le_refl _⟩ dX10_sawsOf_2 (fun hz1 H locs G => ?_)
  refine lv_if_eq (tgt := 10) hx hb dX10_sawsOf_5 (by decide) (fun h => ?_) (fun h => ?_)
  · have hf := it_t h hf
    refine lv_aload_n hx hb dX10_sawsOf_10 rfl (lv_at hl 0 rfl) ?_
    obtain ⟨x2, hc, hf⟩ := bd_go hf
    refine xV_V C G (c_X_chooseSaws_x hc) mX10_chooseSaws kX10_261 (wX_at0) rfl ⟨Nat.le_of_ble_eq_true rfl, Nat.le_of_ble_eq_true rfl⟩ rfl hl.1 rfl (Nat.le_of_ble_eq_true rfl) ⟨Nat.le_refl _, Nat.le_refl _⟩ dX10_sawsOf_11 (fun H locs G => ?_)
    refine lv_aload_n hx hb dX10_sawsOf_14 rfl (lv_at hl 0 rfl) ?_
    refine x_get C G fX10_49 (wX_at0) rfl dX10_sawsOf_15 ?_
    refine x_get C G fX10_264.g (wX_at52) rfl dX10_sawsOf_18 ?_
    refine lv_if_ge (tgt := 27) hx hb dX10_sawsOf_21 (by decide) (fun h => ?_) (fun h => ?_)
    · have hf := it_t h hf
      refine lv_aload_n hx hb dX10_sawsOf_27 rfl (lv_at hl 0 rfl) ?_
      refine x_get C G fX10_49 (wX_at0) rfl dX10_sawsOf_28 ?_
      refine x_get C G fX10_267.g (wX_at52) rfl dX10_sawsOf_31 ?_
      refine lv_iload_n hx hb dX10_sawsOf_34 rfl (lv_at hl 1 rfl) ?_
      obtain ⟨x3, hc, hf⟩ := bd_go hf
      refine xI_S C G (c_X_has_any hc) mX10_has kX10_257 ⟨Nat.le_of_ble_eq_true rfl, Nat.le_of_ble_eq_true rfl⟩ rfl hl.1 rfl (Nat.le_of_ble_eq_true rfl) ⟨Nat.le_refl _, Nat.le_refl _⟩ dX10_sawsOf_35 (fun hz3 H locs G => ?_)
      refine lv_if_eq (tgt := 53) hx hb dX10_sawsOf_38 (by decide) (fun h => ?_) (fun h => ?_)
      · have hf := it_t h hf
        refine lv_iconst (v := 0) hx hb dX10_sawsOf_53 (by decide) ?_
        obtain rfl := Option.some.inj hf
        exact xI_ret C G rfl dX10_sawsOf_54
      · have hf := it_f h hf
        refine lv_aload_n hx hb dX10_sawsOf_41 rfl (lv_at hl 0 rfl) ?_
        refine x_get C G fX10_49 (wX_at0) rfl dX10_sawsOf_42 ?_
        refine x_get C G fX10_270 (wX_at52) rfl dX10_sawsOf_45 ?_
        refine lv_iload_n hx hb dX10_sawsOf_48 rfl (lv_at hl 1 rfl) ?_
        have hi := ck_in hf
        have hf := ck_go hf
        refine x_iald C G (wX_at54) hi dX10_sawsOf_49 ?_
        refine lv_goto (tgt := 54) hx hb dX10_sawsOf_50 (by decide) ?_
        obtain rfl := Option.some.inj hf
        exact xI_ret C G rfl dX10_sawsOf_54
    · have hf := it_f h hf
      refine lv_bipush (v := -2) hx hb dX10_sawsOf_24 (by decide) ?_
      obtain rfl := Option.some.inj hf
      exact xI_ret C G rfl dX10_sawsOf_26
  · have hf := it_f h hf
    refine lv_iconst (v := -1) hx hb dX10_sawsOf_8 (by decide) ?_
    obtain rfl := Option.some.inj hf
    exact xI_ret C G rfl dX10_sawsOf_9
set_option maxHeartbeats 4000000 in
set_option maxRecDepth 100000 in
theorem c_X_addTwo_x {l : Launch} {E : xE} {ad : Nat → Nat} {x_imageCount x_lastTrouble x_lastFault x_lastPlace pa_faultNumber pa_faultPlace rd_length rd_end rd_next rd_sort rd_start rd_value to_seats to_slack to_sawInches to_quarrelChance to_people to_forkBits to_unsure to_tried to_triedFedBits tf_pairs tf_gone bd_seats bd_slack bd_sawInches bd_quarrelChance bd_people bd_forkBits bd_unsure bd_tried bd_triedFedBits bf_pairs bf_gone nw_pairs nw_gone sc_forkBits sc_canBits sc_bestBits sc_bestSlops sl_count se_bestWorth se_fresh ch_items ch_leastCost ch_leastBits cl_count fi_count ps_next ps_count i0_pairs i0_gone i1_pairs i1_gone i2_pairs i2_gone : Int32} {pa_names : Nat → Int64} {rd_tape to_unsurePair to_unsureYears to_triedPair tf_seatOf tf_one tf_other tf_kind tf_years tf_sawn bd_unsurePair bd_unsureYears bd_triedPair bf_seatOf bf_one bf_other bf_kind bf_years bf_sawn nw_seatOf nw_one nw_other nw_kind nw_years nw_sawn sc_seatOf sc_handle sc_both sc_slopOf sl_bits se_bestRow se_row se_pairAt se_hope se_hopeAt se_slopAt se_farBits se_gain se_worth ch_both ch_cost ch_bit cl_bits fi_sets ps_act ps_whom ps_amount i0_seatOf i0_one i0_other i0_kind i0_years i0_sawn i1_seatOf i1_one i1_other i1_kind i1_years i1_sawn i2_seatOf i2_one i2_other i2_kind i2_years i2_sawn : Nat → Int32} {rd_word : Int64} {l1 : Int32} {l2 : Int32} {l3 : Int32} {R0 : (Nat → Int32) × (Nat → Int32) × (Nat → Int32) × Int32} (hf : f_X_addTwo l1 l2 l3 bd_slack nw_seatOf nw_one nw_other nw_kind nw_years nw_sawn nw_pairs ch_both ch_cost ch_bit ch_items = some R0) : xV l E yX10_addTwo cX10_addTwo 7 none 3 66 [.ref (ad 0), .int l1, .int l2, .int l3] (wX E ad x_imageCount x_lastTrouble x_lastFault x_lastPlace pa_names pa_faultNumber pa_faultPlace rd_tape rd_length rd_end rd_next rd_sort rd_start rd_value rd_word to_unsurePair to_unsureYears to_triedPair to_seats to_slack to_sawInches to_quarrelChance to_people to_forkBits to_unsure to_tried to_triedFedBits tf_seatOf tf_one tf_other tf_kind tf_years tf_sawn tf_pairs tf_gone bd_unsurePair bd_unsureYears bd_triedPair bd_seats bd_slack bd_sawInches bd_quarrelChance bd_people bd_forkBits bd_unsure bd_tried bd_triedFedBits bf_seatOf bf_one bf_other bf_kind bf_years bf_sawn bf_pairs bf_gone nw_seatOf nw_one nw_other nw_kind nw_years nw_sawn nw_pairs nw_gone sc_seatOf sc_handle sc_both sc_slopOf sc_forkBits sc_canBits sc_bestBits sc_bestSlops sl_bits sl_count se_bestRow se_row se_pairAt se_hope se_hopeAt se_slopAt se_farBits se_gain se_worth se_bestWorth se_fresh ch_both ch_cost ch_bit ch_items ch_leastCost ch_leastBits cl_bits cl_count fi_sets fi_count ps_act ps_whom ps_amount ps_next ps_count i0_seatOf i0_one i0_other i0_kind i0_years i0_sawn i0_pairs i0_gone i1_seatOf i1_one i1_other i1_kind i1_years i1_sawn i1_pairs i1_gone i2_seatOf i2_one i2_other i2_kind i2_years i2_sawn i2_pairs i2_gone) (wX E ad x_imageCount x_lastTrouble x_lastFault x_lastPlace pa_names pa_faultNumber pa_faultPlace rd_tape rd_length rd_end rd_next rd_sort rd_start rd_value rd_word to_unsurePair to_unsureYears to_triedPair to_seats to_slack to_sawInches to_quarrelChance to_people to_forkBits to_unsure to_tried to_triedFedBits tf_seatOf tf_one tf_other tf_kind tf_years tf_sawn tf_pairs tf_gone bd_unsurePair bd_unsureYears bd_triedPair bd_seats bd_slack bd_sawInches bd_quarrelChance bd_people bd_forkBits bd_unsure bd_tried bd_triedFedBits bf_seatOf bf_one bf_other bf_kind bf_years bf_sawn bf_pairs bf_gone nw_seatOf nw_one nw_other nw_kind nw_years nw_sawn nw_pairs nw_gone sc_seatOf sc_handle sc_both sc_slopOf sc_forkBits sc_canBits sc_bestBits sc_bestSlops sl_bits sl_count se_bestRow se_row se_pairAt se_hope se_hopeAt se_slopAt se_farBits se_gain se_worth se_bestWorth se_fresh R0.1 R0.2.1 R0.2.2.1 R0.2.2.2 ch_leastCost ch_leastBits cl_bits cl_count fi_sets fi_count ps_act ps_whom ps_amount ps_next ps_count i0_seatOf i0_one i0_other i0_kind i0_years i0_sawn i0_pairs i0_gone i1_seatOf i1_one i1_other i1_kind i1_years i1_sawn i1_pairs i1_gone i2_seatOf i2_one i2_other i2_kind i2_years i2_sawn i2_pairs i2_gone) := by
  refine xV_of (by decide) (Nat.le_of_ble_eq_true rfl) (fun p e s m args below meth c A C ls hl G => ?_)
  have hx := C.1
  have hb := C.2.1
  have hl : lv_has ls 7 [(0, .ref (ad 0)), (1, .int l1), (2, .int l2), (3, .int l3)] := hl
  unfold f_X_addTwo at hf
  refine lv_iconst (v := 1) hx hb dX10_addTwo_0 (by decide) ?_
  refine lv_iload_n hx hb dX10_addTwo_1 rfl (lv_at hl 1 rfl) ?_
  refine lv_ishl hx hb dX10_addTwo_2 ?_
  refine lv_iconst (v := 1) hx hb dX10_addTwo_3 (by decide) ?_
  refine lv_iload_n hx hb dX10_addTwo_4 rfl (lv_at hl 2 rfl) ?_
  refine lv_ishl hx hb dX10_addTwo_5 ?_
  refine lv_ior hx hb dX10_addTwo_6 ?_
  refine lv_topi (fun x1 ex1 => ?_)
  have hf := lt_go ex1 hf
  refine lv_istore (lv' := [(4, .int x1), (0, .ref (ad 0)), (1, .int l1), (2, .int l2), (3, .int l3)]) hx hb dX10_addTwo_7 hl (by decide) rfl (fun ls hl => ?_)
  refine lv_aload_n hx hb dX10_addTwo_9 rfl (lv_at hl 1 rfl) ?_
  refine x_get C G fX10_26 (wX_at0) rfl dX10_addTwo_10 ?_
  refine lv_iload_n hx hb dX10_addTwo_13 rfl (lv_at hl 2 rfl) ?_
  refine lv_iload_n hx hb dX10_addTwo_14 rfl (lv_at hl 3 rfl) ?_
  obtain ⟨x2, hc, hf⟩ := bd_go hf
  refine xI_V C G (c_Now_find_nw hc) mX4_find kX10_177 (wX_at28) rfl ⟨Nat.le_of_ble_eq_true rfl, Nat.le_of_ble_eq_true rfl⟩ rfl hl.1 rfl (Nat.le_of_ble_eq_true rfl) ⟨Nat.le_refl _, Nat.le_refl _⟩ dX10_addTwo_15 (fun hz H locs G => ?_)
  refine lv_istore (lv' := [(5, .int x2), (4, .int x1), (0, .ref (ad 0)), (1, .int l1), (2, .int l2), (3, .int l3)]) hx hb dX10_addTwo_18 hl (by decide) rfl (fun ls hl => ?_)
  refine lv_iload hx hb dX10_addTwo_20 (lv_at hl 0 rfl) ?_
  refine lv_if_lt (tgt := 53) hx hb dX10_addTwo_22 (by decide) (fun h => ?_) (fun h => ?_)
  · have hf := it_t h hf
    refine lv_aload_n hx hb dX10_addTwo_53 rfl (lv_at hl 2 rfl) ?_
    refine x_get C G fX10_26 (wX_at0) rfl dX10_addTwo_54 ?_
    refine x_get C G fX10_138 (wX_at28) rfl dX10_addTwo_57 ?_
    refine lv_iload_n hx hb dX10_addTwo_60 rfl (lv_at hl 3 rfl) ?_
    have hi := ck_in hf
    have hf := ck_go hf
    refine x_iald C G (wX_at29) hi dX10_addTwo_61 ?_
    refine lv_aload_n hx hb dX10_addTwo_62 rfl (lv_at hl 2 rfl) ?_
    refine x_get C G fX10_26 (wX_at0) rfl dX10_addTwo_63 ?_
    refine x_get C G fX10_138 (wX_at28) rfl dX10_addTwo_66 ?_
    refine lv_iload_n hx hb dX10_addTwo_69 rfl (lv_at hl 4 rfl) ?_
    have hi := ck_in hf
    have hf := ck_go hf
    refine x_iald C G (wX_at29) hi dX10_addTwo_70 ?_
    refine lv_isub hx hb dX10_addTwo_71 ?_
    refine x_abs C mMath_abs kX10_385 hl.1 (Nat.le_of_ble_eq_true rfl) (Nat.le_of_ble_eq_true rfl) ⟨Nat.le_refl _, Nat.le_refl _⟩ dX10_addTwo_72 ?_
    refine lv_topi (fun x3 ex3 => ?_)
    have hf := lt_go ex3 hf
    refine lv_istore (lv' := [(6, .int x3), (5, .int x2), (4, .int x1), (0, .ref (ad 0)), (1, .int l1), (2, .int l2), (3, .int l3)]) hx hb dX10_addTwo_75 hl (by decide) rfl (fun ls hl => ?_)
    refine lv_aload_n hx hb dX10_addTwo_77 rfl (lv_at hl 3 rfl) ?_
    refine x_get C G fX10_49 (wX_at0) rfl dX10_addTwo_78 ?_
    refine lv_iload hx hb dX10_addTwo_81 (lv_at hl 2 rfl) ?_
    refine lv_iconst (v := 0) hx hb dX10_addTwo_83 (by decide) ?_
    refine lv_iload_n hx hb dX10_addTwo_84 rfl (lv_at hl 6 rfl) ?_
    refine lv_iload hx hb dX10_addTwo_85 (lv_at hl 0 rfl) ?_
    refine lv_aload_n hx hb dX10_addTwo_87 rfl (lv_at hl 3 rfl) ?_
    refine x_get C G fX10_22 (wX_at0) rfl dX10_addTwo_88 ?_
    refine x_get C G fX10_370.g (wX_at17) rfl dX10_addTwo_91 ?_
    obtain ⟨x4, hc, hf⟩ := bd_go hf
    refine xI_S C G (c_X_reaches_any hc) mX10_reaches kX10_394 ⟨Nat.le_of_ble_eq_true rfl, Nat.le_of_ble_eq_true rfl⟩ rfl hl.1 rfl (Nat.le_of_ble_eq_true rfl) ⟨Nat.le_refl _, Nat.le_refl _⟩ dX10_addTwo_94 (fun hz4 H locs G => ?_)
    obtain ⟨x5, hr, hf⟩ := bd_go hf
    have Jx5 : ∀ (H : Heap) (locs : List Loc) (ls : Array Slot), xG s E A (wX E ad x_imageCount x_lastTrouble x_lastFault x_lastPlace pa_names pa_faultNumber pa_faultPlace rd_tape rd_length rd_end rd_next rd_sort rd_start rd_value rd_word to_unsurePair to_unsureYears to_triedPair to_seats to_slack to_sawInches to_quarrelChance to_people to_forkBits to_unsure to_tried to_triedFedBits tf_seatOf tf_one tf_other tf_kind tf_years tf_sawn tf_pairs tf_gone bd_unsurePair bd_unsureYears bd_triedPair bd_seats bd_slack bd_sawInches bd_quarrelChance bd_people bd_forkBits bd_unsure bd_tried bd_triedFedBits bf_seatOf bf_one bf_other bf_kind bf_years bf_sawn bf_pairs bf_gone nw_seatOf nw_one nw_other nw_kind nw_years nw_sawn nw_pairs nw_gone sc_seatOf sc_handle sc_both sc_slopOf sc_forkBits sc_canBits sc_bestBits sc_bestSlops sl_bits sl_count se_bestRow se_row se_pairAt se_hope se_hopeAt se_slopAt se_farBits se_gain se_worth se_bestWorth se_fresh ch_both ch_cost ch_bit ch_items ch_leastCost ch_leastBits cl_bits cl_count fi_sets fi_count ps_act ps_whom ps_amount ps_next ps_count i0_seatOf i0_one i0_other i0_kind i0_years i0_sawn i0_pairs i0_gone i1_seatOf i1_one i1_other i1_kind i1_years i1_sawn i1_pairs i1_gone i2_seatOf i2_one i2_other i2_kind i2_years i2_sawn i2_pairs i2_gone) H locs → lv_has ls 7 [(0, .ref (ad 0))] → W p l e (xR 3 66) s m args below meth c H locs 0 0 (MQ below (xqV E A (wX E ad x_imageCount x_lastTrouble x_lastFault x_lastPlace pa_names pa_faultNumber pa_faultPlace rd_tape rd_length rd_end rd_next rd_sort rd_start rd_value rd_word to_unsurePair to_unsureYears to_triedPair to_seats to_slack to_sawInches to_quarrelChance to_people to_forkBits to_unsure to_tried to_triedFedBits tf_seatOf tf_one tf_other tf_kind tf_years tf_sawn tf_pairs tf_gone bd_unsurePair bd_unsureYears bd_triedPair bd_seats bd_slack bd_sawInches bd_quarrelChance bd_people bd_forkBits bd_unsure bd_tried bd_triedFedBits bf_seatOf bf_one bf_other bf_kind bf_years bf_sawn bf_pairs bf_gone nw_seatOf nw_one nw_other nw_kind nw_years nw_sawn nw_pairs nw_gone sc_seatOf sc_handle sc_both sc_slopOf sc_forkBits sc_canBits sc_bestBits sc_bestSlops sl_bits sl_count se_bestRow se_row se_pairAt se_hope se_hopeAt se_slopAt se_farBits se_gain se_worth se_bestWorth se_fresh R0.1 R0.2.1 R0.2.2.1 R0.2.2.2 ch_leastCost ch_leastBits cl_bits cl_count fi_sets fi_count ps_act ps_whom ps_amount ps_next ps_count i0_seatOf i0_one i0_other i0_kind i0_years i0_sawn i0_pairs i0_gone i1_seatOf i1_one i1_other i1_kind i1_years i1_sawn i1_pairs i1_gone i2_seatOf i2_one i2_other i2_kind i2_years i2_sawn i2_pairs i2_gone)) args s 0 0 A) (F0 m 105 ls [.int x5, .int x1, .ref (ad 52)]) := by
      intro H locs ls G hl
      refine lv_iconst (v := 1) hx hb dX10_addTwo_105 (by decide) ?_
      refine lv_aload_n hx hb dX10_addTwo_106 rfl (lv_at hl 0 rfl) ?_
      refine x_get C G fX10_49 (wX_at0) rfl dX10_addTwo_107 ?_
      refine x_get C G fX10_401.g (wX_at52) rfl dX10_addTwo_110 ?_
      refine lv_ishl hx hb dX10_addTwo_113 ?_
      obtain ⟨x6, hc, hf⟩ := bd_go hf
      refine xV_V C G (c_Choice_add_ch hc) mX1_add kX10_410 (wX_at52) rfl ⟨Nat.le_of_ble_eq_true rfl, Nat.le_of_ble_eq_true rfl⟩ rfl hl.1 rfl (Nat.le_of_ble_eq_true rfl) ⟨Nat.le_refl _, Nat.le_refl _⟩ dX10_addTwo_114 (fun H locs G => ?_)
      obtain rfl := Option.some.inj hf
      exact xV_ret C G dX10_addTwo_117
    have hf := hr
    refine lv_if_eq (tgt := 104) hx hb dX10_addTwo_97 (by decide) (fun h => ?_) (fun h => ?_)
    · have hf := it_t h hf
      refine lv_iconst (v := -1) hx hb dX10_addTwo_104 (by decide) ?_
      obtain rfl := Option.some.inj hf
      exact Jx5 _ _ _ G (lv_sub hl [3] rfl)
    · have hf := it_f h hf
      refine lv_iconst (v := 1) hx hb dX10_addTwo_100 (by decide) ?_
      refine lv_goto (tgt := 105) hx hb dX10_addTwo_101 (by decide) ?_
      obtain rfl := Option.some.inj hf
      exact Jx5 _ _ _ G (lv_sub hl [3] rfl)
  · have hf := it_f h hf
    refine lv_aload_n hx hb dX10_addTwo_25 rfl (lv_at hl 2 rfl) ?_
    refine x_get C G fX10_49 (wX_at0) rfl dX10_addTwo_26 ?_
    refine lv_iload hx hb dX10_addTwo_29 (lv_at hl 1 rfl) ?_
    refine lv_aload_n hx hb dX10_addTwo_31 rfl (lv_at hl 2 rfl) ?_
    refine lv_iload hx hb dX10_addTwo_32 (lv_at hl 0 rfl) ?_
    refine lv_iload_n hx hb dX10_addTwo_34 rfl (lv_at hl 5 rfl) ?_
    obtain ⟨x7, hc, hf⟩ := bd_go hf
    refine xI_V C G (c_X_canFeedBehind_x hc) mX10_canFeedBehind kX10_222 (wX_at0) rfl ⟨Nat.le_of_ble_eq_true rfl, Nat.le_of_ble_eq_true rfl⟩ rfl hl.1 rfl (Nat.le_of_ble_eq_true rfl) ⟨Nat.le_refl _, Nat.le_refl _⟩ dX10_addTwo_35 (fun hz7 H locs G => ?_)
    obtain ⟨x8, hr, hf⟩ := bd_go hf
    have Jx8 : ∀ (H : Heap) (locs : List Loc) (ls : Array Slot), xG s E A (wX E ad x_imageCount x_lastTrouble x_lastFault x_lastPlace pa_names pa_faultNumber pa_faultPlace rd_tape rd_length rd_end rd_next rd_sort rd_start rd_value rd_word to_unsurePair to_unsureYears to_triedPair to_seats to_slack to_sawInches to_quarrelChance to_people to_forkBits to_unsure to_tried to_triedFedBits tf_seatOf tf_one tf_other tf_kind tf_years tf_sawn tf_pairs tf_gone bd_unsurePair bd_unsureYears bd_triedPair bd_seats bd_slack bd_sawInches bd_quarrelChance bd_people bd_forkBits bd_unsure bd_tried bd_triedFedBits bf_seatOf bf_one bf_other bf_kind bf_years bf_sawn bf_pairs bf_gone nw_seatOf nw_one nw_other nw_kind nw_years nw_sawn nw_pairs nw_gone sc_seatOf sc_handle sc_both sc_slopOf sc_forkBits sc_canBits sc_bestBits sc_bestSlops sl_bits sl_count se_bestRow se_row se_pairAt se_hope se_hopeAt se_slopAt se_farBits se_gain se_worth se_bestWorth se_fresh ch_both ch_cost ch_bit ch_items ch_leastCost ch_leastBits cl_bits cl_count fi_sets fi_count ps_act ps_whom ps_amount ps_next ps_count i0_seatOf i0_one i0_other i0_kind i0_years i0_sawn i0_pairs i0_gone i1_seatOf i1_one i1_other i1_kind i1_years i1_sawn i1_pairs i1_gone i2_seatOf i2_one i2_other i2_kind i2_years i2_sawn i2_pairs i2_gone) H locs → lv_has ls 7 [] → W p l e (xR 3 66) s m args below meth c H locs 0 0 (MQ below (xqV E A (wX E ad x_imageCount x_lastTrouble x_lastFault x_lastPlace pa_names pa_faultNumber pa_faultPlace rd_tape rd_length rd_end rd_next rd_sort rd_start rd_value rd_word to_unsurePair to_unsureYears to_triedPair to_seats to_slack to_sawInches to_quarrelChance to_people to_forkBits to_unsure to_tried to_triedFedBits tf_seatOf tf_one tf_other tf_kind tf_years tf_sawn tf_pairs tf_gone bd_unsurePair bd_unsureYears bd_triedPair bd_seats bd_slack bd_sawInches bd_quarrelChance bd_people bd_forkBits bd_unsure bd_tried bd_triedFedBits bf_seatOf bf_one bf_other bf_kind bf_years bf_sawn bf_pairs bf_gone nw_seatOf nw_one nw_other nw_kind nw_years nw_sawn nw_pairs nw_gone sc_seatOf sc_handle sc_both sc_slopOf sc_forkBits sc_canBits sc_bestBits sc_bestSlops sl_bits sl_count se_bestRow se_row se_pairAt se_hope se_hopeAt se_slopAt se_farBits se_gain se_worth se_bestWorth se_fresh R0.1 R0.2.1 R0.2.2.1 R0.2.2.2 ch_leastCost ch_leastBits cl_bits cl_count fi_sets fi_count ps_act ps_whom ps_amount ps_next ps_count i0_seatOf i0_one i0_other i0_kind i0_years i0_sawn i0_pairs i0_gone i1_seatOf i1_one i1_other i1_kind i1_years i1_sawn i1_pairs i1_gone i2_seatOf i2_one i2_other i2_kind i2_years i2_sawn i2_pairs i2_gone)) args s 0 0 A) (F0 m 46 ls [.int x8, .int x1, .ref (ad 52)]) := by
      intro H locs ls G hl
      refine lv_iconst (v := 0) hx hb dX10_addTwo_46 (by decide) ?_
      obtain ⟨x9, hc, hf⟩ := bd_go hf
      refine xV_V C G (c_Choice_add_ch hc) mX1_add kX10_410 (wX_at52) rfl ⟨Nat.le_of_ble_eq_true rfl, Nat.le_of_ble_eq_true rfl⟩ rfl hl.1 rfl (Nat.le_of_ble_eq_true rfl) ⟨Nat.le_refl _, Nat.le_refl _⟩ dX10_addTwo_47 (fun H locs G => ?_)
      refine lv_goto (tgt := 117) hx hb dX10_addTwo_50 (by decide) ?_
      obtain rfl := Option.some.inj hf
      exact xV_ret C G dX10_addTwo_117
    have hf := hr
    refine lv_if_eq (tgt := 45) hx hb dX10_addTwo_38 (by decide) (fun h => ?_) (fun h => ?_)
    · have hf := it_t h hf
      refine lv_iconst (v := -1) hx hb dX10_addTwo_45 (by decide) ?_
      obtain rfl := Option.some.inj hf
      exact Jx8 _ _ _ G (lv_sub hl [] rfl)
    · have hf := it_f h hf
      refine lv_iconst (v := 0) hx hb dX10_addTwo_41 (by decide) ?_
      refine lv_goto (tgt := 46) hx hb dX10_addTwo_42 (by decide) ?_
      obtain rfl := Option.some.inj hf
      exact Jx8 _ _ _ G (lv_sub hl [] rfl)
set_option maxHeartbeats 4000000 in
set_option maxRecDepth 100000 in
theorem w_X_chooseMeet_x_L25 {p : Program} {l : Launch} {e : Env} {s : State} {m : MethodId} {args : Array Value} {below : List Frame} {meth : Method} {c : Code} {A : Nat → Prop} {E : xE} {Q : State → Prop} {ad : Nat → Nat} {x_imageCount x_lastTrouble x_lastFault x_lastPlace pa_faultNumber pa_faultPlace rd_length rd_end rd_next rd_sort rd_start rd_value to_seats to_slack to_sawInches to_quarrelChance to_people to_forkBits to_unsure to_tried to_triedFedBits tf_pairs tf_gone bd_seats bd_slack bd_sawInches bd_quarrelChance bd_people bd_forkBits bd_unsure bd_tried bd_triedFedBits bf_pairs bf_gone nw_pairs nw_gone sc_forkBits sc_canBits sc_bestBits sc_bestSlops sl_count se_bestWorth se_fresh ch_leastCost ch_leastBits cl_count fi_count ps_next ps_count i0_pairs i0_gone i1_pairs i1_gone i2_pairs i2_gone : Int32} {pa_names : Nat → Int64} {rd_tape to_unsurePair to_unsureYears to_triedPair tf_seatOf tf_one tf_other tf_kind tf_years tf_sawn bd_unsurePair bd_unsureYears bd_triedPair bf_seatOf bf_one bf_other bf_kind bf_years bf_sawn nw_seatOf nw_one nw_other nw_kind nw_years nw_sawn sc_seatOf sc_handle sc_both sc_slopOf sl_bits se_bestRow se_row se_pairAt se_hope se_hopeAt se_slopAt se_farBits se_gain se_worth cl_bits fi_sets ps_act ps_whom ps_amount i0_seatOf i0_one i0_other i0_kind i0_years i0_sawn i1_seatOf i1_one i1_other i1_kind i1_years i1_sawn i2_seatOf i2_one i2_other i2_kind i2_years i2_sawn : Nat → Int32} {rd_word : Int64} {l1 : Int32} {l2 : Int32} {o : (Nat → Int32) × (Nat → Int32) × (Nat → Int32) × Int32} (C : xC p s m args meth c cX10_chooseMeet 4 RX10 E A none) (J : ∀ (H : Heap) (locs : List Loc) (ls : Array Slot), xG s E A (wX E ad x_imageCount x_lastTrouble x_lastFault x_lastPlace pa_names pa_faultNumber pa_faultPlace rd_tape rd_length rd_end rd_next rd_sort rd_start rd_value rd_word to_unsurePair to_unsureYears to_triedPair to_seats to_slack to_sawInches to_quarrelChance to_people to_forkBits to_unsure to_tried to_triedFedBits tf_seatOf tf_one tf_other tf_kind tf_years tf_sawn tf_pairs tf_gone bd_unsurePair bd_unsureYears bd_triedPair bd_seats bd_slack bd_sawInches bd_quarrelChance bd_people bd_forkBits bd_unsure bd_tried bd_triedFedBits bf_seatOf bf_one bf_other bf_kind bf_years bf_sawn bf_pairs bf_gone nw_seatOf nw_one nw_other nw_kind nw_years nw_sawn nw_pairs nw_gone sc_seatOf sc_handle sc_both sc_slopOf sc_forkBits sc_canBits sc_bestBits sc_bestSlops sl_bits sl_count se_bestRow se_row se_pairAt se_hope se_hopeAt se_slopAt se_farBits se_gain se_worth se_bestWorth se_fresh o.1 o.2.1 o.2.2.1 o.2.2.2 ch_leastCost ch_leastBits cl_bits cl_count fi_sets fi_count ps_act ps_whom ps_amount ps_next ps_count i0_seatOf i0_one i0_other i0_kind i0_years i0_sawn i0_pairs i0_gone i1_seatOf i1_one i1_other i1_kind i1_years i1_sawn i1_pairs i1_gone i2_seatOf i2_one i2_other i2_kind i2_years i2_sawn i2_pairs i2_gone) H locs → lv_has ls 4 [(0, .ref (ad 0)), (1, .int l1), (2, .int l2)] → W p l e (xR 4 92) s m args below meth c H locs 0 0 Q (F0 m 49 ls [])) :
    ∀ (n : Nat) (l3 : Int32) (ch_both : Nat → Int32) (ch_cost : Nat → Int32) (ch_bit : Nat → Int32) (ch_items : Int32) (H : Heap) (locs : List Loc) (ls : Array Slot), xG s E A (wX E ad x_imageCount x_lastTrouble x_lastFault x_lastPlace pa_names pa_faultNumber pa_faultPlace rd_tape rd_length rd_end rd_next rd_sort rd_start rd_value rd_word to_unsurePair to_unsureYears to_triedPair to_seats to_slack to_sawInches to_quarrelChance to_people to_forkBits to_unsure to_tried to_triedFedBits tf_seatOf tf_one tf_other tf_kind tf_years tf_sawn tf_pairs tf_gone bd_unsurePair bd_unsureYears bd_triedPair bd_seats bd_slack bd_sawInches bd_quarrelChance bd_people bd_forkBits bd_unsure bd_tried bd_triedFedBits bf_seatOf bf_one bf_other bf_kind bf_years bf_sawn bf_pairs bf_gone nw_seatOf nw_one nw_other nw_kind nw_years nw_sawn nw_pairs nw_gone sc_seatOf sc_handle sc_both sc_slopOf sc_forkBits sc_canBits sc_bestBits sc_bestSlops sl_bits sl_count se_bestRow se_row se_pairAt se_hope se_hopeAt se_slopAt se_farBits se_gain se_worth se_bestWorth se_fresh ch_both ch_cost ch_bit ch_items ch_leastCost ch_leastBits cl_bits cl_count fi_sets fi_count ps_act ps_whom ps_amount ps_next ps_count i0_seatOf i0_one i0_other i0_kind i0_years i0_sawn i0_pairs i0_gone i1_seatOf i1_one i1_other i1_kind i1_years i1_sawn i1_pairs i1_gone i2_seatOf i2_one i2_other i2_kind i2_years i2_sawn i2_pairs i2_gone) H locs → lv_has ls 4 [(0, .ref (ad 0)), (1, .int l1), (2, .int l2), (3, .int l3)] → f_X_chooseMeet_L25 l1 l2 bd_slack bd_people nw_seatOf nw_one nw_other nw_kind nw_years nw_sawn nw_pairs n l3 ch_both ch_cost ch_bit ch_items = some o → W p l e (xR 4 92) s m args below meth c H locs 0 0 Q (F0 m 25 ls []) := by
  have hx := C.1
  have hb := C.2.1
  intro n
  induction n with
  | zero =>
    intro l3 ch_both ch_cost ch_bit ch_items H locs ls G hl hf
    exact nomatch (show (none : Option ((Nat → Int32) × (Nat → Int32) × (Nat → Int32) × Int32)) = some o from hf)
  | succ n ih =>
    intro l3 ch_both ch_cost ch_bit ch_items H locs ls G hl hf
    rw [f_X_chooseMeet_L25] at hf
    refine lv_iload_n hx hb dX10_chooseMeet_25 rfl (lv_at hl 3 rfl) ?_
    refine lv_aload_n hx hb dX10_chooseMeet_26 rfl (lv_at hl 0 rfl) ?_
    refine x_get C G fX10_22 (wX_at0) rfl dX10_chooseMeet_27 ?_
    refine x_get C G fX10_132.g (wX_at17) rfl dX10_chooseMeet_30 ?_
    refine lv_icmp_ge (tgt := 49) hx hb dX10_chooseMeet_33 (by decide) (fun h => ?_) (fun h => ?_)
    · have hf := it_t h hf
      obtain rfl := Option.some.inj hf
      exact J _ _ _ G (lv_sub hl [0, 1, 2] rfl)
    · have hf := it_f h hf
      refine lv_aload_n hx hb dX10_chooseMeet_36 rfl (lv_at hl 0 rfl) ?_
      refine lv_iload_n hx hb dX10_chooseMeet_37 rfl (lv_at hl 2 rfl) ?_
      refine lv_iload_n hx hb dX10_chooseMeet_38 rfl (lv_at hl 3 rfl) ?_
      refine lv_iload_n hx hb dX10_chooseMeet_39 rfl (lv_at hl 1 rfl) ?_
      obtain ⟨x2, hc, hf⟩ := bd_go hf
      refine xV_V C G (c_X_addTwo_x hc) mX10_addTwo kX10_416 (wX_at0) rfl ⟨Nat.le_of_ble_eq_true rfl, Nat.le_of_ble_eq_true rfl⟩ rfl hl.1 rfl (Nat.le_of_ble_eq_true rfl) ⟨Nat.le_refl _, Nat.le_refl _⟩ dX10_chooseMeet_40 (fun H locs G => ?_)
      obtain ⟨x3, ex3⟩ : ∃ z : Int32, z = l3 + (1 : Int32) := ⟨_, rfl⟩
      have hf := lt_go ex3 hf
      refine lv_iinc (v := x3) (lv' := [(3, .int x3), (0, .ref (ad 0)), (1, .int l1), (2, .int l2)]) hx hb dX10_chooseMeet_43 hl (k := 3) rfl (by rw [ex3]; rfl) (by decide) rfl (fun ls hl => ?_)
      refine lv_goto (tgt := 25) hx hb dX10_chooseMeet_46 (by decide) ?_
      exact ih x3 x2.1 x2.2.1 x2.2.2.1 x2.2.2.2 _ _ _ G (lv_sub hl [1, 2, 3, 0] rfl) hf
set_option maxHeartbeats 4000000 in
set_option maxRecDepth 100000 in
theorem w_X_chooseMeet_x_L10 {p : Program} {l : Launch} {e : Env} {s : State} {m : MethodId} {args : Array Value} {below : List Frame} {meth : Method} {c : Code} {A : Nat → Prop} {E : xE} {Q : State → Prop} {ad : Nat → Nat} {x_imageCount x_lastTrouble x_lastFault x_lastPlace pa_faultNumber pa_faultPlace rd_length rd_end rd_next rd_sort rd_start rd_value to_seats to_slack to_sawInches to_quarrelChance to_people to_forkBits to_unsure to_tried to_triedFedBits tf_pairs tf_gone bd_seats bd_slack bd_sawInches bd_quarrelChance bd_people bd_forkBits bd_unsure bd_tried bd_triedFedBits bf_pairs bf_gone nw_pairs nw_gone sc_forkBits sc_canBits sc_bestBits sc_bestSlops sl_count se_bestWorth se_fresh ch_leastCost ch_leastBits cl_count fi_count ps_next ps_count i0_pairs i0_gone i1_pairs i1_gone i2_pairs i2_gone : Int32} {pa_names : Nat → Int64} {rd_tape to_unsurePair to_unsureYears to_triedPair tf_seatOf tf_one tf_other tf_kind tf_years tf_sawn bd_unsurePair bd_unsureYears bd_triedPair bf_seatOf bf_one bf_other bf_kind bf_years bf_sawn nw_seatOf nw_one nw_other nw_kind nw_years nw_sawn sc_seatOf sc_handle sc_both sc_slopOf sl_bits se_bestRow se_row se_pairAt se_hope se_hopeAt se_slopAt se_farBits se_gain se_worth cl_bits fi_sets ps_act ps_whom ps_amount i0_seatOf i0_one i0_other i0_kind i0_years i0_sawn i1_seatOf i1_one i1_other i1_kind i1_years i1_sawn i2_seatOf i2_one i2_other i2_kind i2_years i2_sawn : Nat → Int32} {rd_word : Int64} {l1 : Int32} {o : (Nat → Int32) × (Nat → Int32) × (Nat → Int32) × Int32} (C : xC p s m args meth c cX10_chooseMeet 4 RX10 E A none) (J : ∀ (H : Heap) (locs : List Loc) (ls : Array Slot), xG s E A (wX E ad x_imageCount x_lastTrouble x_lastFault x_lastPlace pa_names pa_faultNumber pa_faultPlace rd_tape rd_length rd_end rd_next rd_sort rd_start rd_value rd_word to_unsurePair to_unsureYears to_triedPair to_seats to_slack to_sawInches to_quarrelChance to_people to_forkBits to_unsure to_tried to_triedFedBits tf_seatOf tf_one tf_other tf_kind tf_years tf_sawn tf_pairs tf_gone bd_unsurePair bd_unsureYears bd_triedPair bd_seats bd_slack bd_sawInches bd_quarrelChance bd_people bd_forkBits bd_unsure bd_tried bd_triedFedBits bf_seatOf bf_one bf_other bf_kind bf_years bf_sawn bf_pairs bf_gone nw_seatOf nw_one nw_other nw_kind nw_years nw_sawn nw_pairs nw_gone sc_seatOf sc_handle sc_both sc_slopOf sc_forkBits sc_canBits sc_bestBits sc_bestSlops sl_bits sl_count se_bestRow se_row se_pairAt se_hope se_hopeAt se_slopAt se_farBits se_gain se_worth se_bestWorth se_fresh o.1 o.2.1 o.2.2.1 o.2.2.2 ch_leastCost ch_leastBits cl_bits cl_count fi_sets fi_count ps_act ps_whom ps_amount ps_next ps_count i0_seatOf i0_one i0_other i0_kind i0_years i0_sawn i0_pairs i0_gone i1_seatOf i1_one i1_other i1_kind i1_years i1_sawn i1_pairs i1_gone i2_seatOf i2_one i2_other i2_kind i2_years i2_sawn i2_pairs i2_gone) H locs → lv_has ls 4 [(0, .ref (ad 0))] → W p l e (xR 4 92) s m args below meth c H locs 0 0 Q (F0 m 55 ls [])) :
    ∀ (n : Nat) (l2 : Int32) (ch_both : Nat → Int32) (ch_cost : Nat → Int32) (ch_bit : Nat → Int32) (ch_items : Int32) (H : Heap) (locs : List Loc) (ls : Array Slot), xG s E A (wX E ad x_imageCount x_lastTrouble x_lastFault x_lastPlace pa_names pa_faultNumber pa_faultPlace rd_tape rd_length rd_end rd_next rd_sort rd_start rd_value rd_word to_unsurePair to_unsureYears to_triedPair to_seats to_slack to_sawInches to_quarrelChance to_people to_forkBits to_unsure to_tried to_triedFedBits tf_seatOf tf_one tf_other tf_kind tf_years tf_sawn tf_pairs tf_gone bd_unsurePair bd_unsureYears bd_triedPair bd_seats bd_slack bd_sawInches bd_quarrelChance bd_people bd_forkBits bd_unsure bd_tried bd_triedFedBits bf_seatOf bf_one bf_other bf_kind bf_years bf_sawn bf_pairs bf_gone nw_seatOf nw_one nw_other nw_kind nw_years nw_sawn nw_pairs nw_gone sc_seatOf sc_handle sc_both sc_slopOf sc_forkBits sc_canBits sc_bestBits sc_bestSlops sl_bits sl_count se_bestRow se_row se_pairAt se_hope se_hopeAt se_slopAt se_farBits se_gain se_worth se_bestWorth se_fresh ch_both ch_cost ch_bit ch_items ch_leastCost ch_leastBits cl_bits cl_count fi_sets fi_count ps_act ps_whom ps_amount ps_next ps_count i0_seatOf i0_one i0_other i0_kind i0_years i0_sawn i0_pairs i0_gone i1_seatOf i1_one i1_other i1_kind i1_years i1_sawn i1_pairs i1_gone i2_seatOf i2_one i2_other i2_kind i2_years i2_sawn i2_pairs i2_gone) H locs → lv_has ls 4 [(0, .ref (ad 0)), (1, .int l1), (2, .int l2)] → f_X_chooseMeet_L10 l1 bd_slack bd_people nw_seatOf nw_one nw_other nw_kind nw_years nw_sawn nw_pairs n l2 ch_both ch_cost ch_bit ch_items = some o → W p l e (xR 4 92) s m args below meth c H locs 0 0 Q (F0 m 10 ls []) := by
  have hx := C.1
  have hb := C.2.1
  intro n
  induction n with
  | zero =>
    intro l2 ch_both ch_cost ch_bit ch_items H locs ls G hl hf
    exact nomatch (show (none : Option ((Nat → Int32) × (Nat → Int32) × (Nat → Int32) × Int32)) = some o from hf)
  | succ n ih =>
    intro l2 ch_both ch_cost ch_bit ch_items H locs ls G hl hf
    rw [f_X_chooseMeet_L10] at hf
    refine lv_iload_n hx hb dX10_chooseMeet_10 rfl (lv_at hl 2 rfl) ?_
    refine lv_aload_n hx hb dX10_chooseMeet_11 rfl (lv_at hl 0 rfl) ?_
    refine x_get C G fX10_22 (wX_at0) rfl dX10_chooseMeet_12 ?_
    refine x_get C G fX10_132.g (wX_at17) rfl dX10_chooseMeet_15 ?_
    refine lv_icmp_ge (tgt := 55) hx hb dX10_chooseMeet_18 (by decide) (fun h => ?_) (fun h => ?_)
    · have hf := it_t h hf
      obtain rfl := Option.some.inj hf
      exact J _ _ _ G (lv_sub hl [0] rfl)
    · have hf := it_f h hf
      refine lv_iload_n hx hb dX10_chooseMeet_21 rfl (lv_at hl 2 rfl) ?_
      refine lv_iconst (v := 1) hx hb dX10_chooseMeet_22 (by decide) ?_
      refine lv_iadd hx hb dX10_chooseMeet_23 ?_
      refine lv_topi (fun x1 ex1 => ?_)
      have hf := lt_go ex1 hf
      refine lv_istore_n (lv' := [(3, .int x1), (0, .ref (ad 0)), (1, .int l1), (2, .int l2)]) hx hb dX10_chooseMeet_24 rfl hl (by decide) rfl (fun ls hl => ?_)
      obtain ⟨x4, hr, hf⟩ := bd_go hf
      have Jx4 : ∀ (H : Heap) (locs : List Loc) (ls : Array Slot), xG s E A (wX E ad x_imageCount x_lastTrouble x_lastFault x_lastPlace pa_names pa_faultNumber pa_faultPlace rd_tape rd_length rd_end rd_next rd_sort rd_start rd_value rd_word to_unsurePair to_unsureYears to_triedPair to_seats to_slack to_sawInches to_quarrelChance to_people to_forkBits to_unsure to_tried to_triedFedBits tf_seatOf tf_one tf_other tf_kind tf_years tf_sawn tf_pairs tf_gone bd_unsurePair bd_unsureYears bd_triedPair bd_seats bd_slack bd_sawInches bd_quarrelChance bd_people bd_forkBits bd_unsure bd_tried bd_triedFedBits bf_seatOf bf_one bf_other bf_kind bf_years bf_sawn bf_pairs bf_gone nw_seatOf nw_one nw_other nw_kind nw_years nw_sawn nw_pairs nw_gone sc_seatOf sc_handle sc_both sc_slopOf sc_forkBits sc_canBits sc_bestBits sc_bestSlops sl_bits sl_count se_bestRow se_row se_pairAt se_hope se_hopeAt se_slopAt se_farBits se_gain se_worth se_bestWorth se_fresh x4.1 x4.2.1 x4.2.2.1 x4.2.2.2 ch_leastCost ch_leastBits cl_bits cl_count fi_sets fi_count ps_act ps_whom ps_amount ps_next ps_count i0_seatOf i0_one i0_other i0_kind i0_years i0_sawn i0_pairs i0_gone i1_seatOf i1_one i1_other i1_kind i1_years i1_sawn i1_pairs i1_gone i2_seatOf i2_one i2_other i2_kind i2_years i2_sawn i2_pairs i2_gone) H locs → lv_has ls 4 [(0, .ref (ad 0)), (1, .int l1), (2, .int l2)] → W p l e (xR 4 92) s m args below meth c H locs 0 0 Q (F0 m 49 ls []) := by
        intro H locs ls G hl
        obtain ⟨x5, ex5⟩ : ∃ z : Int32, z = l2 + (1 : Int32) := ⟨_, rfl⟩
        have hf := lt_go ex5 hf
        refine lv_iinc (v := x5) (lv' := [(2, .int x5), (0, .ref (ad 0)), (1, .int l1)]) hx hb dX10_chooseMeet_49 hl (k := 2) rfl (by rw [ex5]; rfl) (by decide) rfl (fun ls hl => ?_)
        refine lv_goto (tgt := 10) hx hb dX10_chooseMeet_52 (by decide) ?_
        exact ih x5 x4.1 x4.2.1 x4.2.2.1 x4.2.2.2 _ _ _ G (lv_sub hl [1, 2, 0] rfl) hf
      exact w_X_chooseMeet_x_L25 C Jx4 fu _ _ _ _ _ _ _ _ G (lv_sub hl [1, 2, 3, 0] rfl) hr
set_option maxHeartbeats 4000000 in
set_option maxRecDepth 100000 in
theorem c_X_chooseMeet_x {l : Launch} {E : xE} {ad : Nat → Nat} {x_imageCount x_lastTrouble x_lastFault x_lastPlace pa_faultNumber pa_faultPlace rd_length rd_end rd_next rd_sort rd_start rd_value to_seats to_slack to_sawInches to_quarrelChance to_people to_forkBits to_unsure to_tried to_triedFedBits tf_pairs tf_gone bd_seats bd_slack bd_sawInches bd_quarrelChance bd_people bd_forkBits bd_unsure bd_tried bd_triedFedBits bf_pairs bf_gone nw_pairs nw_gone sc_forkBits sc_canBits sc_bestBits sc_bestSlops sl_count se_bestWorth se_fresh ch_items ch_leastCost ch_leastBits cl_count fi_count ps_next ps_count i0_pairs i0_gone i1_pairs i1_gone i2_pairs i2_gone : Int32} {pa_names : Nat → Int64} {rd_tape to_unsurePair to_unsureYears to_triedPair tf_seatOf tf_one tf_other tf_kind tf_years tf_sawn bd_unsurePair bd_unsureYears bd_triedPair bf_seatOf bf_one bf_other bf_kind bf_years bf_sawn nw_seatOf nw_one nw_other nw_kind nw_years nw_sawn sc_seatOf sc_handle sc_both sc_slopOf sl_bits se_bestRow se_row se_pairAt se_hope se_hopeAt se_slopAt se_farBits se_gain se_worth ch_both ch_cost ch_bit cl_bits fi_sets ps_act ps_whom ps_amount i0_seatOf i0_one i0_other i0_kind i0_years i0_sawn i1_seatOf i1_one i1_other i1_kind i1_years i1_sawn i2_seatOf i2_one i2_other i2_kind i2_years i2_sawn : Nat → Int32} {rd_word : Int64} {l1 : Int32} {R0 : (Nat → Int32) × (Nat → Int32) × (Nat → Int32) × Int32 × Int32 × Int32 × (Nat → Int32) × Int32} (hf : f_X_chooseMeet l1 bd_slack bd_people nw_seatOf nw_one nw_other nw_kind nw_years nw_sawn nw_pairs ch_both ch_cost ch_bit cl_bits = some R0) : xV l E yX10_chooseMeet cX10_chooseMeet 4 none 4 92 [.ref (ad 0), .int l1] (wX E ad x_imageCount x_lastTrouble x_lastFault x_lastPlace pa_names pa_faultNumber pa_faultPlace rd_tape rd_length rd_end rd_next rd_sort rd_start rd_value rd_word to_unsurePair to_unsureYears to_triedPair to_seats to_slack to_sawInches to_quarrelChance to_people to_forkBits to_unsure to_tried to_triedFedBits tf_seatOf tf_one tf_other tf_kind tf_years tf_sawn tf_pairs tf_gone bd_unsurePair bd_unsureYears bd_triedPair bd_seats bd_slack bd_sawInches bd_quarrelChance bd_people bd_forkBits bd_unsure bd_tried bd_triedFedBits bf_seatOf bf_one bf_other bf_kind bf_years bf_sawn bf_pairs bf_gone nw_seatOf nw_one nw_other nw_kind nw_years nw_sawn nw_pairs nw_gone sc_seatOf sc_handle sc_both sc_slopOf sc_forkBits sc_canBits sc_bestBits sc_bestSlops sl_bits sl_count se_bestRow se_row se_pairAt se_hope se_hopeAt se_slopAt se_farBits se_gain se_worth se_bestWorth se_fresh ch_both ch_cost ch_bit ch_items ch_leastCost ch_leastBits cl_bits cl_count fi_sets fi_count ps_act ps_whom ps_amount ps_next ps_count i0_seatOf i0_one i0_other i0_kind i0_years i0_sawn i0_pairs i0_gone i1_seatOf i1_one i1_other i1_kind i1_years i1_sawn i1_pairs i1_gone i2_seatOf i2_one i2_other i2_kind i2_years i2_sawn i2_pairs i2_gone) (wX E ad x_imageCount x_lastTrouble x_lastFault x_lastPlace pa_names pa_faultNumber pa_faultPlace rd_tape rd_length rd_end rd_next rd_sort rd_start rd_value rd_word to_unsurePair to_unsureYears to_triedPair to_seats to_slack to_sawInches to_quarrelChance to_people to_forkBits to_unsure to_tried to_triedFedBits tf_seatOf tf_one tf_other tf_kind tf_years tf_sawn tf_pairs tf_gone bd_unsurePair bd_unsureYears bd_triedPair bd_seats bd_slack bd_sawInches bd_quarrelChance bd_people bd_forkBits bd_unsure bd_tried bd_triedFedBits bf_seatOf bf_one bf_other bf_kind bf_years bf_sawn bf_pairs bf_gone nw_seatOf nw_one nw_other nw_kind nw_years nw_sawn nw_pairs nw_gone sc_seatOf sc_handle sc_both sc_slopOf sc_forkBits sc_canBits sc_bestBits sc_bestSlops sl_bits sl_count se_bestRow se_row se_pairAt se_hope se_hopeAt se_slopAt se_farBits se_gain se_worth se_bestWorth se_fresh R0.1 R0.2.1 R0.2.2.1 R0.2.2.2.1 R0.2.2.2.2.1 R0.2.2.2.2.2.1 R0.2.2.2.2.2.2.1 R0.2.2.2.2.2.2.2 fi_sets fi_count ps_act ps_whom ps_amount ps_next ps_count i0_seatOf i0_one i0_other i0_kind i0_years i0_sawn i0_pairs i0_gone i1_seatOf i1_one i1_other i1_kind i1_years i1_sawn i1_pairs i1_gone i2_seatOf i2_one i2_other i2_kind i2_years i2_sawn i2_pairs i2_gone) := by
  refine xV_of (by decide) (Nat.le_of_ble_eq_true rfl) (fun p e s m args below meth c A C ls hl G => ?_)
  have hx := C.1
  have hb := C.2.1
  have hl : lv_has ls 4 [(0, .ref (ad 0)), (1, .int l1)] := hl
  unfold f_X_chooseMeet at hf
  refine lv_aload_n hx hb dX10_chooseMeet_0 rfl (lv_at hl 0 rfl) ?_
  refine x_get C G fX10_49 (wX_at0) rfl dX10_chooseMeet_1 ?_
  refine lv_iconst (v := 0) hx hb dX10_chooseMeet_4 (by decide) ?_
  refine x_put (ws' := (wX E ad x_imageCount x_lastTrouble x_lastFault x_lastPlace pa_names pa_faultNumber pa_faultPlace rd_tape rd_length rd_end rd_next rd_sort rd_start rd_value rd_word to_unsurePair to_unsureYears to_triedPair to_seats to_slack to_sawInches to_quarrelChance to_people to_forkBits to_unsure to_tried to_triedFedBits tf_seatOf tf_one tf_other tf_kind tf_years tf_sawn tf_pairs tf_gone bd_unsurePair bd_unsureYears bd_triedPair bd_seats bd_slack bd_sawInches bd_quarrelChance bd_people bd_forkBits bd_unsure bd_tried bd_triedFedBits bf_seatOf bf_one bf_other bf_kind bf_years bf_sawn bf_pairs bf_gone nw_seatOf nw_one nw_other nw_kind nw_years nw_sawn nw_pairs nw_gone sc_seatOf sc_handle sc_both sc_slopOf sc_forkBits sc_canBits sc_bestBits sc_bestSlops sl_bits sl_count se_bestRow se_row se_pairAt se_hope se_hopeAt se_slopAt se_farBits se_gain se_worth se_bestWorth se_fresh ch_both ch_cost ch_bit (0 : Int32) ch_leastCost ch_leastBits cl_bits cl_count fi_sets fi_count ps_act ps_whom ps_amount ps_next ps_count i0_seatOf i0_one i0_other i0_kind i0_years i0_sawn i0_pairs i0_gone i1_seatOf i1_one i1_other i1_kind i1_years i1_sawn i1_pairs i1_gone i2_seatOf i2_one i2_other i2_kind i2_years i2_sawn i2_pairs i2_gone)) C G fX10_401 (wX_at52) rfl rfl (Nat.le_of_ble_eq_true rfl) wX_set_ch_items dX10_chooseMeet_5 (fun H locs G => ?_)
  refine lv_iconst (v := 0) hx hb dX10_chooseMeet_8 (by decide) ?_
  refine lv_istore_n (lv' := [(2, .int (0 : Int32)), (0, .ref (ad 0)), (1, .int l1)]) hx hb dX10_chooseMeet_9 rfl hl (by decide) rfl (fun ls hl => ?_)
  obtain ⟨x6, hr, hf⟩ := bd_go hf
  have Jx6 : ∀ (H : Heap) (locs : List Loc) (ls : Array Slot), xG s E A (wX E ad x_imageCount x_lastTrouble x_lastFault x_lastPlace pa_names pa_faultNumber pa_faultPlace rd_tape rd_length rd_end rd_next rd_sort rd_start rd_value rd_word to_unsurePair to_unsureYears to_triedPair to_seats to_slack to_sawInches to_quarrelChance to_people to_forkBits to_unsure to_tried to_triedFedBits tf_seatOf tf_one tf_other tf_kind tf_years tf_sawn tf_pairs tf_gone bd_unsurePair bd_unsureYears bd_triedPair bd_seats bd_slack bd_sawInches bd_quarrelChance bd_people bd_forkBits bd_unsure bd_tried bd_triedFedBits bf_seatOf bf_one bf_other bf_kind bf_years bf_sawn bf_pairs bf_gone nw_seatOf nw_one nw_other nw_kind nw_years nw_sawn nw_pairs nw_gone sc_seatOf sc_handle sc_both sc_slopOf sc_forkBits sc_canBits sc_bestBits sc_bestSlops sl_bits sl_count se_bestRow se_row se_pairAt se_hope se_hopeAt se_slopAt se_farBits se_gain se_worth se_bestWorth se_fresh x6.1 x6.2.1 x6.2.2.1 x6.2.2.2 ch_leastCost ch_leastBits cl_bits cl_count fi_sets fi_count ps_act ps_whom ps_amount ps_next ps_count i0_seatOf i0_one i0_other i0_kind i0_years i0_sawn i0_pairs i0_gone i1_seatOf i1_one i1_other i1_kind i1_years i1_sawn i1_pairs i1_gone i2_seatOf i2_one i2_other i2_kind i2_years i2_sawn i2_pairs i2_gone) H locs → lv_has ls 4 [(0, .ref (ad 0))] → W p l e (xR 4 92) s m args below meth c H locs 0 0 (MQ below (xqV E A (wX E ad x_imageCount x_lastTrouble x_lastFault x_lastPlace pa_names pa_faultNumber pa_faultPlace rd_tape rd_length rd_end rd_next rd_sort rd_start rd_value rd_word to_unsurePair to_unsureYears to_triedPair to_seats to_slack to_sawInches to_quarrelChance to_people to_forkBits to_unsure to_tried to_triedFedBits tf_seatOf tf_one tf_other tf_kind tf_years tf_sawn tf_pairs tf_gone bd_unsurePair bd_unsureYears bd_triedPair bd_seats bd_slack bd_sawInches bd_quarrelChance bd_people bd_forkBits bd_unsure bd_tried bd_triedFedBits bf_seatOf bf_one bf_other bf_kind bf_years bf_sawn bf_pairs bf_gone nw_seatOf nw_one nw_other nw_kind nw_years nw_sawn nw_pairs nw_gone sc_seatOf sc_handle sc_both sc_slopOf sc_forkBits sc_canBits sc_bestBits sc_bestSlops sl_bits sl_count se_bestRow se_row se_pairAt se_hope se_hopeAt se_slopAt se_farBits se_gain se_worth se_bestWorth se_fresh R0.1 R0.2.1 R0.2.2.1 R0.2.2.2.1 R0.2.2.2.2.1 R0.2.2.2.2.2.1 R0.2.2.2.2.2.2.1 R0.2.2.2.2.2.2.2 fi_sets fi_count ps_act ps_whom ps_amount ps_next ps_count i0_seatOf i0_one i0_other i0_kind i0_years i0_sawn i0_pairs i0_gone i1_seatOf i1_one i1_other i1_kind i1_years i1_sawn i1_pairs i1_gone i2_seatOf i2_one i2_other i2_kind i2_years i2_sawn i2_pairs i2_gone)) args s 0 0 A) (F0 m 55 ls []) := by
    intro H locs ls G hl
    refine lv_aload_n hx hb dX10_chooseMeet_55 rfl (lv_at hl 0 rfl) ?_
    refine x_get C G fX10_49 (wX_at0) rfl dX10_chooseMeet_56 ?_
    refine lv_aload_n hx hb dX10_chooseMeet_59 rfl (lv_at hl 0 rfl) ?_
    refine x_get C G fX10_22 (wX_at0) rfl dX10_chooseMeet_60 ?_
    refine x_get C G fX10_132.g (wX_at17) rfl dX10_chooseMeet_63 ?_
    refine lv_iconst (v := 2) hx hb dX10_chooseMeet_66 (by decide) ?_
    refine lv_idiv hx hb dX10_chooseMeet_67 (by decide) ?_
    obtain ⟨x7, hc, hf⟩ := bd_go hf
    refine xV_V C G (c_Choice_decide_ch hc) mX1_decide kX10_413 (wX_at52) rfl ⟨Nat.le_of_ble_eq_true rfl, Nat.le_of_ble_eq_true rfl⟩ rfl hl.1 rfl (Nat.le_of_ble_eq_true rfl) ⟨Nat.le_refl _, Nat.le_refl _⟩ dX10_chooseMeet_68 (fun H locs G => ?_)
    obtain rfl := Option.some.inj hf
    exact xV_ret C G dX10_chooseMeet_71
  exact w_X_chooseMeet_x_L10 C Jx6 fu _ _ _ _ _ _ _ _ G (lv_sub hl [1, 2, 0] rfl) hr
set_option maxHeartbeats 4000000 in
set_option maxRecDepth 100000 in
theorem c_X_meet_x {l : Launch} {E : xE} {ad : Nat → Nat} {x_imageCount x_lastTrouble x_lastFault x_lastPlace pa_faultNumber pa_faultPlace rd_length rd_end rd_next rd_sort rd_start rd_value to_seats to_slack to_sawInches to_quarrelChance to_people to_forkBits to_unsure to_tried to_triedFedBits tf_pairs tf_gone bd_seats bd_slack bd_sawInches bd_quarrelChance bd_people bd_forkBits bd_unsure bd_tried bd_triedFedBits bf_pairs bf_gone nw_pairs nw_gone sc_forkBits sc_canBits sc_bestBits sc_bestSlops sl_count se_bestWorth se_fresh ch_items ch_leastCost ch_leastBits cl_count fi_count ps_next ps_count i0_pairs i0_gone i1_pairs i1_gone i2_pairs i2_gone : Int32} {pa_names : Nat → Int64} {rd_tape to_unsurePair to_unsureYears to_triedPair tf_seatOf tf_one tf_other tf_kind tf_years tf_sawn bd_unsurePair bd_unsureYears bd_triedPair bf_seatOf bf_one bf_other bf_kind bf_years bf_sawn nw_seatOf nw_one nw_other nw_kind nw_years nw_sawn sc_seatOf sc_handle sc_both sc_slopOf sl_bits se_bestRow se_row se_pairAt se_hope se_hopeAt se_slopAt se_farBits se_gain se_worth ch_both ch_cost ch_bit cl_bits fi_sets ps_act ps_whom ps_amount i0_seatOf i0_one i0_other i0_kind i0_years i0_sawn i1_seatOf i1_one i1_other i1_kind i1_years i1_sawn i2_seatOf i2_one i2_other i2_kind i2_years i2_sawn : Nat → Int32} {rd_word : Int64} {l1 : Int32} {R0 : Int32 × Int32 × (Nat → Int32) × (Nat → Int32) × (Nat → Int32) × Int32 × Int32 × Int32 × (Nat → Int32) × Int32} (hf : f_X_meet l1 bd_slack bd_people nw_seatOf nw_one nw_other nw_kind nw_years nw_sawn nw_pairs ch_both ch_cost ch_bit ch_items ch_leastCost ch_leastBits cl_bits cl_count = some R0) : xI l E yX10_meet cX10_meet 2 (some .int) 5 115 [.ref (ad 0), .int l1] (wX E ad x_imageCount x_lastTrouble x_lastFault x_lastPlace pa_names pa_faultNumber pa_faultPlace rd_tape rd_length rd_end rd_next rd_sort rd_start rd_value rd_word to_unsurePair to_unsureYears to_triedPair to_seats to_slack to_sawInches to_quarrelChance to_people to_forkBits to_unsure to_tried to_triedFedBits tf_seatOf tf_one tf_other tf_kind tf_years tf_sawn tf_pairs tf_gone bd_unsurePair bd_unsureYears bd_triedPair bd_seats bd_slack bd_sawInches bd_quarrelChance bd_people bd_forkBits bd_unsure bd_tried bd_triedFedBits bf_seatOf bf_one bf_other bf_kind bf_years bf_sawn bf_pairs bf_gone nw_seatOf nw_one nw_other nw_kind nw_years nw_sawn nw_pairs nw_gone sc_seatOf sc_handle sc_both sc_slopOf sc_forkBits sc_canBits sc_bestBits sc_bestSlops sl_bits sl_count se_bestRow se_row se_pairAt se_hope se_hopeAt se_slopAt se_farBits se_gain se_worth se_bestWorth se_fresh ch_both ch_cost ch_bit ch_items ch_leastCost ch_leastBits cl_bits cl_count fi_sets fi_count ps_act ps_whom ps_amount ps_next ps_count i0_seatOf i0_one i0_other i0_kind i0_years i0_sawn i0_pairs i0_gone i1_seatOf i1_one i1_other i1_kind i1_years i1_sawn i1_pairs i1_gone i2_seatOf i2_one i2_other i2_kind i2_years i2_sawn i2_pairs i2_gone) (wX E ad x_imageCount R0.2.1 x_lastFault x_lastPlace pa_names pa_faultNumber pa_faultPlace rd_tape rd_length rd_end rd_next rd_sort rd_start rd_value rd_word to_unsurePair to_unsureYears to_triedPair to_seats to_slack to_sawInches to_quarrelChance to_people to_forkBits to_unsure to_tried to_triedFedBits tf_seatOf tf_one tf_other tf_kind tf_years tf_sawn tf_pairs tf_gone bd_unsurePair bd_unsureYears bd_triedPair bd_seats bd_slack bd_sawInches bd_quarrelChance bd_people bd_forkBits bd_unsure bd_tried bd_triedFedBits bf_seatOf bf_one bf_other bf_kind bf_years bf_sawn bf_pairs bf_gone nw_seatOf nw_one nw_other nw_kind nw_years nw_sawn nw_pairs nw_gone sc_seatOf sc_handle sc_both sc_slopOf sc_forkBits sc_canBits sc_bestBits sc_bestSlops sl_bits sl_count se_bestRow se_row se_pairAt se_hope se_hopeAt se_slopAt se_farBits se_gain se_worth se_bestWorth se_fresh R0.2.2.1 R0.2.2.2.1 R0.2.2.2.2.1 R0.2.2.2.2.2.1 R0.2.2.2.2.2.2.1 R0.2.2.2.2.2.2.2.1 R0.2.2.2.2.2.2.2.2.1 R0.2.2.2.2.2.2.2.2.2 fi_sets fi_count ps_act ps_whom ps_amount ps_next ps_count i0_seatOf i0_one i0_other i0_kind i0_years i0_sawn i0_pairs i0_gone i1_seatOf i1_one i1_other i1_kind i1_years i1_sawn i1_pairs i1_gone i2_seatOf i2_one i2_other i2_kind i2_years i2_sawn i2_pairs i2_gone) R0.1 := by
  refine xI_of (by decide) (Nat.le_of_ble_eq_true rfl) (fun p e s m args below meth c A C ls hl G => ?_)
  have hx := C.1
  have hb := C.2.1
  have hl : lv_has ls 2 [(0, .ref (ad 0)), (1, .int l1)] := hl
  unfold f_X_meet at hf
  refine lv_aload_n hx hb dX10_meet_0 rfl (lv_at hl 0 rfl) ?_
  obtain ⟨x1, hc, hf⟩ := bd_go hf
  refine xI_V C G (c_X_noTable_x hc) mX10_noTable kX10_187 (wX_at0) rfl ⟨Nat.le_of_ble_eq_true rfl, Nat.le_of_ble_eq_true rfl⟩ rfl hl.1 rfl (Nat.le_of_ble_eq_true rfl) ⟨Nat.le_refl _, Nat.le_refl _⟩ dX10_meet_1 (fun hz1 H locs G => ?_)
  refine lv_if_eq (tgt := 9) hx hb dX10_meet_4 (by decide) (fun h => ?_) (fun h => ?_)
  · have hf := it_t h hf
    refine lv_iload_n hx hb dX10_meet_9 rfl (lv_at hl 1 rfl) ?_
    refine lv_bipush (v := 60) hx hb dX10_meet_10 (by decide) ?_
    obtain ⟨x2, hc, hf⟩ := bd_go hf
    refine xI_S C G (c_X_within_any hc) mX10_within kX10_216 ⟨Nat.le_of_ble_eq_true rfl, Nat.le_of_ble_eq_true rfl⟩ rfl hl.1 rfl (Nat.le_of_ble_eq_true rfl) ⟨Nat.le_refl _, Nat.le_refl _⟩ dX10_meet_12 (fun hz2 H locs G => ?_)
    refine lv_if_ne (tgt := 24) hx hb dX10_meet_15 (by decide) (fun h => ?_) (fun h => ?_)
    · have hf := it_f h hf
      refine lv_aload_n hx hb dX10_meet_24 rfl (lv_at hl 0 rfl) ?_
      refine lv_iload_n hx hb dX10_meet_25 rfl (lv_at hl 1 rfl) ?_
      obtain ⟨x3, hc, hf⟩ := bd_go hf
      refine xV_V C G (c_X_chooseMeet_x hc) mX10_chooseMeet kX10_273 (wX_at0) rfl ⟨Nat.le_of_ble_eq_true rfl, Nat.le_of_ble_eq_true rfl⟩ rfl hl.1 rfl (Nat.le_of_ble_eq_true rfl) ⟨Nat.le_refl _, Nat.le_refl _⟩ dX10_meet_26 (fun H locs G => ?_)
      refine lv_aload_n hx hb dX10_meet_29 rfl (lv_at hl 0 rfl) ?_
      refine x_get C G fX10_49 (wX_at0) rfl dX10_meet_30 ?_
      refine x_get C G fX10_264.g (wX_at52) rfl dX10_meet_33 ?_
      obtain rfl := Option.some.inj hf
      exact xI_ret C G rfl dX10_meet_36
    · have hf := it_t h hf
      refine lv_aload_n hx hb dX10_meet_18 rfl (lv_at hl 0 rfl) ?_
      refine lv_iconst (v := 2) hx hb dX10_meet_19 (by decide) ?_
      obtain ⟨x4, hc, hf⟩ := bd_go hf
      refine xI_V C G (c_X_refused_x hc) mX10_refused kX10_87 (wX_at0) rfl ⟨Nat.le_of_ble_eq_true rfl, Nat.le_of_ble_eq_true rfl⟩ rfl hl.1 rfl (Nat.le_of_ble_eq_true rfl) ⟨Nat.le_refl _, Nat.le_refl _⟩ dX10_meet_20 (fun hz H locs G => ?_)
      obtain rfl := Option.some.inj hf
      exact xI_ret C G rfl dX10_meet_23
  · have hf := it_f h hf
    refine lv_iconst (v := -1) hx hb dX10_meet_7 (by decide) ?_
    obtain rfl := Option.some.inj hf
    exact xI_ret C G rfl dX10_meet_8
set_option maxHeartbeats 4000000 in
set_option maxRecDepth 100000 in
theorem c_X_meetAt_x {l : Launch} {E : xE} {ad : Nat → Nat} {x_imageCount x_lastTrouble x_lastFault x_lastPlace pa_faultNumber pa_faultPlace rd_length rd_end rd_next rd_sort rd_start rd_value to_seats to_slack to_sawInches to_quarrelChance to_people to_forkBits to_unsure to_tried to_triedFedBits tf_pairs tf_gone bd_seats bd_slack bd_sawInches bd_quarrelChance bd_people bd_forkBits bd_unsure bd_tried bd_triedFedBits bf_pairs bf_gone nw_pairs nw_gone sc_forkBits sc_canBits sc_bestBits sc_bestSlops sl_count se_bestWorth se_fresh ch_items ch_leastCost ch_leastBits cl_count fi_count ps_next ps_count i0_pairs i0_gone i1_pairs i1_gone i2_pairs i2_gone : Int32} {pa_names : Nat → Int64} {rd_tape to_unsurePair to_unsureYears to_triedPair tf_seatOf tf_one tf_other tf_kind tf_years tf_sawn bd_unsurePair bd_unsureYears bd_triedPair bf_seatOf bf_one bf_other bf_kind bf_years bf_sawn nw_seatOf nw_one nw_other nw_kind nw_years nw_sawn sc_seatOf sc_handle sc_both sc_slopOf sl_bits se_bestRow se_row se_pairAt se_hope se_hopeAt se_slopAt se_farBits se_gain se_worth ch_both ch_cost ch_bit cl_bits fi_sets ps_act ps_whom ps_amount i0_seatOf i0_one i0_other i0_kind i0_years i0_sawn i1_seatOf i1_one i1_other i1_kind i1_years i1_sawn i2_seatOf i2_one i2_other i2_kind i2_years i2_sawn : Nat → Int32} {rd_word : Int64} {l1 : Int32} {R0 : Int32 × Int32 × (Nat → Int32) × (Nat → Int32) × (Nat → Int32) × Int32 × Int32 × Int32 × (Nat → Int32) × Int32} (hf : f_X_meetAt l1 bd_slack bd_people nw_seatOf nw_one nw_other nw_kind nw_years nw_sawn nw_pairs ch_both ch_cost ch_bit ch_items ch_leastCost ch_leastBits cl_bits cl_count = some R0) : xI l E yX10_meetAt cX10_meetAt 2 (some .int) 5 115 [.ref (ad 0), .int l1] (wX E ad x_imageCount x_lastTrouble x_lastFault x_lastPlace pa_names pa_faultNumber pa_faultPlace rd_tape rd_length rd_end rd_next rd_sort rd_start rd_value rd_word to_unsurePair to_unsureYears to_triedPair to_seats to_slack to_sawInches to_quarrelChance to_people to_forkBits to_unsure to_tried to_triedFedBits tf_seatOf tf_one tf_other tf_kind tf_years tf_sawn tf_pairs tf_gone bd_unsurePair bd_unsureYears bd_triedPair bd_seats bd_slack bd_sawInches bd_quarrelChance bd_people bd_forkBits bd_unsure bd_tried bd_triedFedBits bf_seatOf bf_one bf_other bf_kind bf_years bf_sawn bf_pairs bf_gone nw_seatOf nw_one nw_other nw_kind nw_years nw_sawn nw_pairs nw_gone sc_seatOf sc_handle sc_both sc_slopOf sc_forkBits sc_canBits sc_bestBits sc_bestSlops sl_bits sl_count se_bestRow se_row se_pairAt se_hope se_hopeAt se_slopAt se_farBits se_gain se_worth se_bestWorth se_fresh ch_both ch_cost ch_bit ch_items ch_leastCost ch_leastBits cl_bits cl_count fi_sets fi_count ps_act ps_whom ps_amount ps_next ps_count i0_seatOf i0_one i0_other i0_kind i0_years i0_sawn i0_pairs i0_gone i1_seatOf i1_one i1_other i1_kind i1_years i1_sawn i1_pairs i1_gone i2_seatOf i2_one i2_other i2_kind i2_years i2_sawn i2_pairs i2_gone) (wX E ad x_imageCount R0.2.1 x_lastFault x_lastPlace pa_names pa_faultNumber pa_faultPlace rd_tape rd_length rd_end rd_next rd_sort rd_start rd_value rd_word to_unsurePair to_unsureYears to_triedPair to_seats to_slack to_sawInches to_quarrelChance to_people to_forkBits to_unsure to_tried to_triedFedBits tf_seatOf tf_one tf_other tf_kind tf_years tf_sawn tf_pairs tf_gone bd_unsurePair bd_unsureYears bd_triedPair bd_seats bd_slack bd_sawInches bd_quarrelChance bd_people bd_forkBits bd_unsure bd_tried bd_triedFedBits bf_seatOf bf_one bf_other bf_kind bf_years bf_sawn bf_pairs bf_gone nw_seatOf nw_one nw_other nw_kind nw_years nw_sawn nw_pairs nw_gone sc_seatOf sc_handle sc_both sc_slopOf sc_forkBits sc_canBits sc_bestBits sc_bestSlops sl_bits sl_count se_bestRow se_row se_pairAt se_hope se_hopeAt se_slopAt se_farBits se_gain se_worth se_bestWorth se_fresh R0.2.2.1 R0.2.2.2.1 R0.2.2.2.2.1 R0.2.2.2.2.2.1 R0.2.2.2.2.2.2.1 R0.2.2.2.2.2.2.2.1 R0.2.2.2.2.2.2.2.2.1 R0.2.2.2.2.2.2.2.2.2 fi_sets fi_count ps_act ps_whom ps_amount ps_next ps_count i0_seatOf i0_one i0_other i0_kind i0_years i0_sawn i0_pairs i0_gone i1_seatOf i1_one i1_other i1_kind i1_years i1_sawn i1_pairs i1_gone i2_seatOf i2_one i2_other i2_kind i2_years i2_sawn i2_pairs i2_gone) R0.1 := by
  refine xI_of (by decide) (Nat.le_of_ble_eq_true rfl) (fun p e s m args below meth c A C ls hl G => ?_)
  have hx := C.1
  have hb := C.2.1
  have hl : lv_has ls 2 [(0, .ref (ad 0)), (1, .int l1)] := hl
  unfold f_X_meetAt at hf
  refine lv_aload_n hx hb dX10_meetAt_0 rfl (lv_at hl 0 rfl) ?_
  obtain ⟨x1, hc, hf⟩ := bd_go hf
  refine xI_V C G (c_X_noTable_x hc) mX10_noTable kX10_187 (wX_at0) rfl ⟨Nat.le_of_ble_eq_true rfl, Nat.le_of_ble_eq_true rfl⟩ rfl hl.1 rfl (Nat.le_of_ble_eq_true rfl) ⟨Nat.le_refl _, Nat.le_refl _⟩ dX10_meetAt_1 (fun hz1 H locs G => ?_)
  refine lv_if_eq (tgt := 9) hx hb dX10_meetAt_4 (by decide) (fun h => ?_) (fun h => ?_)
  · have hf := it_t h hf
    refine lv_iload_n hx hb dX10_meetAt_9 rfl (lv_at hl 1 rfl) ?_
    refine lv_bipush (v := 60) hx hb dX10_meetAt_10 (by decide) ?_
    obtain ⟨x2, hc, hf⟩ := bd_go hf
    refine xI_S C G (c_X_within_any hc) mX10_within kX10_216 ⟨Nat.le_of_ble_eq_true rfl, Nat.le_of_ble_eq_true rfl⟩ rfl hl.1 rfl (Nat.le_of_ble_eq_true rfl) ⟨Nat.le_refl _, Nat.le_refl _⟩ dX10_meetAt_12 (fun hz2 H locs G => ?_)
    refine lv_if_ne (tgt := 24) hx hb dX10_meetAt_15 (by decide) (fun h => ?_) (fun h => ?_)
    · have hf := it_f h hf
      refine lv_aload_n hx hb dX10_meetAt_24 rfl (lv_at hl 0 rfl) ?_
      refine lv_iload_n hx hb dX10_meetAt_25 rfl (lv_at hl 1 rfl) ?_
      obtain ⟨x3, hc, hf⟩ := bd_go hf
      refine xV_V C G (c_X_chooseMeet_x hc) mX10_chooseMeet kX10_273 (wX_at0) rfl ⟨Nat.le_of_ble_eq_true rfl, Nat.le_of_ble_eq_true rfl⟩ rfl hl.1 rfl (Nat.le_of_ble_eq_true rfl) ⟨Nat.le_refl _, Nat.le_refl _⟩ dX10_meetAt_26 (fun H locs G => ?_)
      refine lv_aload_n hx hb dX10_meetAt_29 rfl (lv_at hl 0 rfl) ?_
      refine x_get C G fX10_49 (wX_at0) rfl dX10_meetAt_30 ?_
      refine x_get C G fX10_264.g (wX_at52) rfl dX10_meetAt_33 ?_
      refine lv_if_ge (tgt := 44) hx hb dX10_meetAt_36 (by decide) (fun h => ?_) (fun h => ?_)
      · have hf := it_t h hf
        refine lv_aload_n hx hb dX10_meetAt_44 rfl (lv_at hl 0 rfl) ?_
        refine x_get C G fX10_49 (wX_at0) rfl dX10_meetAt_45 ?_
        refine x_get C G fX10_267.g (wX_at52) rfl dX10_meetAt_48 ?_
        obtain rfl := Option.some.inj hf
        exact xI_ret C G rfl dX10_meetAt_51
      · have hf := it_f h hf
        refine lv_bipush (v := -2) hx hb dX10_meetAt_39 (by decide) ?_
        refine lv_goto (tgt := 51) hx hb dX10_meetAt_41 (by decide) ?_
        obtain rfl := Option.some.inj hf
        exact xI_ret C G rfl dX10_meetAt_51
    · have hf := it_t h hf
      refine lv_aload_n hx hb dX10_meetAt_18 rfl (lv_at hl 0 rfl) ?_
      refine lv_iconst (v := 2) hx hb dX10_meetAt_19 (by decide) ?_
      obtain ⟨x4, hc, hf⟩ := bd_go hf
      refine xI_V C G (c_X_refused_x hc) mX10_refused kX10_87 (wX_at0) rfl ⟨Nat.le_of_ble_eq_true rfl, Nat.le_of_ble_eq_true rfl⟩ rfl hl.1 rfl (Nat.le_of_ble_eq_true rfl) ⟨Nat.le_refl _, Nat.le_refl _⟩ dX10_meetAt_20 (fun hz H locs G => ?_)
      obtain rfl := Option.some.inj hf
      exact xI_ret C G rfl dX10_meetAt_23
  · have hf := it_f h hf
    refine lv_iconst (v := -1) hx hb dX10_meetAt_7 (by decide) ?_
    obtain rfl := Option.some.inj hf
    exact xI_ret C G rfl dX10_meetAt_8
set_option maxHeartbeats 4000000 in
set_option maxRecDepth 100000 in
theorem c_Scene_wouldRather_sc {l : Launch} {E : xE} {ad : Nat → Nat} {x_imageCount x_lastTrouble x_lastFault x_lastPlace pa_faultNumber pa_faultPlace rd_length rd_end rd_next rd_sort rd_start rd_value to_seats to_slack to_sawInches to_quarrelChance to_people to_forkBits to_unsure to_tried to_triedFedBits tf_pairs tf_gone bd_seats bd_slack bd_sawInches bd_quarrelChance bd_people bd_forkBits bd_unsure bd_tried bd_triedFedBits bf_pairs bf_gone nw_pairs nw_gone sc_forkBits sc_canBits sc_bestBits sc_bestSlops sl_count se_bestWorth se_fresh ch_items ch_leastCost ch_leastBits cl_count fi_count ps_next ps_count i0_pairs i0_gone i1_pairs i1_gone i2_pairs i2_gone : Int32} {pa_names : Nat → Int64} {rd_tape to_unsurePair to_unsureYears to_triedPair tf_seatOf tf_one tf_other tf_kind tf_years tf_sawn bd_unsurePair bd_unsureYears bd_triedPair bf_seatOf bf_one bf_other bf_kind bf_years bf_sawn nw_seatOf nw_one nw_other nw_kind nw_years nw_sawn sc_seatOf sc_handle sc_both sc_slopOf sl_bits se_bestRow se_row se_pairAt se_hope se_hopeAt se_slopAt se_farBits se_gain se_worth ch_both ch_cost ch_bit cl_bits fi_sets ps_act ps_whom ps_amount i0_seatOf i0_one i0_other i0_kind i0_years i0_sawn i1_seatOf i1_one i1_other i1_kind i1_years i1_sawn i2_seatOf i2_one i2_other i2_kind i2_years i2_sawn : Nat → Int32} {rd_word : Int64} {l1 : Int32} {l2 : Int32} {l3 : Int32} {R0 : Int32} (hf : f_Scene_wouldRather l1 l2 l3 nw_one nw_other nw_pairs sc_handle = some R0) : xI l E yX8_wouldRather cX8_wouldRather 5 (some .boolean) 2 45 [.ref (ad 35), .int l1, .int l2, .int l3] (wX E ad x_imageCount x_lastTrouble x_lastFault x_lastPlace pa_names pa_faultNumber pa_faultPlace rd_tape rd_length rd_end rd_next rd_sort rd_start rd_value rd_word to_unsurePair to_unsureYears to_triedPair to_seats to_slack to_sawInches to_quarrelChance to_people to_forkBits to_unsure to_tried to_triedFedBits tf_seatOf tf_one tf_other tf_kind tf_years tf_sawn tf_pairs tf_gone bd_unsurePair bd_unsureYears bd_triedPair bd_seats bd_slack bd_sawInches bd_quarrelChance bd_people bd_forkBits bd_unsure bd_tried bd_triedFedBits bf_seatOf bf_one bf_other bf_kind bf_years bf_sawn bf_pairs bf_gone nw_seatOf nw_one nw_other nw_kind nw_years nw_sawn nw_pairs nw_gone sc_seatOf sc_handle sc_both sc_slopOf sc_forkBits sc_canBits sc_bestBits sc_bestSlops sl_bits sl_count se_bestRow se_row se_pairAt se_hope se_hopeAt se_slopAt se_farBits se_gain se_worth se_bestWorth se_fresh ch_both ch_cost ch_bit ch_items ch_leastCost ch_leastBits cl_bits cl_count fi_sets fi_count ps_act ps_whom ps_amount ps_next ps_count i0_seatOf i0_one i0_other i0_kind i0_years i0_sawn i0_pairs i0_gone i1_seatOf i1_one i1_other i1_kind i1_years i1_sawn i1_pairs i1_gone i2_seatOf i2_one i2_other i2_kind i2_years i2_sawn i2_pairs i2_gone) (wX E ad x_imageCount x_lastTrouble x_lastFault x_lastPlace pa_names pa_faultNumber pa_faultPlace rd_tape rd_length rd_end rd_next rd_sort rd_start rd_value rd_word to_unsurePair to_unsureYears to_triedPair to_seats to_slack to_sawInches to_quarrelChance to_people to_forkBits to_unsure to_tried to_triedFedBits tf_seatOf tf_one tf_other tf_kind tf_years tf_sawn tf_pairs tf_gone bd_unsurePair bd_unsureYears bd_triedPair bd_seats bd_slack bd_sawInches bd_quarrelChance bd_people bd_forkBits bd_unsure bd_tried bd_triedFedBits bf_seatOf bf_one bf_other bf_kind bf_years bf_sawn bf_pairs bf_gone nw_seatOf nw_one nw_other nw_kind nw_years nw_sawn nw_pairs nw_gone sc_seatOf sc_handle sc_both sc_slopOf sc_forkBits sc_canBits sc_bestBits sc_bestSlops sl_bits sl_count se_bestRow se_row se_pairAt se_hope se_hopeAt se_slopAt se_farBits se_gain se_worth se_bestWorth se_fresh ch_both ch_cost ch_bit ch_items ch_leastCost ch_leastBits cl_bits cl_count fi_sets fi_count ps_act ps_whom ps_amount ps_next ps_count i0_seatOf i0_one i0_other i0_kind i0_years i0_sawn i0_pairs i0_gone i1_seatOf i1_one i1_other i1_kind i1_years i1_sawn i1_pairs i1_gone i2_seatOf i2_one i2_other i2_kind i2_years i2_sawn i2_pairs i2_gone) R0 := by
  refine xI_of (by decide) (Nat.le_of_ble_eq_true rfl) (fun p e s m args below meth c A C ls hl G => ?_)
  have hx := C.1
  have hb := C.2.1
  have hl : lv_has ls 5 [(0, .ref (ad 35)), (1, .int l1), (2, .int l2), (3, .int l3)] := hl
  unfold f_Scene_wouldRather at hf
  refine lv_aload_n hx hb dX8_wouldRather_0 rfl (lv_at hl 0 rfl) ?_
  refine lv_iload_n hx hb dX8_wouldRather_1 rfl (lv_at hl 1 rfl) ?_
  refine lv_iload_n hx hb dX8_wouldRather_2 rfl (lv_at hl 3 rfl) ?_
  obtain ⟨x1, hc, hf⟩ := bd_go hf
  refine xI_V C G (c_Scene_held_sc hc) mX8_held kX8_137 (wX_at35) rfl ⟨Nat.le_of_ble_eq_true rfl, Nat.le_of_ble_eq_true rfl⟩ rfl hl.1 rfl (Nat.le_of_ble_eq_true rfl) ⟨Nat.le_refl _, Nat.le_refl _⟩ dX8_wouldRather_3 (fun hz H locs G => ?_)
  refine lv_istore (lv' := [(4, .int x1), (0, .ref (ad 35)), (1, .int l1), (2, .int l2), (3, .int l3)]) hx hb dX8_wouldRather_6 hl (by decide) rfl (fun ls hl => ?_)
  refine lv_iload hx hb dX8_wouldRather_8 (lv_at hl 0 rfl) ?_
  refine lv_if_ge (tgt := 15) hx hb dX8_wouldRather_10 (by decide) (fun h => ?_) (fun h => ?_)
  · have hf := it_t h hf
    refine lv_aload_n hx hb dX8_wouldRather_15 rfl (lv_at hl 1 rfl) ?_
    refine x_get C G fX8_15 (wX_at35) rfl dX8_wouldRather_16 ?_
    refine lv_iload_n hx hb dX8_wouldRather_19 rfl (lv_at hl 3 rfl) ?_
    have hi := ck_in hf
    have hf := ck_go hf
    refine x_iald C G (wX_at37) hi dX8_wouldRather_20 ?_
    refine lv_aload_n hx hb dX8_wouldRather_21 rfl (lv_at hl 1 rfl) ?_
    refine x_get C G fX8_15 (wX_at35) rfl dX8_wouldRather_22 ?_
    refine lv_iload hx hb dX8_wouldRather_25 (lv_at hl 0 rfl) ?_
    have hi := ck_in hf
    have hf := ck_go hf
    refine x_iald C G (wX_at37) hi dX8_wouldRather_27 ?_
    refine lv_icmp_eq (tgt := 53) hx hb dX8_wouldRather_28 (by decide) (fun h => ?_) (fun h => ?_)
    · have hf := it_t h hf
      refine lv_aload_n hx hb dX8_wouldRather_53 rfl (lv_at hl 1 rfl) ?_
      refine x_get C G fX8_35 (wX_at35) rfl dX8_wouldRather_54 ?_
      refine lv_iload_n hx hb dX8_wouldRather_57 rfl (lv_at hl 3 rfl) ?_
      refine lv_iload_n hx hb dX8_wouldRather_58 rfl (lv_at hl 2 rfl) ?_
      obtain ⟨x2, hc, hf⟩ := bd_go hf
      refine xI_V C G (c_Now_partner_nw hc) mX4_partner kX8_127 (wX_at28) rfl ⟨Nat.le_of_ble_eq_true rfl, Nat.le_of_ble_eq_true rfl⟩ rfl hl.1 rfl (Nat.le_of_ble_eq_true rfl) ⟨Nat.le_refl _, Nat.le_refl _⟩ dX8_wouldRather_59 (fun hz H locs G => ?_)
      refine lv_aload_n hx hb dX8_wouldRather_62 rfl (lv_at hl 1 rfl) ?_
      refine x_get C G fX8_35 (wX_at35) rfl dX8_wouldRather_63 ?_
      refine lv_iload hx hb dX8_wouldRather_66 (lv_at hl 0 rfl) ?_
      refine lv_iload_n hx hb dX8_wouldRather_68 rfl (lv_at hl 2 rfl) ?_
      obtain ⟨x3, hc, hf⟩ := bd_go hf
      refine xI_V C G (c_Now_partner_nw hc) mX4_partner kX8_127 (wX_at28) rfl ⟨Nat.le_of_ble_eq_true rfl, Nat.le_of_ble_eq_true rfl⟩ rfl hl.1 rfl (Nat.le_of_ble_eq_true rfl) ⟨Nat.le_refl _, Nat.le_refl _⟩ dX8_wouldRather_69 (fun hz H locs G => ?_)
      refine lv_icmp_ge (tgt := 79) hx hb dX8_wouldRather_72 (by decide) (fun h => ?_) (fun h => ?_)
      · have hf := it_t h hf
        refine lv_iconst (v := 0) hx hb dX8_wouldRather_79 (by decide) ?_
        obtain rfl := Option.some.inj hf
        exact xI_ret (r := (0 : Int32)) C G rfl dX8_wouldRather_80
      · have hf := it_f h hf
        refine lv_iconst (v := 1) hx hb dX8_wouldRather_75 (by decide) ?_
        refine lv_goto (tgt := 80) hx hb dX8_wouldRather_76 (by decide) ?_
        obtain rfl := Option.some.inj hf
        exact xI_ret (r := (1 : Int32)) C G rfl dX8_wouldRather_80
    · have hf := it_f h hf
      refine lv_aload_n hx hb dX8_wouldRather_31 rfl (lv_at hl 1 rfl) ?_
      refine x_get C G fX8_15 (wX_at35) rfl dX8_wouldRather_32 ?_
      refine lv_iload_n hx hb dX8_wouldRather_35 rfl (lv_at hl 3 rfl) ?_
      have hi := ck_in hf
      have hf := ck_go hf
      refine x_iald C G (wX_at37) hi dX8_wouldRather_36 ?_
      refine lv_aload_n hx hb dX8_wouldRather_37 rfl (lv_at hl 1 rfl) ?_
      refine x_get C G fX8_15 (wX_at35) rfl dX8_wouldRather_38 ?_
      refine lv_iload hx hb dX8_wouldRather_41 (lv_at hl 0 rfl) ?_
      have hi := ck_in hf
      have hf := ck_go hf
      refine x_iald C G (wX_at37) hi dX8_wouldRather_43 ?_
      refine lv_icmp_le (tgt := 51) hx hb dX8_wouldRather_44 (by decide) (fun h => ?_) (fun h => ?_)
      · have hf := it_t h hf
        refine lv_iconst (v := 0) hx hb dX8_wouldRather_51 (by decide) ?_
        obtain rfl := Option.some.inj hf
        exact xI_ret (r := (0 : Int32)) C G rfl dX8_wouldRather_52
      · have hf := it_f h hf
        refine lv_iconst (v := 1) hx hb dX8_wouldRather_47 (by decide) ?_
        refine lv_goto (tgt := 52) hx hb dX8_wouldRather_48 (by decide) ?_
        obtain rfl := Option.some.inj hf
        exact xI_ret (r := (1 : Int32)) C G rfl dX8_wouldRather_52
  · have hf := it_f h hf
    refine lv_iconst (v := 1) hx hb dX8_wouldRather_13 (by decide) ?_
    obtain rfl := Option.some.inj hf
    exact xI_ret (r := (1 : Int32)) C G rfl dX8_wouldRather_14
set_option maxHeartbeats 4000000 in
set_option maxRecDepth 100000 in
theorem c_Scene_wouldLeave_sc {l : Launch} {E : xE} {ad : Nat → Nat} {x_imageCount x_lastTrouble x_lastFault x_lastPlace pa_faultNumber pa_faultPlace rd_length rd_end rd_next rd_sort rd_start rd_value to_seats to_slack to_sawInches to_quarrelChance to_people to_forkBits to_unsure to_tried to_triedFedBits tf_pairs tf_gone bd_seats bd_slack bd_sawInches bd_quarrelChance bd_people bd_forkBits bd_unsure bd_tried bd_triedFedBits bf_pairs bf_gone nw_pairs nw_gone sc_forkBits sc_canBits sc_bestBits sc_bestSlops sl_count se_bestWorth se_fresh ch_items ch_leastCost ch_leastBits cl_count fi_count ps_next ps_count i0_pairs i0_gone i1_pairs i1_gone i2_pairs i2_gone : Int32} {pa_names : Nat → Int64} {rd_tape to_unsurePair to_unsureYears to_triedPair tf_seatOf tf_one tf_other tf_kind tf_years tf_sawn bd_unsurePair bd_unsureYears bd_triedPair bf_seatOf bf_one bf_other bf_kind bf_years bf_sawn nw_seatOf nw_one nw_other nw_kind nw_years nw_sawn sc_seatOf sc_handle sc_both sc_slopOf sl_bits se_bestRow se_row se_pairAt se_hope se_hopeAt se_slopAt se_farBits se_gain se_worth ch_both ch_cost ch_bit cl_bits fi_sets ps_act ps_whom ps_amount i0_seatOf i0_one i0_other i0_kind i0_years i0_sawn i1_seatOf i1_one i1_other i1_kind i1_years i1_sawn i2_seatOf i2_one i2_other i2_kind i2_years i2_sawn : Nat → Int32} {rd_word : Int64} {l1 : Int32} {l2 : Int32} {R0 : Int32} (hf : f_Scene_wouldLeave l1 l2 nw_one nw_other nw_pairs sc_handle sc_canBits = some R0) : xI l E yX8_wouldLeave cX8_wouldLeave 3 (some .boolean) 3 69 [.ref (ad 35), .int l1, .int l2] (wX E ad x_imageCount x_lastTrouble x_lastFault x_lastPlace pa_names pa_faultNumber pa_faultPlace rd_tape rd_length rd_end rd_next rd_sort rd_start rd_value rd_word to_unsurePair to_unsureYears to_triedPair to_seats to_slack to_sawInches to_quarrelChance to_people to_forkBits to_unsure to_tried to_triedFedBits tf_seatOf tf_one tf_other tf_kind tf_years tf_sawn tf_pairs tf_gone bd_unsurePair bd_unsureYears bd_triedPair bd_seats bd_slack bd_sawInches bd_quarrelChance bd_people bd_forkBits bd_unsure bd_tried bd_triedFedBits bf_seatOf bf_one bf_other bf_kind bf_years bf_sawn bf_pairs bf_gone nw_seatOf nw_one nw_other nw_kind nw_years nw_sawn nw_pairs nw_gone sc_seatOf sc_handle sc_both sc_slopOf sc_forkBits sc_canBits sc_bestBits sc_bestSlops sl_bits sl_count se_bestRow se_row se_pairAt se_hope se_hopeAt se_slopAt se_farBits se_gain se_worth se_bestWorth se_fresh ch_both ch_cost ch_bit ch_items ch_leastCost ch_leastBits cl_bits cl_count fi_sets fi_count ps_act ps_whom ps_amount ps_next ps_count i0_seatOf i0_one i0_other i0_kind i0_years i0_sawn i0_pairs i0_gone i1_seatOf i1_one i1_other i1_kind i1_years i1_sawn i1_pairs i1_gone i2_seatOf i2_one i2_other i2_kind i2_years i2_sawn i2_pairs i2_gone) (wX E ad x_imageCount x_lastTrouble x_lastFault x_lastPlace pa_names pa_faultNumber pa_faultPlace rd_tape rd_length rd_end rd_next rd_sort rd_start rd_value rd_word to_unsurePair to_unsureYears to_triedPair to_seats to_slack to_sawInches to_quarrelChance to_people to_forkBits to_unsure to_tried to_triedFedBits tf_seatOf tf_one tf_other tf_kind tf_years tf_sawn tf_pairs tf_gone bd_unsurePair bd_unsureYears bd_triedPair bd_seats bd_slack bd_sawInches bd_quarrelChance bd_people bd_forkBits bd_unsure bd_tried bd_triedFedBits bf_seatOf bf_one bf_other bf_kind bf_years bf_sawn bf_pairs bf_gone nw_seatOf nw_one nw_other nw_kind nw_years nw_sawn nw_pairs nw_gone sc_seatOf sc_handle sc_both sc_slopOf sc_forkBits sc_canBits sc_bestBits sc_bestSlops sl_bits sl_count se_bestRow se_row se_pairAt se_hope se_hopeAt se_slopAt se_farBits se_gain se_worth se_bestWorth se_fresh ch_both ch_cost ch_bit ch_items ch_leastCost ch_leastBits cl_bits cl_count fi_sets fi_count ps_act ps_whom ps_amount ps_next ps_count i0_seatOf i0_one i0_other i0_kind i0_years i0_sawn i0_pairs i0_gone i1_seatOf i1_one i1_other i1_kind i1_years i1_sawn i1_pairs i1_gone i2_seatOf i2_one i2_other i2_kind i2_years i2_sawn i2_pairs i2_gone) R0 := by
  refine xI_of (by decide) (Nat.le_of_ble_eq_true rfl) (fun p e s m args below meth c A C ls hl G => ?_)
  have hx := C.1
  have hb := C.2.1
  have hl : lv_has ls 3 [(0, .ref (ad 35)), (1, .int l1), (2, .int l2)] := hl
  unfold f_Scene_wouldLeave at hf
  refine lv_aload_n hx hb dX8_wouldLeave_0 rfl (lv_at hl 0 rfl) ?_
  refine x_get C G fX8_68.g (wX_at35) rfl dX8_wouldLeave_1 ?_
  refine lv_iload_n hx hb dX8_wouldLeave_4 rfl (lv_at hl 1 rfl) ?_
  obtain ⟨x1, hc, hf⟩ := bd_go hf
  refine xI_S C G (c_X_has_any hc) mX10_has kX8_123 ⟨Nat.le_of_ble_eq_true rfl, Nat.le_of_ble_eq_true rfl⟩ rfl hl.1 rfl (Nat.le_of_ble_eq_true rfl) ⟨Nat.le_refl _, Nat.le_refl _⟩ dX8_wouldLeave_5 (fun hz1 H locs G => ?_)
  obtain ⟨b2, hr, hf⟩ := bd_go hf
  cases b2 with
  | true =>
    have hf := it_t rfl hf
    have J : ∀ (H : Heap) (locs : List Loc), xG s E A (wX E ad x_imageCount x_lastTrouble x_lastFault x_lastPlace pa_names pa_faultNumber pa_faultPlace rd_tape rd_length rd_end rd_next rd_sort rd_start rd_value rd_word to_unsurePair to_unsureYears to_triedPair to_seats to_slack to_sawInches to_quarrelChance to_people to_forkBits to_unsure to_tried to_triedFedBits tf_seatOf tf_one tf_other tf_kind tf_years tf_sawn tf_pairs tf_gone bd_unsurePair bd_unsureYears bd_triedPair bd_seats bd_slack bd_sawInches bd_quarrelChance bd_people bd_forkBits bd_unsure bd_tried bd_triedFedBits bf_seatOf bf_one bf_other bf_kind bf_years bf_sawn bf_pairs bf_gone nw_seatOf nw_one nw_other nw_kind nw_years nw_sawn nw_pairs nw_gone sc_seatOf sc_handle sc_both sc_slopOf sc_forkBits sc_canBits sc_bestBits sc_bestSlops sl_bits sl_count se_bestRow se_row se_pairAt se_hope se_hopeAt se_slopAt se_farBits se_gain se_worth se_bestWorth se_fresh ch_both ch_cost ch_bit ch_items ch_leastCost ch_leastBits cl_bits cl_count fi_sets fi_count ps_act ps_whom ps_amount ps_next ps_count i0_seatOf i0_one i0_other i0_kind i0_years i0_sawn i0_pairs i0_gone i1_seatOf i1_one i1_other i1_kind i1_years i1_sawn i1_pairs i1_gone i2_seatOf i2_one i2_other i2_kind i2_years i2_sawn i2_pairs i2_gone) H locs → W p l e (xR 3 69) s m args below meth c H locs 0 0 (MQ below (xqI E A (wX E ad x_imageCount x_lastTrouble x_lastFault x_lastPlace pa_names pa_faultNumber pa_faultPlace rd_tape rd_length rd_end rd_next rd_sort rd_start rd_value rd_word to_unsurePair to_unsureYears to_triedPair to_seats to_slack to_sawInches to_quarrelChance to_people to_forkBits to_unsure to_tried to_triedFedBits tf_seatOf tf_one tf_other tf_kind tf_years tf_sawn tf_pairs tf_gone bd_unsurePair bd_unsureYears bd_triedPair bd_seats bd_slack bd_sawInches bd_quarrelChance bd_people bd_forkBits bd_unsure bd_tried bd_triedFedBits bf_seatOf bf_one bf_other bf_kind bf_years bf_sawn bf_pairs bf_gone nw_seatOf nw_one nw_other nw_kind nw_years nw_sawn nw_pairs nw_gone sc_seatOf sc_handle sc_both sc_slopOf sc_forkBits sc_canBits sc_bestBits sc_bestSlops sl_bits sl_count se_bestRow se_row se_pairAt se_hope se_hopeAt se_slopAt se_farBits se_gain se_worth se_bestWorth se_fresh ch_both ch_cost ch_bit ch_items ch_leastCost ch_leastBits cl_bits cl_count fi_sets fi_count ps_act ps_whom ps_amount ps_next ps_count i0_seatOf i0_one i0_other i0_kind i0_years i0_sawn i0_pairs i0_gone i1_seatOf i1_one i1_other i1_kind i1_years i1_sawn i1_pairs i1_gone i2_seatOf i2_one i2_other i2_kind i2_years i2_sawn i2_pairs i2_gone) (some .boolean) R0) args s 0 0 A) (F0 m 59 ls []) := by
      intro H locs G
      refine lv_iconst (v := 0) hx hb dX8_wouldLeave_59 (by decide) ?_
      obtain rfl := Option.some.inj hf
      exact xI_ret (r := (0 : Int32)) C G rfl dX8_wouldLeave_60
    have hf := hr
    clear hr
    refine lv_if_eq (tgt := 59) hx hb dX8_wouldLeave_8 (by decide) (fun h => ?_) (fun h => ?_)
    · have hf := it_t h hf
      exact J _ _ G
    · have hf := it_f h hf
      refine lv_iload_n hx hb dX8_wouldLeave_11 rfl (lv_at hl 2 rfl) ?_
      refine lv_iload_n hx hb dX8_wouldLeave_12 rfl (lv_at hl 1 rfl) ?_
      obtain ⟨x3, hc, hf⟩ := bd_go hf
      refine xI_S C G (c_X_has_any hc) mX10_has kX8_123 ⟨Nat.le_of_ble_eq_true rfl, Nat.le_of_ble_eq_true rfl⟩ rfl hl.1 rfl (Nat.le_of_ble_eq_true rfl) ⟨Nat.le_refl _, Nat.le_refl _⟩ dX8_wouldLeave_13 (fun hz3 H locs G => ?_)
      refine lv_if_ne (tgt := 59) hx hb dX8_wouldLeave_16 (by decide) (fun h => ?_) (fun h => ?_)
      · have hf := it_f h hf
        exact J _ _ G
      · have hf := it_t h hf
        refine lv_aload_n hx hb dX8_wouldLeave_19 rfl (lv_at hl 0 rfl) ?_
        refine lv_aload_n hx hb dX8_wouldLeave_20 rfl (lv_at hl 0 rfl) ?_
        refine x_get C G fX8_35 (wX_at35) rfl dX8_wouldLeave_21 ?_
        refine x_get C G fX8_96 (wX_at28) rfl dX8_wouldLeave_24 ?_
        refine lv_iload_n hx hb dX8_wouldLeave_27 rfl (lv_at hl 1 rfl) ?_
        have hi := ck_in hf
        have hf := ck_go hf
        refine x_iald C G (wX_at30) hi dX8_wouldLeave_28 ?_
        refine lv_iload_n hx hb dX8_wouldLeave_29 rfl (lv_at hl 1 rfl) ?_
        refine lv_iload_n hx hb dX8_wouldLeave_30 rfl (lv_at hl 2 rfl) ?_
        obtain ⟨x4, hc, hf⟩ := bd_go hf
        refine xI_V C G (c_Scene_wouldRather_sc hc) mX8_wouldRather kX8_133 (wX_at35) rfl ⟨Nat.le_of_ble_eq_true rfl, Nat.le_of_ble_eq_true rfl⟩ rfl hl.1 rfl (Nat.le_of_ble_eq_true rfl) ⟨Nat.le_refl _, Nat.le_refl _⟩ dX8_wouldLeave_31 (fun hz4 H locs G => ?_)
        refine lv_if_eq (tgt := 59) hx hb dX8_wouldLeave_34 (by decide) (fun h => ?_) (fun h => ?_)
        · have hf := it_t h hf
          exact J _ _ G
        · have hf := it_f h hf
          refine lv_aload_n hx hb dX8_wouldLeave_37 rfl (lv_at hl 0 rfl) ?_
          refine lv_aload_n hx hb dX8_wouldLeave_38 rfl (lv_at hl 0 rfl) ?_
          refine x_get C G fX8_35 (wX_at35) rfl dX8_wouldLeave_39 ?_
          refine x_get C G fX8_99 (wX_at28) rfl dX8_wouldLeave_42 ?_
          refine lv_iload_n hx hb dX8_wouldLeave_45 rfl (lv_at hl 1 rfl) ?_
          have hi := ck_in hf
          have hf := ck_go hf
          refine x_iald C G (wX_at31) hi dX8_wouldLeave_46 ?_
          refine lv_iload_n hx hb dX8_wouldLeave_47 rfl (lv_at hl 1 rfl) ?_
          refine lv_iload_n hx hb dX8_wouldLeave_48 rfl (lv_at hl 2 rfl) ?_
          obtain ⟨x5, hc, hf⟩ := bd_go hf
          refine xI_V C G (c_Scene_wouldRather_sc hc) mX8_wouldRather kX8_133 (wX_at35) rfl ⟨Nat.le_of_ble_eq_true rfl, Nat.le_of_ble_eq_true rfl⟩ rfl hl.1 rfl (Nat.le_of_ble_eq_true rfl) ⟨Nat.le_refl _, Nat.le_refl _⟩ dX8_wouldLeave_49 (fun hz5 H locs G => ?_)
          refine lv_if_eq (tgt := 59) hx hb dX8_wouldLeave_52 (by decide) (fun h => ?_) (fun h => ?_)
          · have hf := it_t h hf
            exact J _ _ G
          · have hf := it_f h hf
            exact absurd (Option.some.inj hf) (by decide)
  | false =>
    have hf := it_f (by decide) hf
    have J : ∀ (H : Heap) (locs : List Loc), xG s E A (wX E ad x_imageCount x_lastTrouble x_lastFault x_lastPlace pa_names pa_faultNumber pa_faultPlace rd_tape rd_length rd_end rd_next rd_sort rd_start rd_value rd_word to_unsurePair to_unsureYears to_triedPair to_seats to_slack to_sawInches to_quarrelChance to_people to_forkBits to_unsure to_tried to_triedFedBits tf_seatOf tf_one tf_other tf_kind tf_years tf_sawn tf_pairs tf_gone bd_unsurePair bd_unsureYears bd_triedPair bd_seats bd_slack bd_sawInches bd_quarrelChance bd_people bd_forkBits bd_unsure bd_tried bd_triedFedBits bf_seatOf bf_one bf_other bf_kind bf_years bf_sawn bf_pairs bf_gone nw_seatOf nw_one nw_other nw_kind nw_years nw_sawn nw_pairs nw_gone sc_seatOf sc_handle sc_both sc_slopOf sc_forkBits sc_canBits sc_bestBits sc_bestSlops sl_bits sl_count se_bestRow se_row se_pairAt se_hope se_hopeAt se_slopAt se_farBits se_gain se_worth se_bestWorth se_fresh ch_both ch_cost ch_bit ch_items ch_leastCost ch_leastBits cl_bits cl_count fi_sets fi_count ps_act ps_whom ps_amount ps_next ps_count i0_seatOf i0_one i0_other i0_kind i0_years i0_sawn i0_pairs i0_gone i1_seatOf i1_one i1_other i1_kind i1_years i1_sawn i1_pairs i1_gone i2_seatOf i2_one i2_other i2_kind i2_years i2_sawn i2_pairs i2_gone) H locs → W p l e (xR 3 69) s m args below meth c H locs 0 0 (MQ below (xqI E A (wX E ad x_imageCount x_lastTrouble x_lastFault x_lastPlace pa_names pa_faultNumber pa_faultPlace rd_tape rd_length rd_end rd_next rd_sort rd_start rd_value rd_word to_unsurePair to_unsureYears to_triedPair to_seats to_slack to_sawInches to_quarrelChance to_people to_forkBits to_unsure to_tried to_triedFedBits tf_seatOf tf_one tf_other tf_kind tf_years tf_sawn tf_pairs tf_gone bd_unsurePair bd_unsureYears bd_triedPair bd_seats bd_slack bd_sawInches bd_quarrelChance bd_people bd_forkBits bd_unsure bd_tried bd_triedFedBits bf_seatOf bf_one bf_other bf_kind bf_years bf_sawn bf_pairs bf_gone nw_seatOf nw_one nw_other nw_kind nw_years nw_sawn nw_pairs nw_gone sc_seatOf sc_handle sc_both sc_slopOf sc_forkBits sc_canBits sc_bestBits sc_bestSlops sl_bits sl_count se_bestRow se_row se_pairAt se_hope se_hopeAt se_slopAt se_farBits se_gain se_worth se_bestWorth se_fresh ch_both ch_cost ch_bit ch_items ch_leastCost ch_leastBits cl_bits cl_count fi_sets fi_count ps_act ps_whom ps_amount ps_next ps_count i0_seatOf i0_one i0_other i0_kind i0_years i0_sawn i0_pairs i0_gone i1_seatOf i1_one i1_other i1_kind i1_years i1_sawn i1_pairs i1_gone i2_seatOf i2_one i2_other i2_kind i2_years i2_sawn i2_pairs i2_gone) (some .boolean) R0) args s 0 0 A) (F0 m 55 ls []) := by
      intro H locs G
      refine lv_iconst (v := 1) hx hb dX8_wouldLeave_55 (by decide) ?_
      refine lv_goto (tgt := 60) hx hb dX8_wouldLeave_56 (by decide) ?_
      obtain rfl := Option.some.inj hf
      exact xI_ret (r := (1 : Int32)) C G rfl dX8_wouldLeave_60
    have hf := hr
    clear hr
    refine lv_if_eq (tgt := 59) hx hb dX8_wouldLeave_8 (by decide) (fun h => ?_) (fun h => ?_)
    · have hf := it_t h hf
      exact absurd (Option.some.inj hf) (by decide)
    · have hf := it_f h hf
      refine lv_iload_n hx hb dX8_wouldLeave_11 rfl (lv_at hl 2 rfl) ?_
      refine lv_iload_n hx hb dX8_wouldLeave_12 rfl (lv_at hl 1 rfl) ?_
      obtain ⟨x6, hc, hf⟩ := bd_go hf
      refine xI_S C G (c_X_has_any hc) mX10_has kX8_123 ⟨Nat.le_of_ble_eq_true rfl, Nat.le_of_ble_eq_true rfl⟩ rfl hl.1 rfl (Nat.le_of_ble_eq_true rfl) ⟨Nat.le_refl _, Nat.le_refl _⟩ dX8_wouldLeave_13 (fun hz6 H locs G => ?_)
      refine lv_if_ne (tgt := 59) hx hb dX8_wouldLeave_16 (by decide) (fun h => ?_) (fun h => ?_)
      · have hf := it_f h hf
        exact absurd (Option.some.inj hf) (by decide)
      · have hf := it_t h hf
        refine lv_aload_n hx hb dX8_wouldLeave_19 rfl (lv_at hl 0 rfl) ?_
        refine lv_aload_n hx hb dX8_wouldLeave_20 rfl (lv_at hl 0 rfl) ?_
        refine x_get C G fX8_35 (wX_at35) rfl dX8_wouldLeave_21 ?_
        refine x_get C G fX8_96 (wX_at28) rfl dX8_wouldLeave_24 ?_
        refine lv_iload_n hx hb dX8_wouldLeave_27 rfl (lv_at hl 1 rfl) ?_
        have hi := ck_in hf
        have hf := ck_go hf
        refine x_iald C G (wX_at30) hi dX8_wouldLeave_28 ?_
        refine lv_iload_n hx hb dX8_wouldLeave_29 rfl (lv_at hl 1 rfl) ?_
        refine lv_iload_n hx hb dX8_wouldLeave_30 rfl (lv_at hl 2 rfl) ?_
        obtain ⟨x7, hc, hf⟩ := bd_go hf
        refine xI_V C G (c_Scene_wouldRather_sc hc) mX8_wouldRather kX8_133 (wX_at35) rfl ⟨Nat.le_of_ble_eq_true rfl, Nat.le_of_ble_eq_true rfl⟩ rfl hl.1 rfl (Nat.le_of_ble_eq_true rfl) ⟨Nat.le_refl _, Nat.le_refl _⟩ dX8_wouldLeave_31 (fun hz7 H locs G => ?_)
        refine lv_if_eq (tgt := 59) hx hb dX8_wouldLeave_34 (by decide) (fun h => ?_) (fun h => ?_)
        · have hf := it_t h hf
          exact absurd (Option.some.inj hf) (by decide)
        · have hf := it_f h hf
          refine lv_aload_n hx hb dX8_wouldLeave_37 rfl (lv_at hl 0 rfl) ?_
          refine lv_aload_n hx hb dX8_wouldLeave_38 rfl (lv_at hl 0 rfl) ?_
          refine x_get C G fX8_35 (wX_at35) rfl dX8_wouldLeave_39 ?_
          refine x_get C G fX8_99 (wX_at28) rfl dX8_wouldLeave_42 ?_
          refine lv_iload_n hx hb dX8_wouldLeave_45 rfl (lv_at hl 1 rfl) ?_
          have hi := ck_in hf
          have hf := ck_go hf
          refine x_iald C G (wX_at31) hi dX8_wouldLeave_46 ?_
          refine lv_iload_n hx hb dX8_wouldLeave_47 rfl (lv_at hl 1 rfl) ?_
          refine lv_iload_n hx hb dX8_wouldLeave_48 rfl (lv_at hl 2 rfl) ?_
          obtain ⟨x8, hc, hf⟩ := bd_go hf
          refine xI_V C G (c_Scene_wouldRather_sc hc) mX8_wouldRather kX8_133 (wX_at35) rfl ⟨Nat.le_of_ble_eq_true rfl, Nat.le_of_ble_eq_true rfl⟩ rfl hl.1 rfl (Nat.le_of_ble_eq_true rfl) ⟨Nat.le_refl _, Nat.le_refl _⟩ dX8_wouldLeave_49 (fun hz8 H locs G => ?_)
          refine lv_if_eq (tgt := 59) hx hb dX8_wouldLeave_52 (by decide) (fun h => ?_) (fun h => ?_)
          · have hf := it_t h hf
            exact absurd (Option.some.inj hf) (by decide)
          · have hf := it_f h hf
            exact J _ _ G
set_option maxHeartbeats 4000000 in
set_option maxRecDepth 100000 in
theorem w_Scene_noneLeaves_sc_L2 {p : Program} {l : Launch} {e : Env} {s : State} {m : MethodId} {args : Array Value} {below : List Frame} {meth : Method} {c : Code} {A : Nat → Prop} {E : xE} {ad : Nat → Nat} {x_imageCount x_lastTrouble x_lastFault x_lastPlace pa_faultNumber pa_faultPlace rd_length rd_end rd_next rd_sort rd_start rd_value to_seats to_slack to_sawInches to_quarrelChance to_people to_forkBits to_unsure to_tried to_triedFedBits tf_pairs tf_gone bd_seats bd_slack bd_sawInches bd_quarrelChance bd_people bd_forkBits bd_unsure bd_tried bd_triedFedBits bf_pairs bf_gone nw_pairs nw_gone sc_forkBits sc_canBits sc_bestBits sc_bestSlops sl_count se_bestWorth se_fresh ch_items ch_leastCost ch_leastBits cl_count fi_count ps_next ps_count i0_pairs i0_gone i1_pairs i1_gone i2_pairs i2_gone : Int32} {pa_names : Nat → Int64} {rd_tape to_unsurePair to_unsureYears to_triedPair tf_seatOf tf_one tf_other tf_kind tf_years tf_sawn bd_unsurePair bd_unsureYears bd_triedPair bf_seatOf bf_one bf_other bf_kind bf_years bf_sawn nw_seatOf nw_one nw_other nw_kind nw_years nw_sawn sc_seatOf sc_handle sc_both sc_slopOf sl_bits se_bestRow se_row se_pairAt se_hope se_hopeAt se_slopAt se_farBits se_gain se_worth ch_both ch_cost ch_bit cl_bits fi_sets ps_act ps_whom ps_amount i0_seatOf i0_one i0_other i0_kind i0_years i0_sawn i1_seatOf i1_one i1_other i1_kind i1_years i1_sawn i2_seatOf i2_one i2_other i2_kind i2_years i2_sawn : Nat → Int32} {rd_word : Int64} {l1 : Int32} {o : (Int32) ⊕ (Unit)} {R0 : Int32} (C : xC p s m args meth c cX8_noneLeaves 3 RX8 E A (some .boolean)) (Jr : ∀ r, o = .inl r → r = R0) (J : ∀ t, o = .inr t → ∀ (H : Heap) (locs : List Loc) (ls : Array Slot), xG s E A (wX E ad x_imageCount x_lastTrouble x_lastFault x_lastPlace pa_names pa_faultNumber pa_faultPlace rd_tape rd_length rd_end rd_next rd_sort rd_start rd_value rd_word to_unsurePair to_unsureYears to_triedPair to_seats to_slack to_sawInches to_quarrelChance to_people to_forkBits to_unsure to_tried to_triedFedBits tf_seatOf tf_one tf_other tf_kind tf_years tf_sawn tf_pairs tf_gone bd_unsurePair bd_unsureYears bd_triedPair bd_seats bd_slack bd_sawInches bd_quarrelChance bd_people bd_forkBits bd_unsure bd_tried bd_triedFedBits bf_seatOf bf_one bf_other bf_kind bf_years bf_sawn bf_pairs bf_gone nw_seatOf nw_one nw_other nw_kind nw_years nw_sawn nw_pairs nw_gone sc_seatOf sc_handle sc_both sc_slopOf sc_forkBits sc_canBits sc_bestBits sc_bestSlops sl_bits sl_count se_bestRow se_row se_pairAt se_hope se_hopeAt se_slopAt se_farBits se_gain se_worth se_bestWorth se_fresh ch_both ch_cost ch_bit ch_items ch_leastCost ch_leastBits cl_bits cl_count fi_sets fi_count ps_act ps_whom ps_amount ps_next ps_count i0_seatOf i0_one i0_other i0_kind i0_years i0_sawn i0_pairs i0_gone i1_seatOf i1_one i1_other i1_kind i1_years i1_sawn i1_pairs i1_gone i2_seatOf i2_one i2_other i2_kind i2_years i2_sawn i2_pairs i2_gone) H locs → lv_has ls 3 [] → W p l e (xR 4 91) s m args below meth c H locs 0 0 (MQ below (xqI E A (wX E ad x_imageCount x_lastTrouble x_lastFault x_lastPlace pa_names pa_faultNumber pa_faultPlace rd_tape rd_length rd_end rd_next rd_sort rd_start rd_value rd_word to_unsurePair to_unsureYears to_triedPair to_seats to_slack to_sawInches to_quarrelChance to_people to_forkBits to_unsure to_tried to_triedFedBits tf_seatOf tf_one tf_other tf_kind tf_years tf_sawn tf_pairs tf_gone bd_unsurePair bd_unsureYears bd_triedPair bd_seats bd_slack bd_sawInches bd_quarrelChance bd_people bd_forkBits bd_unsure bd_tried bd_triedFedBits bf_seatOf bf_one bf_other bf_kind bf_years bf_sawn bf_pairs bf_gone nw_seatOf nw_one nw_other nw_kind nw_years nw_sawn nw_pairs nw_gone sc_seatOf sc_handle sc_both sc_slopOf sc_forkBits sc_canBits sc_bestBits sc_bestSlops sl_bits sl_count se_bestRow se_row se_pairAt se_hope se_hopeAt se_slopAt se_farBits se_gain se_worth se_bestWorth se_fresh ch_both ch_cost ch_bit ch_items ch_leastCost ch_leastBits cl_bits cl_count fi_sets fi_count ps_act ps_whom ps_amount ps_next ps_count i0_seatOf i0_one i0_other i0_kind i0_years i0_sawn i0_pairs i0_gone i1_seatOf i1_one i1_other i1_kind i1_years i1_sawn i1_pairs i1_gone i2_seatOf i2_one i2_other i2_kind i2_years i2_sawn i2_pairs i2_gone) (some .boolean) R0) args s 0 0 A) (F0 m 30 ls [])) :
    ∀ (n : Nat) (l2 : Int32) (H : Heap) (locs : List Loc) (ls : Array Slot), xG s E A (wX E ad x_imageCount x_lastTrouble x_lastFault x_lastPlace pa_names pa_faultNumber pa_faultPlace rd_tape rd_length rd_end rd_next rd_sort rd_start rd_value rd_word to_unsurePair to_unsureYears to_triedPair to_seats to_slack to_sawInches to_quarrelChance to_people to_forkBits to_unsure to_tried to_triedFedBits tf_seatOf tf_one tf_other tf_kind tf_years tf_sawn tf_pairs tf_gone bd_unsurePair bd_unsureYears bd_triedPair bd_seats bd_slack bd_sawInches bd_quarrelChance bd_people bd_forkBits bd_unsure bd_tried bd_triedFedBits bf_seatOf bf_one bf_other bf_kind bf_years bf_sawn bf_pairs bf_gone nw_seatOf nw_one nw_other nw_kind nw_years nw_sawn nw_pairs nw_gone sc_seatOf sc_handle sc_both sc_slopOf sc_forkBits sc_canBits sc_bestBits sc_bestSlops sl_bits sl_count se_bestRow se_row se_pairAt se_hope se_hopeAt se_slopAt se_farBits se_gain se_worth se_bestWorth se_fresh ch_both ch_cost ch_bit ch_items ch_leastCost ch_leastBits cl_bits cl_count fi_sets fi_count ps_act ps_whom ps_amount ps_next ps_count i0_seatOf i0_one i0_other i0_kind i0_years i0_sawn i0_pairs i0_gone i1_seatOf i1_one i1_other i1_kind i1_years i1_sawn i1_pairs i1_gone i2_seatOf i2_one i2_other i2_kind i2_years i2_sawn i2_pairs i2_gone) H locs → lv_has ls 3 [(0, .ref (ad 35)), (1, .int l1), (2, .int l2)] → f_Scene_noneLeaves_L2 l1 nw_one nw_other nw_pairs sc_handle sc_canBits n l2 = some o → W p l e (xR 4 91) s m args below meth c H locs 0 0 (MQ below (xqI E A (wX E ad x_imageCount x_lastTrouble x_lastFault x_lastPlace pa_names pa_faultNumber pa_faultPlace rd_tape rd_length rd_end rd_next rd_sort rd_start rd_value rd_word to_unsurePair to_unsureYears to_triedPair to_seats to_slack to_sawInches to_quarrelChance to_people to_forkBits to_unsure to_tried to_triedFedBits tf_seatOf tf_one tf_other tf_kind tf_years tf_sawn tf_pairs tf_gone bd_unsurePair bd_unsureYears bd_triedPair bd_seats bd_slack bd_sawInches bd_quarrelChance bd_people bd_forkBits bd_unsure bd_tried bd_triedFedBits bf_seatOf bf_one bf_other bf_kind bf_years bf_sawn bf_pairs bf_gone nw_seatOf nw_one nw_other nw_kind nw_years nw_sawn nw_pairs nw_gone sc_seatOf sc_handle sc_both sc_slopOf sc_forkBits sc_canBits sc_bestBits sc_bestSlops sl_bits sl_count se_bestRow se_row se_pairAt se_hope se_hopeAt se_slopAt se_farBits se_gain se_worth se_bestWorth se_fresh ch_both ch_cost ch_bit ch_items ch_leastCost ch_leastBits cl_bits cl_count fi_sets fi_count ps_act ps_whom ps_amount ps_next ps_count i0_seatOf i0_one i0_other i0_kind i0_years i0_sawn i0_pairs i0_gone i1_seatOf i1_one i1_other i1_kind i1_years i1_sawn i1_pairs i1_gone i2_seatOf i2_one i2_other i2_kind i2_years i2_sawn i2_pairs i2_gone) (some .boolean) R0) args s 0 0 A) (F0 m 2 ls []) := by
  have hx := C.1
  have hb := C.2.1
  intro n
  induction n with
  | zero =>
    intro l2 H locs ls G hl hf
    exact nomatch (show (none : Option ((Int32) ⊕ (Unit))) = some o from hf)
  | succ n ih =>
    intro l2 H locs ls G hl hf
    rw [f_Scene_noneLeaves_L2] at hf
    refine lv_iload_n hx hb dX8_noneLeaves_2 rfl (lv_at hl 2 rfl) ?_
    refine lv_aload_n hx hb dX8_noneLeaves_3 rfl (lv_at hl 0 rfl) ?_
    refine x_get C G fX8_35 (wX_at35) rfl dX8_noneLeaves_4 ?_
    refine x_get C G fX8_48.g (wX_at28) rfl dX8_noneLeaves_7 ?_
    refine lv_icmp_ge (tgt := 30) hx hb dX8_noneLeaves_10 (by decide) (fun h => ?_) (fun h => ?_)
    · have hf := it_t h hf
      exact J _ (Option.some.inj hf).symm _ _ _ G (lv_sub hl [] rfl)
    · have hf := it_f h hf
      refine lv_aload_n hx hb dX8_noneLeaves_13 rfl (lv_at hl 0 rfl) ?_
      refine lv_iload_n hx hb dX8_noneLeaves_14 rfl (lv_at hl 2 rfl) ?_
      refine lv_iload_n hx hb dX8_noneLeaves_15 rfl (lv_at hl 1 rfl) ?_
      obtain ⟨x1, hc, hf⟩ := bd_go hf
      refine xI_V C G (c_Scene_wouldLeave_sc hc) mX8_wouldLeave kX8_130 (wX_at35) rfl ⟨Nat.le_of_ble_eq_true rfl, Nat.le_of_ble_eq_true rfl⟩ rfl hl.1 rfl (Nat.le_of_ble_eq_true rfl) ⟨Nat.le_refl _, Nat.le_refl _⟩ dX8_noneLeaves_16 (fun hz1 H locs G => ?_)
      refine lv_if_eq (tgt := 24) hx hb dX8_noneLeaves_19 (by decide) (fun h => ?_) (fun h => ?_)
      · have hf := it_t h hf
        obtain ⟨x2, ex2⟩ : ∃ z : Int32, z = l2 + (1 : Int32) := ⟨_, rfl⟩
        have hf := lt_go ex2 hf
        refine lv_iinc (v := x2) (lv' := [(2, .int x2), (0, .ref (ad 35)), (1, .int l1)]) hx hb dX8_noneLeaves_24 hl (k := 2) rfl (by rw [ex2]; rfl) (by decide) rfl (fun ls hl => ?_)
        refine lv_goto (tgt := 2) hx hb dX8_noneLeaves_27 (by decide) ?_
        exact ih x2 _ _ _ G (lv_sub hl [1, 2, 0] rfl) hf
      · have hf := it_f h hf
        refine lv_iconst (v := 0) hx hb dX8_noneLeaves_22 (by decide) ?_
        obtain rfl := Jr _ (Option.some.inj hf).symm
        exact xI_ret (r := (0 : Int32)) C G rfl dX8_noneLeaves_23
set_option maxHeartbeats 4000000 in
set_option maxRecDepth 100000 in
theorem c_Scene_noneLeaves_sc {l : Launch} {E : xE} {ad : Nat → Nat} {x_imageCount x_lastTrouble x_lastFault x_lastPlace pa_faultNumber pa_faultPlace rd_length rd_end rd_next rd_sort rd_start rd_value to_seats to_slack to_sawInches to_quarrelChance to_people to_forkBits to_unsure to_tried to_triedFedBits tf_pairs tf_gone bd_seats bd_slack bd_sawInches bd_quarrelChance bd_people bd_forkBits bd_unsure bd_tried bd_triedFedBits bf_pairs bf_gone nw_pairs nw_gone sc_forkBits sc_canBits sc_bestBits sc_bestSlops sl_count se_bestWorth se_fresh ch_items ch_leastCost ch_leastBits cl_count fi_count ps_next ps_count i0_pairs i0_gone i1_pairs i1_gone i2_pairs i2_gone : Int32} {pa_names : Nat → Int64} {rd_tape to_unsurePair to_unsureYears to_triedPair tf_seatOf tf_one tf_other tf_kind tf_years tf_sawn bd_unsurePair bd_unsureYears bd_triedPair bf_seatOf bf_one bf_other bf_kind bf_years bf_sawn nw_seatOf nw_one nw_other nw_kind nw_years nw_sawn sc_seatOf sc_handle sc_both sc_slopOf sl_bits se_bestRow se_row se_pairAt se_hope se_hopeAt se_slopAt se_farBits se_gain se_worth ch_both ch_cost ch_bit cl_bits fi_sets ps_act ps_whom ps_amount i0_seatOf i0_one i0_other i0_kind i0_years i0_sawn i1_seatOf i1_one i1_other i1_kind i1_years i1_sawn i2_seatOf i2_one i2_other i2_kind i2_years i2_sawn : Nat → Int32} {rd_word : Int64} {l1 : Int32} {R0 : Int32} (hf : f_Scene_noneLeaves l1 nw_one nw_other nw_pairs sc_handle sc_canBits = some R0) : xI l E yX8_noneLeaves cX8_noneLeaves 3 (some .boolean) 4 91 [.ref (ad 35), .int l1] (wX E ad x_imageCount x_lastTrouble x_lastFault x_lastPlace pa_names pa_faultNumber pa_faultPlace rd_tape rd_length rd_end rd_next rd_sort rd_start rd_value rd_word to_unsurePair to_unsureYears to_triedPair to_seats to_slack to_sawInches to_quarrelChance to_people to_forkBits to_unsure to_tried to_triedFedBits tf_seatOf tf_one tf_other tf_kind tf_years tf_sawn tf_pairs tf_gone bd_unsurePair bd_unsureYears bd_triedPair bd_seats bd_slack bd_sawInches bd_quarrelChance bd_people bd_forkBits bd_unsure bd_tried bd_triedFedBits bf_seatOf bf_one bf_other bf_kind bf_years bf_sawn bf_pairs bf_gone nw_seatOf nw_one nw_other nw_kind nw_years nw_sawn nw_pairs nw_gone sc_seatOf sc_handle sc_both sc_slopOf sc_forkBits sc_canBits sc_bestBits sc_bestSlops sl_bits sl_count se_bestRow se_row se_pairAt se_hope se_hopeAt se_slopAt se_farBits se_gain se_worth se_bestWorth se_fresh ch_both ch_cost ch_bit ch_items ch_leastCost ch_leastBits cl_bits cl_count fi_sets fi_count ps_act ps_whom ps_amount ps_next ps_count i0_seatOf i0_one i0_other i0_kind i0_years i0_sawn i0_pairs i0_gone i1_seatOf i1_one i1_other i1_kind i1_years i1_sawn i1_pairs i1_gone i2_seatOf i2_one i2_other i2_kind i2_years i2_sawn i2_pairs i2_gone) (wX E ad x_imageCount x_lastTrouble x_lastFault x_lastPlace pa_names pa_faultNumber pa_faultPlace rd_tape rd_length rd_end rd_next rd_sort rd_start rd_value rd_word to_unsurePair to_unsureYears to_triedPair to_seats to_slack to_sawInches to_quarrelChance to_people to_forkBits to_unsure to_tried to_triedFedBits tf_seatOf tf_one tf_other tf_kind tf_years tf_sawn tf_pairs tf_gone bd_unsurePair bd_unsureYears bd_triedPair bd_seats bd_slack bd_sawInches bd_quarrelChance bd_people bd_forkBits bd_unsure bd_tried bd_triedFedBits bf_seatOf bf_one bf_other bf_kind bf_years bf_sawn bf_pairs bf_gone nw_seatOf nw_one nw_other nw_kind nw_years nw_sawn nw_pairs nw_gone sc_seatOf sc_handle sc_both sc_slopOf sc_forkBits sc_canBits sc_bestBits sc_bestSlops sl_bits sl_count se_bestRow se_row se_pairAt se_hope se_hopeAt se_slopAt se_farBits se_gain se_worth se_bestWorth se_fresh ch_both ch_cost ch_bit ch_items ch_leastCost ch_leastBits cl_bits cl_count fi_sets fi_count ps_act ps_whom ps_amount ps_next ps_count i0_seatOf i0_one i0_other i0_kind i0_years i0_sawn i0_pairs i0_gone i1_seatOf i1_one i1_other i1_kind i1_years i1_sawn i1_pairs i1_gone i2_seatOf i2_one i2_other i2_kind i2_years i2_sawn i2_pairs i2_gone) R0 := by
  refine xI_of (by decide) (Nat.le_of_ble_eq_true rfl) (fun p e s m args below meth c A C ls hl G => ?_)
  have hx := C.1
  have hb := C.2.1
  have hl : lv_has ls 3 [(0, .ref (ad 35)), (1, .int l1)] := hl
  unfold f_Scene_noneLeaves at hf
  refine lv_iconst (v := 0) hx hb dX8_noneLeaves_0 (by decide) ?_
  refine lv_istore_n (lv' := [(2, .int (0 : Int32)), (0, .ref (ad 35)), (1, .int l1)]) hx hb dX8_noneLeaves_1 rfl hl (by decide) rfl (fun ls hl => ?_)
  obtain ⟨ox3, hr, hf⟩ := bd_go hf
  have Jx3 : ∀ x3, ox3 = .inr x3 → ∀ (H : Heap) (locs : List Loc) (ls : Array Slot), xG s E A (wX E ad x_imageCount x_lastTrouble x_lastFault x_lastPlace pa_names pa_faultNumber pa_faultPlace rd_tape rd_length rd_end rd_next rd_sort rd_start rd_value rd_word to_unsurePair to_unsureYears to_triedPair to_seats to_slack to_sawInches to_quarrelChance to_people to_forkBits to_unsure to_tried to_triedFedBits tf_seatOf tf_one tf_other tf_kind tf_years tf_sawn tf_pairs tf_gone bd_unsurePair bd_unsureYears bd_triedPair bd_seats bd_slack bd_sawInches bd_quarrelChance bd_people bd_forkBits bd_unsure bd_tried bd_triedFedBits bf_seatOf bf_one bf_other bf_kind bf_years bf_sawn bf_pairs bf_gone nw_seatOf nw_one nw_other nw_kind nw_years nw_sawn nw_pairs nw_gone sc_seatOf sc_handle sc_both sc_slopOf sc_forkBits sc_canBits sc_bestBits sc_bestSlops sl_bits sl_count se_bestRow se_row se_pairAt se_hope se_hopeAt se_slopAt se_farBits se_gain se_worth se_bestWorth se_fresh ch_both ch_cost ch_bit ch_items ch_leastCost ch_leastBits cl_bits cl_count fi_sets fi_count ps_act ps_whom ps_amount ps_next ps_count i0_seatOf i0_one i0_other i0_kind i0_years i0_sawn i0_pairs i0_gone i1_seatOf i1_one i1_other i1_kind i1_years i1_sawn i1_pairs i1_gone i2_seatOf i2_one i2_other i2_kind i2_years i2_sawn i2_pairs i2_gone) H locs → lv_has ls 3 [] → W p l e (xR 4 91) s m args below meth c H locs 0 0 (MQ below (xqI E A (wX E ad x_imageCount x_lastTrouble x_lastFault x_lastPlace pa_names pa_faultNumber pa_faultPlace rd_tape rd_length rd_end rd_next rd_sort rd_start rd_value rd_word to_unsurePair to_unsureYears to_triedPair to_seats to_slack to_sawInches to_quarrelChance to_people to_forkBits to_unsure to_tried to_triedFedBits tf_seatOf tf_one tf_other tf_kind tf_years tf_sawn tf_pairs tf_gone bd_unsurePair bd_unsureYears bd_triedPair bd_seats bd_slack bd_sawInches bd_quarrelChance bd_people bd_forkBits bd_unsure bd_tried bd_triedFedBits bf_seatOf bf_one bf_other bf_kind bf_years bf_sawn bf_pairs bf_gone nw_seatOf nw_one nw_other nw_kind nw_years nw_sawn nw_pairs nw_gone sc_seatOf sc_handle sc_both sc_slopOf sc_forkBits sc_canBits sc_bestBits sc_bestSlops sl_bits sl_count se_bestRow se_row se_pairAt se_hope se_hopeAt se_slopAt se_farBits se_gain se_worth se_bestWorth se_fresh ch_both ch_cost ch_bit ch_items ch_leastCost ch_leastBits cl_bits cl_count fi_sets fi_count ps_act ps_whom ps_amount ps_next ps_count i0_seatOf i0_one i0_other i0_kind i0_years i0_sawn i0_pairs i0_gone i1_seatOf i1_one i1_other i1_kind i1_years i1_sawn i1_pairs i1_gone i2_seatOf i2_one i2_other i2_kind i2_years i2_sawn i2_pairs i2_gone) (some .boolean) R0) args s 0 0 A) (F0 m 30 ls []) := by
    intro x3 hq H locs ls G hl
    subst hq
    have hf := sm_r hf
    refine lv_iconst (v := 1) hx hb dX8_noneLeaves_30 (by decide) ?_
    obtain rfl := Option.some.inj hf
    exact xI_ret (r := (1 : Int32)) C G rfl dX8_noneLeaves_31
  have Jrx3 : ∀ r, ox3 = .inl r → r = R0 := by
    intro r hq
    subst hq
    exact Option.some.inj hf
  exact w_Scene_noneLeaves_sc_L2 C Jrx3 Jx3 fu _ _ _ _ G (lv_sub hl [1, 2, 0] rfl) hr
set_option maxHeartbeats 4000000 in
set_option maxRecDepth 100000 in
theorem w_X_stable_x_L17 {p : Program} {l : Launch} {e : Env} {s : State} {m : MethodId} {args : Array Value} {below : List Frame} {meth : Method} {c : Code} {A : Nat → Prop} {E : xE} {Q : State → Prop} {ad : Nat → Nat} {x_imageCount x_lastTrouble x_lastFault x_lastPlace pa_faultNumber pa_faultPlace rd_length rd_end rd_next rd_sort rd_start rd_value to_seats to_slack to_sawInches to_quarrelChance to_people to_forkBits to_unsure to_tried to_triedFedBits tf_pairs tf_gone bd_seats bd_slack bd_sawInches bd_quarrelChance bd_people bd_forkBits bd_unsure bd_tried bd_triedFedBits bf_pairs bf_gone nw_pairs nw_gone sc_forkBits sc_canBits sc_bestBits sc_bestSlops sl_count se_bestWorth se_fresh ch_items ch_leastCost ch_leastBits cl_count fi_count ps_next ps_count i0_pairs i0_gone i1_pairs i1_gone i2_pairs i2_gone : Int32} {pa_names : Nat → Int64} {rd_tape to_unsurePair to_unsureYears to_triedPair tf_seatOf tf_one tf_other tf_kind tf_years tf_sawn bd_unsurePair bd_unsureYears bd_triedPair bf_seatOf bf_one bf_other bf_kind bf_years bf_sawn nw_seatOf nw_one nw_other nw_kind nw_years nw_sawn sc_seatOf sc_handle sc_both sc_slopOf sl_bits se_bestRow se_row se_pairAt se_hope se_hopeAt se_slopAt se_farBits se_gain se_worth ch_both ch_cost ch_bit cl_bits fi_sets ps_act ps_whom ps_amount i0_seatOf i0_one i0_other i0_kind i0_years i0_sawn i1_seatOf i1_one i1_other i1_kind i1_years i1_sawn i2_seatOf i2_one i2_other i2_kind i2_years i2_sawn : Nat → Int32} {rd_word : Int64} {o : Int32} (C : xC p s m args meth c cX10_stable 3 RX10 E A (some .int)) (J : ∀ (H : Heap) (locs : List Loc) (ls : Array Slot), xG s E A (wX E ad x_imageCount x_lastTrouble x_lastFault x_lastPlace pa_names pa_faultNumber pa_faultPlace rd_tape rd_length rd_end rd_next rd_sort rd_start rd_value rd_word to_unsurePair to_unsureYears to_triedPair to_seats to_slack to_sawInches to_quarrelChance to_people to_forkBits to_unsure to_tried to_triedFedBits tf_seatOf tf_one tf_other tf_kind tf_years tf_sawn tf_pairs tf_gone bd_unsurePair bd_unsureYears bd_triedPair bd_seats bd_slack bd_sawInches bd_quarrelChance bd_people bd_forkBits bd_unsure bd_tried bd_triedFedBits bf_seatOf bf_one bf_other bf_kind bf_years bf_sawn bf_pairs bf_gone nw_seatOf nw_one nw_other nw_kind nw_years nw_sawn nw_pairs nw_gone sc_seatOf sc_handle sc_both sc_slopOf sc_forkBits sc_canBits sc_bestBits sc_bestSlops sl_bits sl_count se_bestRow se_row se_pairAt se_hope se_hopeAt se_slopAt se_farBits se_gain se_worth se_bestWorth se_fresh ch_both ch_cost ch_bit ch_items ch_leastCost ch_leastBits cl_bits cl_count fi_sets fi_count ps_act ps_whom ps_amount ps_next ps_count i0_seatOf i0_one i0_other i0_kind i0_years i0_sawn i0_pairs i0_gone i1_seatOf i1_one i1_other i1_kind i1_years i1_sawn i1_pairs i1_gone i2_seatOf i2_one i2_other i2_kind i2_years i2_sawn i2_pairs i2_gone) H locs → lv_has ls 3 [(1, .int o)] → W p l e (xR 6 135) s m args below meth c H locs 0 0 Q (F0 m 62 ls [])) :
    ∀ (n : Nat) (l1 : Int32) (l2 : Int32) (H : Heap) (locs : List Loc) (ls : Array Slot), xG s E A (wX E ad x_imageCount x_lastTrouble x_lastFault x_lastPlace pa_names pa_faultNumber pa_faultPlace rd_tape rd_length rd_end rd_next rd_sort rd_start rd_value rd_word to_unsurePair to_unsureYears to_triedPair to_seats to_slack to_sawInches to_quarrelChance to_people to_forkBits to_unsure to_tried to_triedFedBits tf_seatOf tf_one tf_other tf_kind tf_years tf_sawn tf_pairs tf_gone bd_unsurePair bd_unsureYears bd_triedPair bd_seats bd_slack bd_sawInches bd_quarrelChance bd_people bd_forkBits bd_unsure bd_tried bd_triedFedBits bf_seatOf bf_one bf_other bf_kind bf_years bf_sawn bf_pairs bf_gone nw_seatOf nw_one nw_other nw_kind nw_years nw_sawn nw_pairs nw_gone sc_seatOf sc_handle sc_both sc_slopOf sc_forkBits sc_canBits sc_bestBits sc_bestSlops sl_bits sl_count se_bestRow se_row se_pairAt se_hope se_hopeAt se_slopAt se_farBits se_gain se_worth se_bestWorth se_fresh ch_both ch_cost ch_bit ch_items ch_leastCost ch_leastBits cl_bits cl_count fi_sets fi_count ps_act ps_whom ps_amount ps_next ps_count i0_seatOf i0_one i0_other i0_kind i0_years i0_sawn i0_pairs i0_gone i1_seatOf i1_one i1_other i1_kind i1_years i1_sawn i1_pairs i1_gone i2_seatOf i2_one i2_other i2_kind i2_years i2_sawn i2_pairs i2_gone) H locs → lv_has ls 3 [(0, .ref (ad 0)), (1, .int l1), (2, .int l2)] → f_X_stable_L17 nw_one nw_other nw_pairs sc_handle sc_canBits sl_bits sl_count n l1 l2 = some o → W p l e (xR 6 135) s m args below meth c H locs 0 0 Q (F0 m 17 ls []) := by
  have hx := C.1
  have hb := C.2.1
  intro n
  induction n with
  | zero =>
    intro l1 l2 H locs ls G hl hf
    exact nomatch (show (none : Option (Int32)) = some o from hf)
  | succ n ih =>
    intro l1 l2 H locs ls G hl hf
    rw [f_X_stable_L17] at hf
    refine lv_iload_n hx hb dX10_stable_17 rfl (lv_at hl 2 rfl) ?_
    refine lv_aload_n hx hb dX10_stable_18 rfl (lv_at hl 0 rfl) ?_
    refine x_get C G fX10_35 (wX_at0) rfl dX10_stable_19 ?_
    refine x_get C G fX10_209 (wX_at35) rfl dX10_stable_22 ?_
    refine x_get C G fX10_213.g (wX_at40) rfl dX10_stable_25 ?_
    refine lv_icmp_ge (tgt := 62) hx hb dX10_stable_28 (by decide) (fun h => ?_) (fun h => ?_)
    · have hf := it_t h hf
      obtain rfl := Option.some.inj hf
      exact J _ _ _ G (lv_sub hl [1] rfl)
    · have hf := it_f h hf
      refine lv_aload_n hx hb dX10_stable_31 rfl (lv_at hl 0 rfl) ?_
      refine x_get C G fX10_35 (wX_at0) rfl dX10_stable_32 ?_
      refine lv_aload_n hx hb dX10_stable_35 rfl (lv_at hl 0 rfl) ?_
      refine x_get C G fX10_35 (wX_at0) rfl dX10_stable_36 ?_
      refine x_get C G fX10_209 (wX_at35) rfl dX10_stable_39 ?_
      refine x_get C G fX10_276 (wX_at40) rfl dX10_stable_42 ?_
      refine lv_iload_n hx hb dX10_stable_45 rfl (lv_at hl 2 rfl) ?_
      have hi := ck_in hf
      have hf := ck_go hf
      refine x_iald C G (wX_at41) hi dX10_stable_46 ?_
      obtain ⟨x3, hc, hf⟩ := bd_go hf
      refine xI_V C G (c_Scene_noneLeaves_sc hc) mX8_noneLeaves kX10_279 (wX_at35) rfl ⟨Nat.le_of_ble_eq_true rfl, Nat.le_of_ble_eq_true rfl⟩ rfl hl.1 rfl (Nat.le_of_ble_eq_true rfl) ⟨Nat.le_refl _, Nat.le_refl _⟩ dX10_stable_47 (fun hz3 H locs G => ?_)
      refine lv_if_eq (tgt := 56) hx hb dX10_stable_50 (by decide) (fun h => ?_) (fun h => ?_)
      · have hf := it_t h hf
        obtain ⟨x4, ex4⟩ : ∃ z : Int32, z = l2 + (1 : Int32) := ⟨_, rfl⟩
        have hf := lt_go ex4 hf
        refine lv_iinc (v := x4) (lv' := [(2, .int x4), (0, .ref (ad 0)), (1, .int l1)]) hx hb dX10_stable_56 hl (k := 2) rfl (by rw [ex4]; rfl) (by decide) rfl (fun ls hl => ?_)
        refine lv_goto (tgt := 17) hx hb dX10_stable_59 (by decide) ?_
        exact ih l1 x4 _ _ _ G (lv_sub hl [1, 2, 0] rfl) hf
      · have hf := it_f h hf
        obtain ⟨x5, ex5⟩ : ∃ z : Int32, z = l1 + (1 : Int32) := ⟨_, rfl⟩
        have hf := lt_go ex5 hf
        refine lv_iinc (v := x5) (lv' := [(1, .int x5), (0, .ref (ad 0)), (2, .int l2)]) hx hb dX10_stable_53 hl (k := 1) rfl (by rw [ex5]; rfl) (by decide) rfl (fun ls hl => ?_)
        obtain ⟨x6, ex6⟩ : ∃ z : Int32, z = l2 + (1 : Int32) := ⟨_, rfl⟩
        have hf := lt_go ex6 hf
        refine lv_iinc (v := x6) (lv' := [(2, .int x6), (1, .int x5), (0, .ref (ad 0))]) hx hb dX10_stable_56 hl (k := 2) rfl (by rw [ex6]; rfl) (by decide) rfl (fun ls hl => ?_)
        refine lv_goto (tgt := 17) hx hb dX10_stable_59 (by decide) ?_
        exact ih x5 x6 _ _ _ G (lv_sub hl [2, 1, 0] rfl) hf
set_option maxHeartbeats 4000000 in
set_option maxRecDepth 100000 in
theorem c_X_stable_x {l : Launch} {E : xE} {ad : Nat → Nat} {x_imageCount x_lastTrouble x_lastFault x_lastPlace pa_faultNumber pa_faultPlace rd_length rd_end rd_next rd_sort rd_start rd_value to_seats to_slack to_sawInches to_quarrelChance to_people to_forkBits to_unsure to_tried to_triedFedBits tf_pairs tf_gone bd_seats bd_slack bd_sawInches bd_quarrelChance bd_people bd_forkBits bd_unsure bd_tried bd_triedFedBits bf_pairs bf_gone nw_pairs nw_gone sc_forkBits sc_canBits sc_bestBits sc_bestSlops sl_count se_bestWorth se_fresh ch_items ch_leastCost ch_leastBits cl_count fi_count ps_next ps_count i0_pairs i0_gone i1_pairs i1_gone i2_pairs i2_gone : Int32} {pa_names : Nat → Int64} {rd_tape to_unsurePair to_unsureYears to_triedPair tf_seatOf tf_one tf_other tf_kind tf_years tf_sawn bd_unsurePair bd_unsureYears bd_triedPair bf_seatOf bf_one bf_other bf_kind bf_years bf_sawn nw_seatOf nw_one nw_other nw_kind nw_years nw_sawn sc_seatOf sc_handle sc_both sc_slopOf sl_bits se_bestRow se_row se_pairAt se_hope se_hopeAt se_slopAt se_farBits se_gain se_worth ch_both ch_cost ch_bit cl_bits fi_sets ps_act ps_whom ps_amount i0_seatOf i0_one i0_other i0_kind i0_years i0_sawn i1_seatOf i1_one i1_other i1_kind i1_years i1_sawn i2_seatOf i2_one i2_other i2_kind i2_years i2_sawn : Nat → Int32} {rd_word : Int64} {R0 : Int32 × Int32 × (Nat → Int32) × (Nat → Int32) × (Nat → Int32) × (Nat → Int32) × Int32 × Int32 × Int32 × Int32 × (Nat → Int32) × Int32} (hf : f_X_stable bd_slack bd_people bd_forkBits nw_seatOf nw_one nw_other nw_kind nw_years nw_sawn nw_pairs sc_seatOf sc_handle sc_both sc_slopOf sc_forkBits sc_canBits sc_bestBits sc_bestSlops sl_bits sl_count = some R0) : xI l E yX10_stable cX10_stable 3 (some .int) 6 135 [.ref (ad 0)] (wX E ad x_imageCount x_lastTrouble x_lastFault x_lastPlace pa_names pa_faultNumber pa_faultPlace rd_tape rd_length rd_end rd_next rd_sort rd_start rd_value rd_word to_unsurePair to_unsureYears to_triedPair to_seats to_slack to_sawInches to_quarrelChance to_people to_forkBits to_unsure to_tried to_triedFedBits tf_seatOf tf_one tf_other tf_kind tf_years tf_sawn tf_pairs tf_gone bd_unsurePair bd_unsureYears bd_triedPair bd_seats bd_slack bd_sawInches bd_quarrelChance bd_people bd_forkBits bd_unsure bd_tried bd_triedFedBits bf_seatOf bf_one bf_other bf_kind bf_years bf_sawn bf_pairs bf_gone nw_seatOf nw_one nw_other nw_kind nw_years nw_sawn nw_pairs nw_gone sc_seatOf sc_handle sc_both sc_slopOf sc_forkBits sc_canBits sc_bestBits sc_bestSlops sl_bits sl_count se_bestRow se_row se_pairAt se_hope se_hopeAt se_slopAt se_farBits se_gain se_worth se_bestWorth se_fresh ch_both ch_cost ch_bit ch_items ch_leastCost ch_leastBits cl_bits cl_count fi_sets fi_count ps_act ps_whom ps_amount ps_next ps_count i0_seatOf i0_one i0_other i0_kind i0_years i0_sawn i0_pairs i0_gone i1_seatOf i1_one i1_other i1_kind i1_years i1_sawn i1_pairs i1_gone i2_seatOf i2_one i2_other i2_kind i2_years i2_sawn i2_pairs i2_gone) (wX E ad x_imageCount R0.2.1 x_lastFault x_lastPlace pa_names pa_faultNumber pa_faultPlace rd_tape rd_length rd_end rd_next rd_sort rd_start rd_value rd_word to_unsurePair to_unsureYears to_triedPair to_seats to_slack to_sawInches to_quarrelChance to_people to_forkBits to_unsure to_tried to_triedFedBits tf_seatOf tf_one tf_other tf_kind tf_years tf_sawn tf_pairs tf_gone bd_unsurePair bd_unsureYears bd_triedPair bd_seats bd_slack bd_sawInches bd_quarrelChance bd_people bd_forkBits bd_unsure bd_tried bd_triedFedBits bf_seatOf bf_one bf_other bf_kind bf_years bf_sawn bf_pairs bf_gone nw_seatOf nw_one nw_other nw_kind nw_years nw_sawn nw_pairs nw_gone R0.2.2.1 R0.2.2.2.1 R0.2.2.2.2.1 R0.2.2.2.2.2.1 R0.2.2.2.2.2.2.1 R0.2.2.2.2.2.2.2.1 R0.2.2.2.2.2.2.2.2.1 R0.2.2.2.2.2.2.2.2.2.1 R0.2.2.2.2.2.2.2.2.2.2.1 R0.2.2.2.2.2.2.2.2.2.2.2 se_bestRow se_row se_pairAt se_hope se_hopeAt se_slopAt se_farBits se_gain se_worth se_bestWorth se_fresh ch_both ch_cost ch_bit ch_items ch_leastCost ch_leastBits cl_bits cl_count fi_sets fi_count ps_act ps_whom ps_amount ps_next ps_count i0_seatOf i0_one i0_other i0_kind i0_years i0_sawn i0_pairs i0_gone i1_seatOf i1_one i1_other i1_kind i1_years i1_sawn i1_pairs i1_gone i2_seatOf i2_one i2_other i2_kind i2_years i2_sawn i2_pairs i2_gone) R0.1 := by
  refine xI_of (by decide) (Nat.le_of_ble_eq_true rfl) (fun p e s m args below meth c A C ls hl G => ?_)
  have hx := C.1
  have hb := C.2.1
  have hl : lv_has ls 3 [(0, .ref (ad 0))] := hl
  unfold f_X_stable at hf
  refine lv_aload_n hx hb dX10_stable_0 rfl (lv_at hl 0 rfl) ?_
  obtain ⟨x1, hc, hf⟩ := bd_go hf
  refine xI_V C G (c_X_noTable_x hc) mX10_noTable kX10_187 (wX_at0) rfl ⟨Nat.le_of_ble_eq_true rfl, Nat.le_of_ble_eq_true rfl⟩ rfl hl.1 rfl (Nat.le_of_ble_eq_true rfl) ⟨Nat.le_refl _, Nat.le_refl _⟩ dX10_stable_1 (fun hz1 H locs G => ?_)
  refine lv_if_eq (tgt := 9) hx hb dX10_stable_4 (by decide) (fun h => ?_) (fun h => ?_)
  · have hf := it_t h hf
    refine lv_aload_n hx hb dX10_stable_9 rfl (lv_at hl 0 rfl) ?_
    obtain ⟨x2, hc, hf⟩ := bd_go hf
    refine xV_V C G (c_X_settleNow_x hc) mX10_settleNow kX10_194 (wX_at0) rfl ⟨Nat.le_of_ble_eq_true rfl, Nat.le_of_ble_eq_true rfl⟩ rfl hl.1 rfl (Nat.le_of_ble_eq_true rfl) ⟨Nat.le_refl _, Nat.le_refl _⟩ dX10_stable_10 (fun H locs G => ?_)
    refine lv_iconst (v := 0) hx hb dX10_stable_13 (by decide) ?_
    refine lv_istore_n (lv' := [(1, .int (0 : Int32)), (0, .ref (ad 0))]) hx hb dX10_stable_14 rfl hl (by decide) rfl (fun ls hl => ?_)
    refine lv_iconst (v := 0) hx hb dX10_stable_15 (by decide) ?_
    refine lv_istore_n (lv' := [(2, .int (0 : Int32)), (1, .int (0 : Int32)), (0, .ref (ad 0))]) hx hb dX10_stable_16 rfl hl (by decide) rfl (fun ls hl => ?_)
    obtain ⟨x7, hr, hf⟩ := bd_go hf
    have Jx7 : ∀ (H : Heap) (locs : List Loc) (ls : Array Slot), xG s E A (wX E ad x_imageCount x1.2 x_lastFault x_lastPlace pa_names pa_faultNumber pa_faultPlace rd_tape rd_length rd_end rd_next rd_sort rd_start rd_value rd_word to_unsurePair to_unsureYears to_triedPair to_seats to_slack to_sawInches to_quarrelChance to_people to_forkBits to_unsure to_tried to_triedFedBits tf_seatOf tf_one tf_other tf_kind tf_years tf_sawn tf_pairs tf_gone bd_unsurePair bd_unsureYears bd_triedPair bd_seats bd_slack bd_sawInches bd_quarrelChance bd_people bd_forkBits bd_unsure bd_tried bd_triedFedBits bf_seatOf bf_one bf_other bf_kind bf_years bf_sawn bf_pairs bf_gone nw_seatOf nw_one nw_other nw_kind nw_years nw_sawn nw_pairs nw_gone x2.1 x2.2.1 x2.2.2.1 x2.2.2.2.1 x2.2.2.2.2.1 x2.2.2.2.2.2.1 x2.2.2.2.2.2.2.1 x2.2.2.2.2.2.2.2.1 x2.2.2.2.2.2.2.2.2.1 x2.2.2.2.2.2.2.2.2.2 se_bestRow se_row se_pairAt se_hope se_hopeAt se_slopAt se_farBits se_gain se_worth se_bestWorth se_fresh ch_both ch_cost ch_bit ch_items ch_leastCost ch_leastBits cl_bits cl_count fi_sets fi_count ps_act ps_whom ps_amount ps_next ps_count i0_seatOf i0_one i0_other i0_kind i0_years i0_sawn i0_pairs i0_gone i1_seatOf i1_one i1_other i1_kind i1_years i1_sawn i1_pairs i1_gone i2_seatOf i2_one i2_other i2_kind i2_years i2_sawn i2_pairs i2_gone) H locs → lv_has ls 3 [(1, .int x7)] → W p l e (xR 6 135) s m args below meth c H locs 0 0 (MQ below (xqI E A (wX E ad x_imageCount R0.2.1 x_lastFault x_lastPlace pa_names pa_faultNumber pa_faultPlace rd_tape rd_length rd_end rd_next rd_sort rd_start rd_value rd_word to_unsurePair to_unsureYears to_triedPair to_seats to_slack to_sawInches to_quarrelChance to_people to_forkBits to_unsure to_tried to_triedFedBits tf_seatOf tf_one tf_other tf_kind tf_years tf_sawn tf_pairs tf_gone bd_unsurePair bd_unsureYears bd_triedPair bd_seats bd_slack bd_sawInches bd_quarrelChance bd_people bd_forkBits bd_unsure bd_tried bd_triedFedBits bf_seatOf bf_one bf_other bf_kind bf_years bf_sawn bf_pairs bf_gone nw_seatOf nw_one nw_other nw_kind nw_years nw_sawn nw_pairs nw_gone R0.2.2.1 R0.2.2.2.1 R0.2.2.2.2.1 R0.2.2.2.2.2.1 R0.2.2.2.2.2.2.1 R0.2.2.2.2.2.2.2.1 R0.2.2.2.2.2.2.2.2.1 R0.2.2.2.2.2.2.2.2.2.1 R0.2.2.2.2.2.2.2.2.2.2.1 R0.2.2.2.2.2.2.2.2.2.2.2 se_bestRow se_row se_pairAt se_hope se_hopeAt se_slopAt se_farBits se_gain se_worth se_bestWorth se_fresh ch_both ch_cost ch_bit ch_items ch_leastCost ch_leastBits cl_bits cl_count fi_sets fi_count ps_act ps_whom ps_amount ps_next ps_count i0_seatOf i0_one i0_other i0_kind i0_years i0_sawn i0_pairs i0_gone i1_seatOf i1_one i1_other i1_kind i1_years i1_sawn i1_pairs i1_gone i2_seatOf i2_one i2_other i2_kind i2_years i2_sawn i2_pairs i2_gone) (some .int) R0.1) args s 0 0 A) (F0 m 62 ls []) := by
      intro H locs ls G hl
      refine lv_iload_n hx hb dX10_stable_62 rfl (lv_at hl 0 rfl) ?_
      obtain rfl := Option.some.inj hf
      exact xI_ret C G rfl dX10_stable_63
    exact w_X_stable_x_L17 C Jx7 fu _ _ _ _ _ G (lv_sub hl [2, 1, 0] rfl) hr
  · have hf := it_f h hf
    refine lv_iconst (v := -1) hx hb dX10_stable_7 (by decide) ?_
    obtain rfl := Option.some.inj hf
    exact xI_ret C G rfl dX10_stable_8
