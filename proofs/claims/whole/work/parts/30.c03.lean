set_option maxHeartbeats 4000000 in
set_option maxRecDepth 100000 in
theorem c_M_feedsOften_m_N {l : Launch} {E : xE} {ad : Nat → Nat} {m_thrown m_trouble m_where m_taped m_size m_spot m_sort m_place m_number m_fault m_wrongAt m_acts m_images m_matchNow m_slopsNow m_matchesNow m_fedBest m_slopsBest m_sawBest m_leastNow m_stableNow m_fitsNow m_someNow m_everyNow m_askLeft : Int32} {m_rv : Value} {m_tape m_v m_x m_past m_kept m_slopped m_seatBest m_otherIn : Nat → Int32} {m_word : Int64} {l1 : Int32} {R0 : Int32 × Int32 × Int32 × Int32} (hf : f_M_feedsOften_N l1 = some R0) : xI l E yX12_feedsOften cX12_feedsOften 4 (some .int) 1 21 [.ref (ad 0), .int l1] (wN E ad m_thrown m_trouble m_where m_rv m_tape m_taped m_size m_spot m_sort m_place m_number m_fault m_wrongAt m_word m_v m_x m_past m_kept m_acts m_images m_matchNow m_slopsNow m_matchesNow m_slopped m_seatBest m_fedBest m_slopsBest m_sawBest m_leastNow m_stableNow m_fitsNow m_someNow m_everyNow m_otherIn m_askLeft) (wN E ad R0.2.1 R0.2.2.1 R0.2.2.2 m_rv m_tape m_taped m_size m_spot m_sort m_place m_number m_fault m_wrongAt m_word m_v m_x m_past m_kept m_acts m_images m_matchNow m_slopsNow m_matchesNow m_slopped m_seatBest m_fedBest m_slopsBest m_sawBest m_leastNow m_stableNow m_fitsNow m_someNow m_everyNow m_otherIn m_askLeft) R0.1 := by
  refine xI_of (by decide) (Nat.le_of_ble_eq_true rfl) (fun p e s m args below meth c A C ls hl G => ?_)
  have hx := C.1
  have hb := C.2.1
  have hl : lv_has ls 4 [(0, .ref (ad 0)), (1, .int l1)] := hl
  unfold f_M_feedsOften_N at hf
  refine lv_aload_n hx hb dX12_feedsOften_0 rfl (lv_at hl 0 rfl) ?_
  refine lv_iconst (v := 0) hx hb dX12_feedsOften_1 (by decide) ?_
  refine x_put (ws' := (wN E ad (0 : Int32) m_trouble m_where m_rv m_tape m_taped m_size m_spot m_sort m_place m_number m_fault m_wrongAt m_word m_v m_x m_past m_kept m_acts m_images m_matchNow m_slopsNow m_matchesNow m_slopped m_seatBest m_fedBest m_slopsBest m_sawBest m_leastNow m_stableNow m_fitsNow m_someNow m_everyNow m_otherIn m_askLeft)) C G fX12_39 (wN_at0) rfl rfl (Nat.le_of_ble_eq_true rfl) wN_set_m_thrown dX12_feedsOften_2 (fun H locs G => ?_)
  refine lv_aload_n hx hb dX12_feedsOften_5 rfl (lv_at hl 0 rfl) ?_
  refine lv_iload_n hx hb dX12_feedsOften_6 rfl (lv_at hl 1 rfl) ?_
  obtain ⟨x1, hc, hf⟩ := bd_go hf
  refine xI_V C G (c_M_isPair_m_N hc) mX12_isPair kX12_330 (wN_at0) rfl ⟨Nat.le_of_ble_eq_true rfl, Nat.le_of_ble_eq_true rfl⟩ rfl hl.1 rfl (Nat.le_of_ble_eq_true rfl) ⟨Nat.le_refl _, Nat.le_refl _⟩ dX12_feedsOften_7 (fun hz1 H locs G => ?_)
  refine lv_if_ne (tgt := 19) hx hb dX12_feedsOften_10 (by decide) (fun h => ?_) (fun h => ?_)
  · have hf := it_f h hf
    refine lv_iconst (v := 0) hx hb dX12_feedsOften_19 (by decide) ?_
    refine lv_istore_n (lv' := [(2, .int (0 : Int32)), (0, .ref (ad 0)), (1, .int l1)]) hx hb dX12_feedsOften_20 rfl hl (by decide) rfl (fun ls hl => ?_)
    refine lv_iconst (v := 0) hx hb dX12_feedsOften_21 (by decide) ?_
    refine lv_istore_n (lv' := [(3, .int (0 : Int32)), (2, .int (0 : Int32)), (0, .ref (ad 0)), (1, .int l1)]) hx hb dX12_feedsOften_22 rfl hl (by decide) rfl (fun ls hl => ?_)
    refine lv_iload_n hx hb dX12_feedsOften_23 rfl (lv_at hl 0 rfl) ?_
    refine lv_bipush (v := 60) hx hb dX12_feedsOften_24 (by decide) ?_
    refine lv_icmp_gt (tgt := 56) hx hb dX12_feedsOften_26 (by decide) (fun h => ?_) (fun h => ?_)
    · have hf := it_t h hf
      refine lv_aload_n hx hb dX12_feedsOften_56 rfl (lv_at hl 2 rfl) ?_
      refine lv_iload_n hx hb dX12_feedsOften_57 rfl (lv_at hl 1 rfl) ?_
      obtain ⟨x2, hc, hf⟩ := bd_go hf
      refine xI_V C G (c_M_good_m_N hc) mX12_good kX12_49 (wN_at0) rfl ⟨Nat.le_of_ble_eq_true rfl, Nat.le_of_ble_eq_true rfl⟩ rfl hl.1 rfl (Nat.le_of_ble_eq_true rfl) ⟨Nat.le_refl _, Nat.le_refl _⟩ dX12_feedsOften_58 (fun hz H locs G => ?_)
      obtain rfl := Option.some.inj hf
      exact xI_ret C G rfl dX12_feedsOften_61
    · have hf := it_f h hf
      refine lv_aload_n hx hb dX12_feedsOften_29 rfl (lv_at hl 2 rfl) ?_
      refine lv_iload_n hx hb dX12_feedsOften_30 rfl (lv_at hl 0 rfl) ?_
      exact nomatch hf
  · have hf := it_t h hf
    refine lv_aload_n hx hb dX12_feedsOften_13 rfl (lv_at hl 0 rfl) ?_
    refine lv_iconst (v := 1) hx hb dX12_feedsOften_14 (by decide) ?_
    obtain ⟨x3, hc, hf⟩ := bd_go hf
    refine xI_V C G (c_M_refused_m_N hc) mX12_refused kX12_45 (wN_at0) rfl ⟨Nat.le_of_ble_eq_true rfl, Nat.le_of_ble_eq_true rfl⟩ rfl hl.1 rfl (Nat.le_of_ble_eq_true rfl) ⟨Nat.le_refl _, Nat.le_refl _⟩ dX12_feedsOften_15 (fun hz H locs G => ?_)
    obtain rfl := Option.some.inj hf
    exact xI_ret C G rfl dX12_feedsOften_18
set_option maxHeartbeats 4000000 in
set_option maxRecDepth 100000 in
theorem c_M_fedIn_m_N {l : Launch} {E : xE} {ad : Nat → Nat} {m_thrown m_trouble m_where m_taped m_size m_spot m_sort m_place m_number m_fault m_wrongAt m_acts m_images m_matchNow m_slopsNow m_matchesNow m_fedBest m_slopsBest m_sawBest m_leastNow m_stableNow m_fitsNow m_someNow m_everyNow m_askLeft : Int32} {m_rv : Value} {m_tape m_v m_x m_past m_kept m_slopped m_seatBest m_otherIn : Nat → Int32} {m_word : Int64} {l1 : Int32} {R0 : Int32 × Int32 × Int32 × Int32} (hf : f_M_fedIn_N l1 = some R0) : xI l E yX12_fedIn cX12_fedIn 3 (some .int) 2 44 [.ref (ad 0), .int l1] (wN E ad m_thrown m_trouble m_where m_rv m_tape m_taped m_size m_spot m_sort m_place m_number m_fault m_wrongAt m_word m_v m_x m_past m_kept m_acts m_images m_matchNow m_slopsNow m_matchesNow m_slopped m_seatBest m_fedBest m_slopsBest m_sawBest m_leastNow m_stableNow m_fitsNow m_someNow m_everyNow m_otherIn m_askLeft) (wN E ad R0.2.1 R0.2.2.1 R0.2.2.2 m_rv m_tape m_taped m_size m_spot m_sort m_place m_number m_fault m_wrongAt m_word m_v m_x m_past m_kept m_acts m_images m_matchNow m_slopsNow m_matchesNow m_slopped m_seatBest m_fedBest m_slopsBest m_sawBest m_leastNow m_stableNow m_fitsNow m_someNow m_everyNow m_otherIn m_askLeft) R0.1 := by
  refine xI_of (by decide) (Nat.le_of_ble_eq_true rfl) (fun p e s m args below meth c A C ls hl G => ?_)
  have hx := C.1
  have hb := C.2.1
  have hl : lv_has ls 3 [(0, .ref (ad 0)), (1, .int l1)] := hl
  unfold f_M_fedIn_N at hf
  refine lv_aload_n hx hb dX12_fedIn_0 rfl (lv_at hl 0 rfl) ?_
  refine lv_iconst (v := 0) hx hb dX12_fedIn_1 (by decide) ?_
  refine x_put (ws' := (wN E ad (0 : Int32) m_trouble m_where m_rv m_tape m_taped m_size m_spot m_sort m_place m_number m_fault m_wrongAt m_word m_v m_x m_past m_kept m_acts m_images m_matchNow m_slopsNow m_matchesNow m_slopped m_seatBest m_fedBest m_slopsBest m_sawBest m_leastNow m_stableNow m_fitsNow m_someNow m_everyNow m_otherIn m_askLeft)) C G fX12_39 (wN_at0) rfl rfl (Nat.le_of_ble_eq_true rfl) wN_set_m_thrown dX12_fedIn_2 (fun H locs G => ?_)
  refine lv_aload_n hx hb dX12_fedIn_5 rfl (lv_at hl 0 rfl) ?_
  refine lv_aload_n hx hb dX12_fedIn_6 rfl (lv_at hl 0 rfl) ?_
  refine x_get C G fX12_298.g (wN_at0) rfl dX12_fedIn_7 ?_
  refine lv_ifnullN (tgt := 17) hx hb dX12_fedIn_10 (by decide) ?_
  refine lv_iconst (v := 0) hx hb dX12_fedIn_17 (by decide) ?_
  refine lv_iload_n hx hb dX12_fedIn_18 rfl (lv_at hl 1 rfl) ?_
  obtain ⟨x1, hc, hf⟩ := bd_go hf
  refine xI_V C G (c_M_refusesYears_m_N hc) mX12_refusesYears kX12_372 (wN_at0) rfl ⟨Nat.le_of_ble_eq_true rfl, Nat.le_of_ble_eq_true rfl⟩ rfl hl.1 rfl (Nat.le_of_ble_eq_true rfl) ⟨Nat.le_refl _, Nat.le_refl _⟩ dX12_fedIn_19 (fun hz H locs G => ?_)
  refine lv_istore_n (lv' := [(2, .int x1), (0, .ref (ad 0)), (1, .int l1)]) hx hb dX12_fedIn_22 rfl hl (by decide) rfl (fun ls hl => ?_)
  refine lv_iload_n hx hb dX12_fedIn_23 rfl (lv_at hl 0 rfl) ?_
  refine lv_if_le (tgt := 33) hx hb dX12_fedIn_24 (by decide) (fun h => ?_) (fun h => ?_)
  · have hf := it_t h hf
    refine lv_aload_n hx hb dX12_fedIn_33 rfl (lv_at hl 1 rfl) ?_
    refine lv_iload_n hx hb dX12_fedIn_34 rfl (lv_at hl 2 rfl) ?_
    exact nomatch hf
  · have hf := it_f h hf
    refine lv_aload_n hx hb dX12_fedIn_27 rfl (lv_at hl 1 rfl) ?_
    refine lv_iload_n hx hb dX12_fedIn_28 rfl (lv_at hl 0 rfl) ?_
    obtain ⟨x2, hc, hf⟩ := bd_go hf
    refine xI_V C G (c_M_refused_m_N hc) mX12_refused kX12_45 (wN_at0) rfl ⟨Nat.le_of_ble_eq_true rfl, Nat.le_of_ble_eq_true rfl⟩ rfl hl.1 rfl (Nat.le_of_ble_eq_true rfl) ⟨Nat.le_refl _, Nat.le_refl _⟩ dX12_fedIn_29 (fun hz H locs G => ?_)
    obtain rfl := Option.some.inj hf
    exact xI_ret C G rfl dX12_fedIn_32
set_option maxHeartbeats 4000000 in
set_option maxRecDepth 100000 in
theorem c_M_bestYear_m_N {l : Launch} {E : xE} {ad : Nat → Nat} {m_thrown m_trouble m_where m_taped m_size m_spot m_sort m_place m_number m_fault m_wrongAt m_acts m_images m_matchNow m_slopsNow m_matchesNow m_fedBest m_slopsBest m_sawBest m_leastNow m_stableNow m_fitsNow m_someNow m_everyNow m_askLeft : Int32} {m_rv : Value} {m_tape m_v m_x m_past m_kept m_slopped m_seatBest m_otherIn : Nat → Int32} {m_word : Int64} {R0 : Int32 × Int32 × Int32 × Int32} (hf : f_M_bestYear_N = some R0) : xI l E yX12_bestYear cX12_bestYear 5 (some .int) 1 21 [.ref (ad 0)] (wN E ad m_thrown m_trouble m_where m_rv m_tape m_taped m_size m_spot m_sort m_place m_number m_fault m_wrongAt m_word m_v m_x m_past m_kept m_acts m_images m_matchNow m_slopsNow m_matchesNow m_slopped m_seatBest m_fedBest m_slopsBest m_sawBest m_leastNow m_stableNow m_fitsNow m_someNow m_everyNow m_otherIn m_askLeft) (wN E ad R0.2.1 R0.2.2.1 R0.2.2.2 m_rv m_tape m_taped m_size m_spot m_sort m_place m_number m_fault m_wrongAt m_word m_v m_x m_past m_kept m_acts m_images m_matchNow m_slopsNow m_matchesNow m_slopped m_seatBest m_fedBest m_slopsBest m_sawBest m_leastNow m_stableNow m_fitsNow m_someNow m_everyNow m_otherIn m_askLeft) R0.1 := by
  refine xI_of (by decide) (Nat.le_of_ble_eq_true rfl) (fun p e s m args below meth c A C ls hl G => ?_)
  have hx := C.1
  have hb := C.2.1
  have hl : lv_has ls 5 [(0, .ref (ad 0))] := hl
  unfold f_M_bestYear_N at hf
  refine lv_aload_n hx hb dX12_bestYear_0 rfl (lv_at hl 0 rfl) ?_
  refine lv_iconst (v := 0) hx hb dX12_bestYear_1 (by decide) ?_
  refine x_put (ws' := (wN E ad (0 : Int32) m_trouble m_where m_rv m_tape m_taped m_size m_spot m_sort m_place m_number m_fault m_wrongAt m_word m_v m_x m_past m_kept m_acts m_images m_matchNow m_slopsNow m_matchesNow m_slopped m_seatBest m_fedBest m_slopsBest m_sawBest m_leastNow m_stableNow m_fitsNow m_someNow m_everyNow m_otherIn m_askLeft)) C G fX12_39 (wN_at0) rfl rfl (Nat.le_of_ble_eq_true rfl) wN_set_m_thrown dX12_bestYear_2 (fun H locs G => ?_)
  refine lv_aload_n hx hb dX12_bestYear_5 rfl (lv_at hl 0 rfl) ?_
  refine x_get C G fX12_298.g (wN_at0) rfl dX12_bestYear_6 ?_
  refine lv_ifnonnullN hx hb dX12_bestYear_9 ?_
  refine lv_aload_n hx hb dX12_bestYear_12 rfl (lv_at hl 0 rfl) ?_
  refine lv_iconst (v := 1) hx hb dX12_bestYear_13 (by decide) ?_
  obtain ⟨x1, hc, hf⟩ := bd_go hf
  refine xI_V C G (c_M_refused_m_N hc) mX12_refused kX12_45 (wN_at0) rfl ⟨Nat.le_of_ble_eq_true rfl, Nat.le_of_ble_eq_true rfl⟩ rfl hl.1 rfl (Nat.le_of_ble_eq_true rfl) ⟨Nat.le_refl _, Nat.le_refl _⟩ dX12_bestYear_14 (fun hz H locs G => ?_)
  obtain rfl := Option.some.inj hf
  exact xI_ret C G rfl dX12_bestYear_17
set_option maxHeartbeats 4000000 in
set_option maxRecDepth 100000 in
theorem c_M_allIn_m_N {l : Launch} {E : xE} {ad : Nat → Nat} {m_thrown m_trouble m_where m_taped m_size m_spot m_sort m_place m_number m_fault m_wrongAt m_acts m_images m_matchNow m_slopsNow m_matchesNow m_fedBest m_slopsBest m_sawBest m_leastNow m_stableNow m_fitsNow m_someNow m_everyNow m_askLeft : Int32} {m_rv : Value} {m_tape m_v m_x m_past m_kept m_slopped m_seatBest m_otherIn : Nat → Int32} {m_word : Int64} {R0 : Int32 × Int32 × Int32 × Int32} (hf : f_M_allIn_N = some R0) : xI l E yX12_allIn cX12_allIn 2 (some .int) 1 21 [.ref (ad 0)] (wN E ad m_thrown m_trouble m_where m_rv m_tape m_taped m_size m_spot m_sort m_place m_number m_fault m_wrongAt m_word m_v m_x m_past m_kept m_acts m_images m_matchNow m_slopsNow m_matchesNow m_slopped m_seatBest m_fedBest m_slopsBest m_sawBest m_leastNow m_stableNow m_fitsNow m_someNow m_everyNow m_otherIn m_askLeft) (wN E ad R0.2.1 R0.2.2.1 R0.2.2.2 m_rv m_tape m_taped m_size m_spot m_sort m_place m_number m_fault m_wrongAt m_word m_v m_x m_past m_kept m_acts m_images m_matchNow m_slopsNow m_matchesNow m_slopped m_seatBest m_fedBest m_slopsBest m_sawBest m_leastNow m_stableNow m_fitsNow m_someNow m_everyNow m_otherIn m_askLeft) R0.1 := by
  refine xI_of (by decide) (Nat.le_of_ble_eq_true rfl) (fun p e s m args below meth c A C ls hl G => ?_)
  have hx := C.1
  have hb := C.2.1
  have hl : lv_has ls 2 [(0, .ref (ad 0))] := hl
  unfold f_M_allIn_N at hf
  refine lv_aload_n hx hb dX12_allIn_0 rfl (lv_at hl 0 rfl) ?_
  refine lv_iconst (v := 0) hx hb dX12_allIn_1 (by decide) ?_
  refine x_put (ws' := (wN E ad (0 : Int32) m_trouble m_where m_rv m_tape m_taped m_size m_spot m_sort m_place m_number m_fault m_wrongAt m_word m_v m_x m_past m_kept m_acts m_images m_matchNow m_slopsNow m_matchesNow m_slopped m_seatBest m_fedBest m_slopsBest m_sawBest m_leastNow m_stableNow m_fitsNow m_someNow m_everyNow m_otherIn m_askLeft)) C G fX12_39 (wN_at0) rfl rfl (Nat.le_of_ble_eq_true rfl) wN_set_m_thrown dX12_allIn_2 (fun H locs G => ?_)
  refine lv_aload_n hx hb dX12_allIn_5 rfl (lv_at hl 0 rfl) ?_
  refine x_get C G fX12_298.g (wN_at0) rfl dX12_allIn_6 ?_
  refine lv_ifnonnullN hx hb dX12_allIn_9 ?_
  refine lv_aload_n hx hb dX12_allIn_12 rfl (lv_at hl 0 rfl) ?_
  refine lv_iconst (v := 1) hx hb dX12_allIn_13 (by decide) ?_
  obtain ⟨x1, hc, hf⟩ := bd_go hf
  refine xI_V C G (c_M_refused_m_N hc) mX12_refused kX12_45 (wN_at0) rfl ⟨Nat.le_of_ble_eq_true rfl, Nat.le_of_ble_eq_true rfl⟩ rfl hl.1 rfl (Nat.le_of_ble_eq_true rfl) ⟨Nat.le_refl _, Nat.le_refl _⟩ dX12_allIn_14 (fun hz H locs G => ?_)
  obtain rfl := Option.some.inj hf
  exact xI_ret C G rfl dX12_allIn_17
set_option maxHeartbeats 4000000 in
set_option maxRecDepth 100000 in
theorem c_M_seating_m_N {l : Launch} {E : xE} {ad : Nat → Nat} {m_thrown m_trouble m_where m_taped m_size m_spot m_sort m_place m_number m_fault m_wrongAt m_acts m_images m_matchNow m_slopsNow m_matchesNow m_fedBest m_slopsBest m_sawBest m_leastNow m_stableNow m_fitsNow m_someNow m_everyNow m_askLeft : Int32} {m_rv : Value} {m_tape m_v m_x m_past m_kept m_slopped m_seatBest m_otherIn : Nat → Int32} {m_word : Int64} {R0 : Int32 × Int32 × Int32 × Int32} (hf : f_M_seating_N = some R0) : xI l E yX12_seating cX12_seating 1 (some .int) 1 21 [.ref (ad 0)] (wN E ad m_thrown m_trouble m_where m_rv m_tape m_taped m_size m_spot m_sort m_place m_number m_fault m_wrongAt m_word m_v m_x m_past m_kept m_acts m_images m_matchNow m_slopsNow m_matchesNow m_slopped m_seatBest m_fedBest m_slopsBest m_sawBest m_leastNow m_stableNow m_fitsNow m_someNow m_everyNow m_otherIn m_askLeft) (wN E ad R0.2.1 R0.2.2.1 R0.2.2.2 m_rv m_tape m_taped m_size m_spot m_sort m_place m_number m_fault m_wrongAt m_word m_v m_x m_past m_kept m_acts m_images m_matchNow m_slopsNow m_matchesNow m_slopped m_seatBest m_fedBest m_slopsBest m_sawBest m_leastNow m_stableNow m_fitsNow m_someNow m_everyNow m_otherIn m_askLeft) R0.1 := by
  refine xI_of (by decide) (Nat.le_of_ble_eq_true rfl) (fun p e s m args below meth c A C ls hl G => ?_)
  have hx := C.1
  have hb := C.2.1
  have hl : lv_has ls 1 [(0, .ref (ad 0))] := hl
  unfold f_M_seating_N at hf
  refine lv_aload_n hx hb dX12_seating_0 rfl (lv_at hl 0 rfl) ?_
  refine lv_iconst (v := 0) hx hb dX12_seating_1 (by decide) ?_
  refine x_put (ws' := (wN E ad (0 : Int32) m_trouble m_where m_rv m_tape m_taped m_size m_spot m_sort m_place m_number m_fault m_wrongAt m_word m_v m_x m_past m_kept m_acts m_images m_matchNow m_slopsNow m_matchesNow m_slopped m_seatBest m_fedBest m_slopsBest m_sawBest m_leastNow m_stableNow m_fitsNow m_someNow m_everyNow m_otherIn m_askLeft)) C G fX12_39 (wN_at0) rfl rfl (Nat.le_of_ble_eq_true rfl) wN_set_m_thrown dX12_seating_2 (fun H locs G => ?_)
  refine lv_aload_n hx hb dX12_seating_5 rfl (lv_at hl 0 rfl) ?_
  refine x_get C G fX12_298.g (wN_at0) rfl dX12_seating_6 ?_
  refine lv_ifnonnullN hx hb dX12_seating_9 ?_
  refine lv_aload_n hx hb dX12_seating_12 rfl (lv_at hl 0 rfl) ?_
  refine lv_iconst (v := 1) hx hb dX12_seating_13 (by decide) ?_
  obtain ⟨x1, hc, hf⟩ := bd_go hf
  refine xI_V C G (c_M_refused_m_N hc) mX12_refused kX12_45 (wN_at0) rfl ⟨Nat.le_of_ble_eq_true rfl, Nat.le_of_ble_eq_true rfl⟩ rfl hl.1 rfl (Nat.le_of_ble_eq_true rfl) ⟨Nat.le_refl _, Nat.le_refl _⟩ dX12_seating_14 (fun hz H locs G => ?_)
  obtain rfl := Option.some.inj hf
  exact xI_ret C G rfl dX12_seating_17
set_option maxHeartbeats 4000000 in
set_option maxRecDepth 100000 in
theorem c_M_seatAt_m_N {l : Launch} {E : xE} {ad : Nat → Nat} {m_thrown m_trouble m_where m_taped m_size m_spot m_sort m_place m_number m_fault m_wrongAt m_acts m_images m_matchNow m_slopsNow m_matchesNow m_fedBest m_slopsBest m_sawBest m_leastNow m_stableNow m_fitsNow m_someNow m_everyNow m_askLeft : Int32} {m_rv : Value} {m_tape m_v m_x m_past m_kept m_slopped m_seatBest m_otherIn : Nat → Int32} {m_word : Int64} {l1 : Int32} {R0 : Int32 × Int32 × Int32 × Int32} (hf : f_M_seatAt_N l1 = some R0) : xI l E yX12_seatAt cX12_seatAt 2 (some .int) 1 21 [.ref (ad 0), .int l1] (wN E ad m_thrown m_trouble m_where m_rv m_tape m_taped m_size m_spot m_sort m_place m_number m_fault m_wrongAt m_word m_v m_x m_past m_kept m_acts m_images m_matchNow m_slopsNow m_matchesNow m_slopped m_seatBest m_fedBest m_slopsBest m_sawBest m_leastNow m_stableNow m_fitsNow m_someNow m_everyNow m_otherIn m_askLeft) (wN E ad R0.2.1 R0.2.2.1 R0.2.2.2 m_rv m_tape m_taped m_size m_spot m_sort m_place m_number m_fault m_wrongAt m_word m_v m_x m_past m_kept m_acts m_images m_matchNow m_slopsNow m_matchesNow m_slopped m_seatBest m_fedBest m_slopsBest m_sawBest m_leastNow m_stableNow m_fitsNow m_someNow m_everyNow m_otherIn m_askLeft) R0.1 := by
  refine xI_of (by decide) (Nat.le_of_ble_eq_true rfl) (fun p e s m args below meth c A C ls hl G => ?_)
  have hx := C.1
  have hb := C.2.1
  have hl : lv_has ls 2 [(0, .ref (ad 0)), (1, .int l1)] := hl
  unfold f_M_seatAt_N at hf
  refine lv_aload_n hx hb dX12_seatAt_0 rfl (lv_at hl 0 rfl) ?_
  refine lv_iconst (v := 0) hx hb dX12_seatAt_1 (by decide) ?_
  refine x_put (ws' := (wN E ad (0 : Int32) m_trouble m_where m_rv m_tape m_taped m_size m_spot m_sort m_place m_number m_fault m_wrongAt m_word m_v m_x m_past m_kept m_acts m_images m_matchNow m_slopsNow m_matchesNow m_slopped m_seatBest m_fedBest m_slopsBest m_sawBest m_leastNow m_stableNow m_fitsNow m_someNow m_everyNow m_otherIn m_askLeft)) C G fX12_39 (wN_at0) rfl rfl (Nat.le_of_ble_eq_true rfl) wN_set_m_thrown dX12_seatAt_2 (fun H locs G => ?_)
  refine lv_aload_n hx hb dX12_seatAt_5 rfl (lv_at hl 0 rfl) ?_
  refine lv_iload_n hx hb dX12_seatAt_6 rfl (lv_at hl 1 rfl) ?_
  obtain ⟨x1, hc, hf⟩ := bd_go hf
  refine xI_V C G (c_M_isPerson_m_N hc) mX12_isPerson kX12_309 (wN_at0) rfl ⟨Nat.le_of_ble_eq_true rfl, Nat.le_of_ble_eq_true rfl⟩ rfl hl.1 rfl (Nat.le_of_ble_eq_true rfl) ⟨Nat.le_refl _, Nat.le_refl _⟩ dX12_seatAt_7 (fun hz1 H locs G => ?_)
  refine lv_if_ne (tgt := 19) hx hb dX12_seatAt_10 (by decide) (fun h => ?_) (fun h => ?_)
  · have hf := it_f h hf
    refine lv_aload_n hx hb dX12_seatAt_19 rfl (lv_at hl 0 rfl) ?_
    exact nomatch hf
  · have hf := it_t h hf
    refine lv_aload_n hx hb dX12_seatAt_13 rfl (lv_at hl 0 rfl) ?_
    refine lv_iconst (v := 1) hx hb dX12_seatAt_14 (by decide) ?_
    obtain ⟨x2, hc, hf⟩ := bd_go hf
    refine xI_V C G (c_M_refused_m_N hc) mX12_refused kX12_45 (wN_at0) rfl ⟨Nat.le_of_ble_eq_true rfl, Nat.le_of_ble_eq_true rfl⟩ rfl hl.1 rfl (Nat.le_of_ble_eq_true rfl) ⟨Nat.le_refl _, Nat.le_refl _⟩ dX12_seatAt_15 (fun hz H locs G => ?_)
    obtain rfl := Option.some.inj hf
    exact xI_ret C G rfl dX12_seatAt_18
set_option maxHeartbeats 4000000 in
set_option maxRecDepth 100000 in
theorem c_M_seatSlops_m_N {l : Launch} {E : xE} {ad : Nat → Nat} {m_thrown m_trouble m_where m_taped m_size m_spot m_sort m_place m_number m_fault m_wrongAt m_acts m_images m_matchNow m_slopsNow m_matchesNow m_fedBest m_slopsBest m_sawBest m_leastNow m_stableNow m_fitsNow m_someNow m_everyNow m_askLeft : Int32} {m_rv : Value} {m_tape m_v m_x m_past m_kept m_slopped m_seatBest m_otherIn : Nat → Int32} {m_word : Int64} {R0 : Int32 × Int32 × Int32 × Int32} (hf : f_M_seatSlops_N = some R0) : xI l E yX12_seatSlops cX12_seatSlops 1 (some .int) 1 21 [.ref (ad 0)] (wN E ad m_thrown m_trouble m_where m_rv m_tape m_taped m_size m_spot m_sort m_place m_number m_fault m_wrongAt m_word m_v m_x m_past m_kept m_acts m_images m_matchNow m_slopsNow m_matchesNow m_slopped m_seatBest m_fedBest m_slopsBest m_sawBest m_leastNow m_stableNow m_fitsNow m_someNow m_everyNow m_otherIn m_askLeft) (wN E ad R0.2.1 R0.2.2.1 R0.2.2.2 m_rv m_tape m_taped m_size m_spot m_sort m_place m_number m_fault m_wrongAt m_word m_v m_x m_past m_kept m_acts m_images m_matchNow m_slopsNow m_matchesNow m_slopped m_seatBest m_fedBest m_slopsBest m_sawBest m_leastNow m_stableNow m_fitsNow m_someNow m_everyNow m_otherIn m_askLeft) R0.1 := by
  refine xI_of (by decide) (Nat.le_of_ble_eq_true rfl) (fun p e s m args below meth c A C ls hl G => ?_)
  have hx := C.1
  have hb := C.2.1
  have hl : lv_has ls 1 [(0, .ref (ad 0))] := hl
  unfold f_M_seatSlops_N at hf
  refine lv_aload_n hx hb dX12_seatSlops_0 rfl (lv_at hl 0 rfl) ?_
  refine lv_iconst (v := 0) hx hb dX12_seatSlops_1 (by decide) ?_
  refine x_put (ws' := (wN E ad (0 : Int32) m_trouble m_where m_rv m_tape m_taped m_size m_spot m_sort m_place m_number m_fault m_wrongAt m_word m_v m_x m_past m_kept m_acts m_images m_matchNow m_slopsNow m_matchesNow m_slopped m_seatBest m_fedBest m_slopsBest m_sawBest m_leastNow m_stableNow m_fitsNow m_someNow m_everyNow m_otherIn m_askLeft)) C G fX12_39 (wN_at0) rfl rfl (Nat.le_of_ble_eq_true rfl) wN_set_m_thrown dX12_seatSlops_2 (fun H locs G => ?_)
  refine lv_aload_n hx hb dX12_seatSlops_5 rfl (lv_at hl 0 rfl) ?_
  refine x_get C G fX12_298.g (wN_at0) rfl dX12_seatSlops_6 ?_
  refine lv_ifnonnullN hx hb dX12_seatSlops_9 ?_
  refine lv_aload_n hx hb dX12_seatSlops_12 rfl (lv_at hl 0 rfl) ?_
  refine lv_iconst (v := 1) hx hb dX12_seatSlops_13 (by decide) ?_
  obtain ⟨x1, hc, hf⟩ := bd_go hf
  refine xI_V C G (c_M_refused_m_N hc) mX12_refused kX12_45 (wN_at0) rfl ⟨Nat.le_of_ble_eq_true rfl, Nat.le_of_ble_eq_true rfl⟩ rfl hl.1 rfl (Nat.le_of_ble_eq_true rfl) ⟨Nat.le_refl _, Nat.le_refl _⟩ dX12_seatSlops_14 (fun hz H locs G => ?_)
  obtain rfl := Option.some.inj hf
  exact xI_ret C G rfl dX12_seatSlops_17
set_option maxHeartbeats 4000000 in
set_option maxRecDepth 100000 in
theorem c_M_swapped_m_N {l : Launch} {E : xE} {ad : Nat → Nat} {m_thrown m_trouble m_where m_taped m_size m_spot m_sort m_place m_number m_fault m_wrongAt m_acts m_images m_matchNow m_slopsNow m_matchesNow m_fedBest m_slopsBest m_sawBest m_leastNow m_stableNow m_fitsNow m_someNow m_everyNow m_askLeft : Int32} {m_rv : Value} {m_tape m_v m_x m_past m_kept m_slopped m_seatBest m_otherIn : Nat → Int32} {m_word : Int64} {l1 : Int32} {l2 : Int32} {R0 : Int32 × Int32 × Int32 × Int32} (hf : f_M_swapped_N l1 l2 = some R0) : xI l E yX12_swapped cX12_swapped 3 (some .int) 2 43 [.ref (ad 0), .int l1, .int l2] (wN E ad m_thrown m_trouble m_where m_rv m_tape m_taped m_size m_spot m_sort m_place m_number m_fault m_wrongAt m_word m_v m_x m_past m_kept m_acts m_images m_matchNow m_slopsNow m_matchesNow m_slopped m_seatBest m_fedBest m_slopsBest m_sawBest m_leastNow m_stableNow m_fitsNow m_someNow m_everyNow m_otherIn m_askLeft) (wN E ad R0.2.1 R0.2.2.1 R0.2.2.2 m_rv m_tape m_taped m_size m_spot m_sort m_place m_number m_fault m_wrongAt m_word m_v m_x m_past m_kept m_acts m_images m_matchNow m_slopsNow m_matchesNow m_slopped m_seatBest m_fedBest m_slopsBest m_sawBest m_leastNow m_stableNow m_fitsNow m_someNow m_everyNow m_otherIn m_askLeft) R0.1 := by
  refine xI_of (by decide) (Nat.le_of_ble_eq_true rfl) (fun p e s m args below meth c A C ls hl G => ?_)
  have hx := C.1
  have hb := C.2.1
  have hl : lv_has ls 3 [(0, .ref (ad 0)), (1, .int l1), (2, .int l2)] := hl
  unfold f_M_swapped_N at hf
  refine lv_aload_n hx hb dX12_swapped_0 rfl (lv_at hl 0 rfl) ?_
  refine lv_iconst (v := 0) hx hb dX12_swapped_1 (by decide) ?_
  refine x_put (ws' := (wN E ad (0 : Int32) m_trouble m_where m_rv m_tape m_taped m_size m_spot m_sort m_place m_number m_fault m_wrongAt m_word m_v m_x m_past m_kept m_acts m_images m_matchNow m_slopsNow m_matchesNow m_slopped m_seatBest m_fedBest m_slopsBest m_sawBest m_leastNow m_stableNow m_fitsNow m_someNow m_everyNow m_otherIn m_askLeft)) C G fX12_39 (wN_at0) rfl rfl (Nat.le_of_ble_eq_true rfl) wN_set_m_thrown dX12_swapped_2 (fun H locs G => ?_)
  refine lv_aload_n hx hb dX12_swapped_5 rfl (lv_at hl 0 rfl) ?_
  refine lv_iload_n hx hb dX12_swapped_6 rfl (lv_at hl 1 rfl) ?_
  refine lv_iload_n hx hb dX12_swapped_7 rfl (lv_at hl 2 rfl) ?_
  obtain ⟨x1, hc, hf⟩ := bd_go hf
  refine xI_V C G (c_M_areTwo_m_N hc) mX12_areTwo kX12_342 (wN_at0) rfl ⟨Nat.le_of_ble_eq_true rfl, Nat.le_of_ble_eq_true rfl⟩ rfl hl.1 rfl (Nat.le_of_ble_eq_true rfl) ⟨Nat.le_refl _, Nat.le_refl _⟩ dX12_swapped_8 (fun hz1 H locs G => ?_)
  refine lv_if_eq (tgt := 27) hx hb dX12_swapped_11 (by decide) (fun h => ?_) (fun h => ?_)
  · have hf := it_t h hf
    refine lv_aload_n hx hb dX12_swapped_27 rfl (lv_at hl 0 rfl) ?_
    refine lv_iconst (v := 1) hx hb dX12_swapped_28 (by decide) ?_
    obtain ⟨x2, hc, hf⟩ := bd_go hf
    refine xI_V C G (c_M_refused_m_N hc) mX12_refused kX12_45 (wN_at0) rfl ⟨Nat.le_of_ble_eq_true rfl, Nat.le_of_ble_eq_true rfl⟩ rfl hl.1 rfl (Nat.le_of_ble_eq_true rfl) ⟨Nat.le_refl _, Nat.le_refl _⟩ dX12_swapped_29 (fun hz H locs G => ?_)
    obtain rfl := Option.some.inj hf
    exact xI_ret C G rfl dX12_swapped_32
  · have hf := it_f h hf
    refine lv_aload_n hx hb dX12_swapped_14 rfl (lv_at hl 0 rfl) ?_
    refine lv_aload_n hx hb dX12_swapped_15 rfl (lv_at hl 0 rfl) ?_
    refine lv_iload_n hx hb dX12_swapped_16 rfl (lv_at hl 1 rfl) ?_
    refine lv_iload_n hx hb dX12_swapped_17 rfl (lv_at hl 2 rfl) ?_
    exact nomatch hf
set_option maxHeartbeats 4000000 in
set_option maxRecDepth 100000 in
theorem c_M_bestSwap_m_N {l : Launch} {E : xE} {ad : Nat → Nat} {m_thrown m_trouble m_where m_taped m_size m_spot m_sort m_place m_number m_fault m_wrongAt m_acts m_images m_matchNow m_slopsNow m_matchesNow m_fedBest m_slopsBest m_sawBest m_leastNow m_stableNow m_fitsNow m_someNow m_everyNow m_askLeft : Int32} {m_rv : Value} {m_tape m_v m_x m_past m_kept m_slopped m_seatBest m_otherIn : Nat → Int32} {m_word : Int64} {R0 : Int32 × Int32 × Int32 × Int32} (hf : f_M_bestSwap_N = some R0) : xI l E yX12_bestSwap cX12_bestSwap 6 (some .int) 1 21 [.ref (ad 0)] (wN E ad m_thrown m_trouble m_where m_rv m_tape m_taped m_size m_spot m_sort m_place m_number m_fault m_wrongAt m_word m_v m_x m_past m_kept m_acts m_images m_matchNow m_slopsNow m_matchesNow m_slopped m_seatBest m_fedBest m_slopsBest m_sawBest m_leastNow m_stableNow m_fitsNow m_someNow m_everyNow m_otherIn m_askLeft) (wN E ad R0.2.1 R0.2.2.1 R0.2.2.2 m_rv m_tape m_taped m_size m_spot m_sort m_place m_number m_fault m_wrongAt m_word m_v m_x m_past m_kept m_acts m_images m_matchNow m_slopsNow m_matchesNow m_slopped m_seatBest m_fedBest m_slopsBest m_sawBest m_leastNow m_stableNow m_fitsNow m_someNow m_everyNow m_otherIn m_askLeft) R0.1 := by
  refine xI_of (by decide) (Nat.le_of_ble_eq_true rfl) (fun p e s m args below meth c A C ls hl G => ?_)
  have hx := C.1
  have hb := C.2.1
  have hl : lv_has ls 6 [(0, .ref (ad 0))] := hl
  unfold f_M_bestSwap_N at hf
  refine lv_aload_n hx hb dX12_bestSwap_0 rfl (lv_at hl 0 rfl) ?_
  refine lv_iconst (v := 0) hx hb dX12_bestSwap_1 (by decide) ?_
  refine x_put (ws' := (wN E ad (0 : Int32) m_trouble m_where m_rv m_tape m_taped m_size m_spot m_sort m_place m_number m_fault m_wrongAt m_word m_v m_x m_past m_kept m_acts m_images m_matchNow m_slopsNow m_matchesNow m_slopped m_seatBest m_fedBest m_slopsBest m_sawBest m_leastNow m_stableNow m_fitsNow m_someNow m_everyNow m_otherIn m_askLeft)) C G fX12_39 (wN_at0) rfl rfl (Nat.le_of_ble_eq_true rfl) wN_set_m_thrown dX12_bestSwap_2 (fun H locs G => ?_)
  refine lv_aload_n hx hb dX12_bestSwap_5 rfl (lv_at hl 0 rfl) ?_
  refine x_get C G fX12_298.g (wN_at0) rfl dX12_bestSwap_6 ?_
  refine lv_ifnonnullN hx hb dX12_bestSwap_9 ?_
  refine lv_aload_n hx hb dX12_bestSwap_12 rfl (lv_at hl 0 rfl) ?_
  refine lv_iconst (v := 1) hx hb dX12_bestSwap_13 (by decide) ?_
  obtain ⟨x1, hc, hf⟩ := bd_go hf
  refine xI_V C G (c_M_refused_m_N hc) mX12_refused kX12_45 (wN_at0) rfl ⟨Nat.le_of_ble_eq_true rfl, Nat.le_of_ble_eq_true rfl⟩ rfl hl.1 rfl (Nat.le_of_ble_eq_true rfl) ⟨Nat.le_refl _, Nat.le_refl _⟩ dX12_bestSwap_14 (fun hz H locs G => ?_)
  obtain rfl := Option.some.inj hf
  exact xI_ret C G rfl dX12_bestSwap_17
set_option maxHeartbeats 4000000 in
set_option maxRecDepth 100000 in
theorem c_M_better_m_N {l : Launch} {E : xE} {ad : Nat → Nat} {m_thrown m_trouble m_where m_taped m_size m_spot m_sort m_place m_number m_fault m_wrongAt m_acts m_images m_matchNow m_slopsNow m_matchesNow m_fedBest m_slopsBest m_sawBest m_leastNow m_stableNow m_fitsNow m_someNow m_everyNow m_askLeft : Int32} {m_rv : Value} {m_tape m_v m_x m_past m_kept m_slopped m_seatBest m_otherIn : Nat → Int32} {m_word : Int64} {l1 : Int32} {R0 : Int32 × Int32 × Int32 × Int32} (hf : f_M_better_N l1 = some R0) : xI l E yX12_better cX12_better 6 (some .int) 1 21 [.ref (ad 0), .int l1] (wN E ad m_thrown m_trouble m_where m_rv m_tape m_taped m_size m_spot m_sort m_place m_number m_fault m_wrongAt m_word m_v m_x m_past m_kept m_acts m_images m_matchNow m_slopsNow m_matchesNow m_slopped m_seatBest m_fedBest m_slopsBest m_sawBest m_leastNow m_stableNow m_fitsNow m_someNow m_everyNow m_otherIn m_askLeft) (wN E ad R0.2.1 R0.2.2.1 R0.2.2.2 m_rv m_tape m_taped m_size m_spot m_sort m_place m_number m_fault m_wrongAt m_word m_v m_x m_past m_kept m_acts m_images m_matchNow m_slopsNow m_matchesNow m_slopped m_seatBest m_fedBest m_slopsBest m_sawBest m_leastNow m_stableNow m_fitsNow m_someNow m_everyNow m_otherIn m_askLeft) R0.1 := by
  refine xI_of (by decide) (Nat.le_of_ble_eq_true rfl) (fun p e s m args below meth c A C ls hl G => ?_)
  have hx := C.1
  have hb := C.2.1
  have hl : lv_has ls 6 [(0, .ref (ad 0)), (1, .int l1)] := hl
  unfold f_M_better_N at hf
  refine lv_aload_n hx hb dX12_better_0 rfl (lv_at hl 0 rfl) ?_
  refine lv_iconst (v := 0) hx hb dX12_better_1 (by decide) ?_
  refine x_put (ws' := (wN E ad (0 : Int32) m_trouble m_where m_rv m_tape m_taped m_size m_spot m_sort m_place m_number m_fault m_wrongAt m_word m_v m_x m_past m_kept m_acts m_images m_matchNow m_slopsNow m_matchesNow m_slopped m_seatBest m_fedBest m_slopsBest m_sawBest m_leastNow m_stableNow m_fitsNow m_someNow m_everyNow m_otherIn m_askLeft)) C G fX12_39 (wN_at0) rfl rfl (Nat.le_of_ble_eq_true rfl) wN_set_m_thrown dX12_better_2 (fun H locs G => ?_)
  refine lv_aload_n hx hb dX12_better_5 rfl (lv_at hl 0 rfl) ?_
  refine lv_iload_n hx hb dX12_better_6 rfl (lv_at hl 1 rfl) ?_
  obtain ⟨x1, hc, hf⟩ := bd_go hf
  refine xI_V C G (c_M_isPerson_m_N hc) mX12_isPerson kX12_309 (wN_at0) rfl ⟨Nat.le_of_ble_eq_true rfl, Nat.le_of_ble_eq_true rfl⟩ rfl hl.1 rfl (Nat.le_of_ble_eq_true rfl) ⟨Nat.le_refl _, Nat.le_refl _⟩ dX12_better_7 (fun hz1 H locs G => ?_)
  refine lv_if_ne (tgt := 19) hx hb dX12_better_10 (by decide) (fun h => ?_) (fun h => ?_)
  · have hf := it_f h hf
    refine lv_aload_n hx hb dX12_better_19 rfl (lv_at hl 0 rfl) ?_
    exact nomatch hf
  · have hf := it_t h hf
    refine lv_aload_n hx hb dX12_better_13 rfl (lv_at hl 0 rfl) ?_
    refine lv_iconst (v := 1) hx hb dX12_better_14 (by decide) ?_
    obtain ⟨x2, hc, hf⟩ := bd_go hf
    refine xI_V C G (c_M_refused_m_N hc) mX12_refused kX12_45 (wN_at0) rfl ⟨Nat.le_of_ble_eq_true rfl, Nat.le_of_ble_eq_true rfl⟩ rfl hl.1 rfl (Nat.le_of_ble_eq_true rfl) ⟨Nat.le_refl _, Nat.le_refl _⟩ dX12_better_15 (fun hz H locs G => ?_)
    obtain rfl := Option.some.inj hf
    exact xI_ret C G rfl dX12_better_18
set_option maxHeartbeats 4000000 in
set_option maxRecDepth 100000 in
theorem c_M_forkAt_m_N {l : Launch} {E : xE} {ad : Nat → Nat} {m_thrown m_trouble m_where m_taped m_size m_spot m_sort m_place m_number m_fault m_wrongAt m_acts m_images m_matchNow m_slopsNow m_matchesNow m_fedBest m_slopsBest m_sawBest m_leastNow m_stableNow m_fitsNow m_someNow m_everyNow m_askLeft : Int32} {m_rv : Value} {m_tape m_v m_x m_past m_kept m_slopped m_seatBest m_otherIn : Nat → Int32} {m_word : Int64} {R0 : Int32 × Int32 × Int32 × Int32} (hf : f_M_forkAt_N = some R0) : xI l E yX12_forkAt cX12_forkAt 4 (some .int) 1 21 [.ref (ad 0)] (wN E ad m_thrown m_trouble m_where m_rv m_tape m_taped m_size m_spot m_sort m_place m_number m_fault m_wrongAt m_word m_v m_x m_past m_kept m_acts m_images m_matchNow m_slopsNow m_matchesNow m_slopped m_seatBest m_fedBest m_slopsBest m_sawBest m_leastNow m_stableNow m_fitsNow m_someNow m_everyNow m_otherIn m_askLeft) (wN E ad R0.2.1 R0.2.2.1 R0.2.2.2 m_rv m_tape m_taped m_size m_spot m_sort m_place m_number m_fault m_wrongAt m_word m_v m_x m_past m_kept m_acts m_images m_matchNow m_slopsNow m_matchesNow m_slopped m_seatBest m_fedBest m_slopsBest m_sawBest m_leastNow m_stableNow m_fitsNow m_someNow m_everyNow m_otherIn m_askLeft) R0.1 := by
  refine xI_of (by decide) (Nat.le_of_ble_eq_true rfl) (fun p e s m args below meth c A C ls hl G => ?_)
  have hx := C.1
  have hb := C.2.1
  have hl : lv_has ls 4 [(0, .ref (ad 0))] := hl
  unfold f_M_forkAt_N at hf
  refine lv_aload_n hx hb dX12_forkAt_0 rfl (lv_at hl 0 rfl) ?_
  refine lv_iconst (v := 0) hx hb dX12_forkAt_1 (by decide) ?_
  refine x_put (ws' := (wN E ad (0 : Int32) m_trouble m_where m_rv m_tape m_taped m_size m_spot m_sort m_place m_number m_fault m_wrongAt m_word m_v m_x m_past m_kept m_acts m_images m_matchNow m_slopsNow m_matchesNow m_slopped m_seatBest m_fedBest m_slopsBest m_sawBest m_leastNow m_stableNow m_fitsNow m_someNow m_everyNow m_otherIn m_askLeft)) C G fX12_39 (wN_at0) rfl rfl (Nat.le_of_ble_eq_true rfl) wN_set_m_thrown dX12_forkAt_2 (fun H locs G => ?_)
  refine lv_aload_n hx hb dX12_forkAt_5 rfl (lv_at hl 0 rfl) ?_
  refine x_get C G fX12_298.g (wN_at0) rfl dX12_forkAt_6 ?_
  refine lv_ifnonnullN hx hb dX12_forkAt_9 ?_
  refine lv_aload_n hx hb dX12_forkAt_12 rfl (lv_at hl 0 rfl) ?_
  refine lv_iconst (v := 1) hx hb dX12_forkAt_13 (by decide) ?_
  obtain ⟨x1, hc, hf⟩ := bd_go hf
  refine xI_V C G (c_M_refused_m_N hc) mX12_refused kX12_45 (wN_at0) rfl ⟨Nat.le_of_ble_eq_true rfl, Nat.le_of_ble_eq_true rfl⟩ rfl hl.1 rfl (Nat.le_of_ble_eq_true rfl) ⟨Nat.le_refl _, Nat.le_refl _⟩ dX12_forkAt_14 (fun hz H locs G => ?_)
  obtain rfl := Option.some.inj hf
  exact xI_ret C G rfl dX12_forkAt_17
set_option maxHeartbeats 4000000 in
set_option maxRecDepth 100000 in
theorem c_M_saws_m_N {l : Launch} {E : xE} {ad : Nat → Nat} {m_thrown m_trouble m_where m_taped m_size m_spot m_sort m_place m_number m_fault m_wrongAt m_acts m_images m_matchNow m_slopsNow m_matchesNow m_fedBest m_slopsBest m_sawBest m_leastNow m_stableNow m_fitsNow m_someNow m_everyNow m_askLeft : Int32} {m_rv : Value} {m_tape m_v m_x m_past m_kept m_slopped m_seatBest m_otherIn : Nat → Int32} {m_word : Int64} {R0 : Int32 × Int32 × Int32 × Int32} (hf : f_M_saws_N = some R0) : xI l E yX12_saws cX12_saws 1 (some .int) 1 21 [.ref (ad 0)] (wN E ad m_thrown m_trouble m_where m_rv m_tape m_taped m_size m_spot m_sort m_place m_number m_fault m_wrongAt m_word m_v m_x m_past m_kept m_acts m_images m_matchNow m_slopsNow m_matchesNow m_slopped m_seatBest m_fedBest m_slopsBest m_sawBest m_leastNow m_stableNow m_fitsNow m_someNow m_everyNow m_otherIn m_askLeft) (wN E ad R0.2.1 R0.2.2.1 R0.2.2.2 m_rv m_tape m_taped m_size m_spot m_sort m_place m_number m_fault m_wrongAt m_word m_v m_x m_past m_kept m_acts m_images m_matchNow m_slopsNow m_matchesNow m_slopped m_seatBest m_fedBest m_slopsBest m_sawBest m_leastNow m_stableNow m_fitsNow m_someNow m_everyNow m_otherIn m_askLeft) R0.1 := by
  refine xI_of (by decide) (Nat.le_of_ble_eq_true rfl) (fun p e s m args below meth c A C ls hl G => ?_)
  have hx := C.1
  have hb := C.2.1
  have hl : lv_has ls 1 [(0, .ref (ad 0))] := hl
  unfold f_M_saws_N at hf
  refine lv_aload_n hx hb dX12_saws_0 rfl (lv_at hl 0 rfl) ?_
  refine lv_iconst (v := 0) hx hb dX12_saws_1 (by decide) ?_
  refine x_put (ws' := (wN E ad (0 : Int32) m_trouble m_where m_rv m_tape m_taped m_size m_spot m_sort m_place m_number m_fault m_wrongAt m_word m_v m_x m_past m_kept m_acts m_images m_matchNow m_slopsNow m_matchesNow m_slopped m_seatBest m_fedBest m_slopsBest m_sawBest m_leastNow m_stableNow m_fitsNow m_someNow m_everyNow m_otherIn m_askLeft)) C G fX12_39 (wN_at0) rfl rfl (Nat.le_of_ble_eq_true rfl) wN_set_m_thrown dX12_saws_2 (fun H locs G => ?_)
  refine lv_aload_n hx hb dX12_saws_5 rfl (lv_at hl 0 rfl) ?_
  refine x_get C G fX12_298.g (wN_at0) rfl dX12_saws_6 ?_
  refine lv_ifnonnullN hx hb dX12_saws_9 ?_
  refine lv_aload_n hx hb dX12_saws_12 rfl (lv_at hl 0 rfl) ?_
  refine lv_iconst (v := 1) hx hb dX12_saws_13 (by decide) ?_
  obtain ⟨x1, hc, hf⟩ := bd_go hf
  refine xI_V C G (c_M_refused_m_N hc) mX12_refused kX12_45 (wN_at0) rfl ⟨Nat.le_of_ble_eq_true rfl, Nat.le_of_ble_eq_true rfl⟩ rfl hl.1 rfl (Nat.le_of_ble_eq_true rfl) ⟨Nat.le_refl _, Nat.le_refl _⟩ dX12_saws_14 (fun hz H locs G => ?_)
  refine lv_goto (tgt := 28) hx hb dX12_saws_17 (by decide) ?_
  obtain rfl := Option.some.inj hf
  exact xI_ret C G rfl dX12_saws_28
set_option maxHeartbeats 4000000 in
set_option maxRecDepth 100000 in
theorem c_M_sawsOf_m_N {l : Launch} {E : xE} {ad : Nat → Nat} {m_thrown m_trouble m_where m_taped m_size m_spot m_sort m_place m_number m_fault m_wrongAt m_acts m_images m_matchNow m_slopsNow m_matchesNow m_fedBest m_slopsBest m_sawBest m_leastNow m_stableNow m_fitsNow m_someNow m_everyNow m_askLeft : Int32} {m_rv : Value} {m_tape m_v m_x m_past m_kept m_slopped m_seatBest m_otherIn : Nat → Int32} {m_word : Int64} {l1 : Int32} {R0 : Int32 × Int32 × Int32 × Int32} (hf : f_M_sawsOf_N l1 = some R0) : xI l E yX12_sawsOf cX12_sawsOf 2 (some .int) 1 21 [.ref (ad 0), .int l1] (wN E ad m_thrown m_trouble m_where m_rv m_tape m_taped m_size m_spot m_sort m_place m_number m_fault m_wrongAt m_word m_v m_x m_past m_kept m_acts m_images m_matchNow m_slopsNow m_matchesNow m_slopped m_seatBest m_fedBest m_slopsBest m_sawBest m_leastNow m_stableNow m_fitsNow m_someNow m_everyNow m_otherIn m_askLeft) (wN E ad R0.2.1 R0.2.2.1 R0.2.2.2 m_rv m_tape m_taped m_size m_spot m_sort m_place m_number m_fault m_wrongAt m_word m_v m_x m_past m_kept m_acts m_images m_matchNow m_slopsNow m_matchesNow m_slopped m_seatBest m_fedBest m_slopsBest m_sawBest m_leastNow m_stableNow m_fitsNow m_someNow m_everyNow m_otherIn m_askLeft) R0.1 := by
  refine xI_of (by decide) (Nat.le_of_ble_eq_true rfl) (fun p e s m args below meth c A C ls hl G => ?_)
  have hx := C.1
  have hb := C.2.1
  have hl : lv_has ls 2 [(0, .ref (ad 0)), (1, .int l1)] := hl
  unfold f_M_sawsOf_N at hf
  refine lv_aload_n hx hb dX12_sawsOf_0 rfl (lv_at hl 0 rfl) ?_
  refine lv_iconst (v := 0) hx hb dX12_sawsOf_1 (by decide) ?_
  refine x_put (ws' := (wN E ad (0 : Int32) m_trouble m_where m_rv m_tape m_taped m_size m_spot m_sort m_place m_number m_fault m_wrongAt m_word m_v m_x m_past m_kept m_acts m_images m_matchNow m_slopsNow m_matchesNow m_slopped m_seatBest m_fedBest m_slopsBest m_sawBest m_leastNow m_stableNow m_fitsNow m_someNow m_everyNow m_otherIn m_askLeft)) C G fX12_39 (wN_at0) rfl rfl (Nat.le_of_ble_eq_true rfl) wN_set_m_thrown dX12_sawsOf_2 (fun H locs G => ?_)
  refine lv_aload_n hx hb dX12_sawsOf_5 rfl (lv_at hl 0 rfl) ?_
  refine lv_iload_n hx hb dX12_sawsOf_6 rfl (lv_at hl 1 rfl) ?_
  obtain ⟨x1, hc, hf⟩ := bd_go hf
  refine xI_V C G (c_M_isPair_m_N hc) mX12_isPair kX12_330 (wN_at0) rfl ⟨Nat.le_of_ble_eq_true rfl, Nat.le_of_ble_eq_true rfl⟩ rfl hl.1 rfl (Nat.le_of_ble_eq_true rfl) ⟨Nat.le_refl _, Nat.le_refl _⟩ dX12_sawsOf_7 (fun hz1 H locs G => ?_)
  refine lv_if_ne (tgt := 19) hx hb dX12_sawsOf_10 (by decide) (fun h => ?_) (fun h => ?_)
  · have hf := it_f h hf
    refine lv_aload_n hx hb dX12_sawsOf_19 rfl (lv_at hl 0 rfl) ?_
    exact nomatch hf
  · have hf := it_t h hf
    refine lv_aload_n hx hb dX12_sawsOf_13 rfl (lv_at hl 0 rfl) ?_
    refine lv_iconst (v := 1) hx hb dX12_sawsOf_14 (by decide) ?_
    obtain ⟨x2, hc, hf⟩ := bd_go hf
    refine xI_V C G (c_M_refused_m_N hc) mX12_refused kX12_45 (wN_at0) rfl ⟨Nat.le_of_ble_eq_true rfl, Nat.le_of_ble_eq_true rfl⟩ rfl hl.1 rfl (Nat.le_of_ble_eq_true rfl) ⟨Nat.le_refl _, Nat.le_refl _⟩ dX12_sawsOf_15 (fun hz H locs G => ?_)
    obtain rfl := Option.some.inj hf
    exact xI_ret C G rfl dX12_sawsOf_18
set_option maxHeartbeats 4000000 in
set_option maxRecDepth 100000 in
theorem c_M_meet_m_N {l : Launch} {E : xE} {ad : Nat → Nat} {m_thrown m_trouble m_where m_taped m_size m_spot m_sort m_place m_number m_fault m_wrongAt m_acts m_images m_matchNow m_slopsNow m_matchesNow m_fedBest m_slopsBest m_sawBest m_leastNow m_stableNow m_fitsNow m_someNow m_everyNow m_askLeft : Int32} {m_rv : Value} {m_tape m_v m_x m_past m_kept m_slopped m_seatBest m_otherIn : Nat → Int32} {m_word : Int64} {l1 : Int32} {R0 : Int32 × Int32 × Int32 × Int32} (hf : f_M_meet_N l1 = some R0) : xI l E yX12_meet cX12_meet 4 (some .int) 2 44 [.ref (ad 0), .int l1] (wN E ad m_thrown m_trouble m_where m_rv m_tape m_taped m_size m_spot m_sort m_place m_number m_fault m_wrongAt m_word m_v m_x m_past m_kept m_acts m_images m_matchNow m_slopsNow m_matchesNow m_slopped m_seatBest m_fedBest m_slopsBest m_sawBest m_leastNow m_stableNow m_fitsNow m_someNow m_everyNow m_otherIn m_askLeft) (wN E ad R0.2.1 R0.2.2.1 R0.2.2.2 m_rv m_tape m_taped m_size m_spot m_sort m_place m_number m_fault m_wrongAt m_word m_v m_x m_past m_kept m_acts m_images m_matchNow m_slopsNow m_matchesNow m_slopped m_seatBest m_fedBest m_slopsBest m_sawBest m_leastNow m_stableNow m_fitsNow m_someNow m_everyNow m_otherIn m_askLeft) R0.1 := by
  refine xI_of (by decide) (Nat.le_of_ble_eq_true rfl) (fun p e s m args below meth c A C ls hl G => ?_)
  have hx := C.1
  have hb := C.2.1
  have hl : lv_has ls 4 [(0, .ref (ad 0)), (1, .int l1)] := hl
  unfold f_M_meet_N at hf
  refine lv_aload_n hx hb dX12_meet_0 rfl (lv_at hl 0 rfl) ?_
  refine lv_iconst (v := 0) hx hb dX12_meet_1 (by decide) ?_
  refine x_put (ws' := (wN E ad (0 : Int32) m_trouble m_where m_rv m_tape m_taped m_size m_spot m_sort m_place m_number m_fault m_wrongAt m_word m_v m_x m_past m_kept m_acts m_images m_matchNow m_slopsNow m_matchesNow m_slopped m_seatBest m_fedBest m_slopsBest m_sawBest m_leastNow m_stableNow m_fitsNow m_someNow m_everyNow m_otherIn m_askLeft)) C G fX12_39 (wN_at0) rfl rfl (Nat.le_of_ble_eq_true rfl) wN_set_m_thrown dX12_meet_2 (fun H locs G => ?_)
  refine lv_aload_n hx hb dX12_meet_5 rfl (lv_at hl 0 rfl) ?_
  refine lv_aload_n hx hb dX12_meet_6 rfl (lv_at hl 0 rfl) ?_
  refine x_get C G fX12_298.g (wN_at0) rfl dX12_meet_7 ?_
  refine lv_ifnullN (tgt := 17) hx hb dX12_meet_10 (by decide) ?_
  refine lv_iconst (v := 0) hx hb dX12_meet_17 (by decide) ?_
  refine lv_iload_n hx hb dX12_meet_18 rfl (lv_at hl 1 rfl) ?_
  obtain ⟨x1, hc, hf⟩ := bd_go hf
  refine xI_V C G (c_M_refusesYears_m_N hc) mX12_refusesYears kX12_372 (wN_at0) rfl ⟨Nat.le_of_ble_eq_true rfl, Nat.le_of_ble_eq_true rfl⟩ rfl hl.1 rfl (Nat.le_of_ble_eq_true rfl) ⟨Nat.le_refl _, Nat.le_refl _⟩ dX12_meet_19 (fun hz H locs G => ?_)
  refine lv_istore_n (lv' := [(2, .int x1), (0, .ref (ad 0)), (1, .int l1)]) hx hb dX12_meet_22 rfl hl (by decide) rfl (fun ls hl => ?_)
  refine lv_iload_n hx hb dX12_meet_23 rfl (lv_at hl 0 rfl) ?_
  refine lv_if_le (tgt := 33) hx hb dX12_meet_24 (by decide) (fun h => ?_) (fun h => ?_)
  · have hf := it_t h hf
    refine lv_aload_n hx hb dX12_meet_33 rfl (lv_at hl 1 rfl) ?_
    refine lv_iload_n hx hb dX12_meet_34 rfl (lv_at hl 2 rfl) ?_
    exact nomatch hf
  · have hf := it_f h hf
    refine lv_aload_n hx hb dX12_meet_27 rfl (lv_at hl 1 rfl) ?_
    refine lv_iload_n hx hb dX12_meet_28 rfl (lv_at hl 0 rfl) ?_
    obtain ⟨x2, hc, hf⟩ := bd_go hf
    refine xI_V C G (c_M_refused_m_N hc) mX12_refused kX12_45 (wN_at0) rfl ⟨Nat.le_of_ble_eq_true rfl, Nat.le_of_ble_eq_true rfl⟩ rfl hl.1 rfl (Nat.le_of_ble_eq_true rfl) ⟨Nat.le_refl _, Nat.le_refl _⟩ dX12_meet_29 (fun hz H locs G => ?_)
    obtain rfl := Option.some.inj hf
    exact xI_ret C G rfl dX12_meet_32
set_option maxHeartbeats 4000000 in
set_option maxRecDepth 100000 in
theorem c_M_meetAt_m_N {l : Launch} {E : xE} {ad : Nat → Nat} {m_thrown m_trouble m_where m_taped m_size m_spot m_sort m_place m_number m_fault m_wrongAt m_acts m_images m_matchNow m_slopsNow m_matchesNow m_fedBest m_slopsBest m_sawBest m_leastNow m_stableNow m_fitsNow m_someNow m_everyNow m_askLeft : Int32} {m_rv : Value} {m_tape m_v m_x m_past m_kept m_slopped m_seatBest m_otherIn : Nat → Int32} {m_word : Int64} {l1 : Int32} {R0 : Int32 × Int32 × Int32 × Int32} (hf : f_M_meetAt_N l1 = some R0) : xI l E yX12_meetAt cX12_meetAt 3 (some .int) 2 44 [.ref (ad 0), .int l1] (wN E ad m_thrown m_trouble m_where m_rv m_tape m_taped m_size m_spot m_sort m_place m_number m_fault m_wrongAt m_word m_v m_x m_past m_kept m_acts m_images m_matchNow m_slopsNow m_matchesNow m_slopped m_seatBest m_fedBest m_slopsBest m_sawBest m_leastNow m_stableNow m_fitsNow m_someNow m_everyNow m_otherIn m_askLeft) (wN E ad R0.2.1 R0.2.2.1 R0.2.2.2 m_rv m_tape m_taped m_size m_spot m_sort m_place m_number m_fault m_wrongAt m_word m_v m_x m_past m_kept m_acts m_images m_matchNow m_slopsNow m_matchesNow m_slopped m_seatBest m_fedBest m_slopsBest m_sawBest m_leastNow m_stableNow m_fitsNow m_someNow m_everyNow m_otherIn m_askLeft) R0.1 := by
  refine xI_of (by decide) (Nat.le_of_ble_eq_true rfl) (fun p e s m args below meth c A C ls hl G => ?_)
  have hx := C.1
  have hb := C.2.1
  have hl : lv_has ls 3 [(0, .ref (ad 0)), (1, .int l1)] := hl
  unfold f_M_meetAt_N at hf
  refine lv_aload_n hx hb dX12_meetAt_0 rfl (lv_at hl 0 rfl) ?_
  refine lv_iconst (v := 0) hx hb dX12_meetAt_1 (by decide) ?_
  refine x_put (ws' := (wN E ad (0 : Int32) m_trouble m_where m_rv m_tape m_taped m_size m_spot m_sort m_place m_number m_fault m_wrongAt m_word m_v m_x m_past m_kept m_acts m_images m_matchNow m_slopsNow m_matchesNow m_slopped m_seatBest m_fedBest m_slopsBest m_sawBest m_leastNow m_stableNow m_fitsNow m_someNow m_everyNow m_otherIn m_askLeft)) C G fX12_39 (wN_at0) rfl rfl (Nat.le_of_ble_eq_true rfl) wN_set_m_thrown dX12_meetAt_2 (fun H locs G => ?_)
  refine lv_aload_n hx hb dX12_meetAt_5 rfl (lv_at hl 0 rfl) ?_
  refine lv_aload_n hx hb dX12_meetAt_6 rfl (lv_at hl 0 rfl) ?_
  refine x_get C G fX12_298.g (wN_at0) rfl dX12_meetAt_7 ?_
  refine lv_ifnullN (tgt := 17) hx hb dX12_meetAt_10 (by decide) ?_
  refine lv_iconst (v := 0) hx hb dX12_meetAt_17 (by decide) ?_
  refine lv_iload_n hx hb dX12_meetAt_18 rfl (lv_at hl 1 rfl) ?_
  obtain ⟨x1, hc, hf⟩ := bd_go hf
  refine xI_V C G (c_M_refusesYears_m_N hc) mX12_refusesYears kX12_372 (wN_at0) rfl ⟨Nat.le_of_ble_eq_true rfl, Nat.le_of_ble_eq_true rfl⟩ rfl hl.1 rfl (Nat.le_of_ble_eq_true rfl) ⟨Nat.le_refl _, Nat.le_refl _⟩ dX12_meetAt_19 (fun hz H locs G => ?_)
  refine lv_istore_n (lv' := [(2, .int x1), (0, .ref (ad 0)), (1, .int l1)]) hx hb dX12_meetAt_22 rfl hl (by decide) rfl (fun ls hl => ?_)
  refine lv_iload_n hx hb dX12_meetAt_23 rfl (lv_at hl 0 rfl) ?_
  refine lv_if_le (tgt := 35) hx hb dX12_meetAt_24 (by decide) (fun h => ?_) (fun h => ?_)
  · have hf := it_t h hf
    refine lv_aload_n hx hb dX12_meetAt_35 rfl (lv_at hl 1 rfl) ?_
    refine lv_aload_n hx hb dX12_meetAt_36 rfl (lv_at hl 1 rfl) ?_
    refine lv_iload_n hx hb dX12_meetAt_37 rfl (lv_at hl 2 rfl) ?_
    exact nomatch hf
  · have hf := it_f h hf
    refine lv_aload_n hx hb dX12_meetAt_27 rfl (lv_at hl 1 rfl) ?_
    refine lv_iload_n hx hb dX12_meetAt_28 rfl (lv_at hl 0 rfl) ?_
    obtain ⟨x2, hc, hf⟩ := bd_go hf
    refine xI_V C G (c_M_refused_m_N hc) mX12_refused kX12_45 (wN_at0) rfl ⟨Nat.le_of_ble_eq_true rfl, Nat.le_of_ble_eq_true rfl⟩ rfl hl.1 rfl (Nat.le_of_ble_eq_true rfl) ⟨Nat.le_refl _, Nat.le_refl _⟩ dX12_meetAt_29 (fun hz H locs G => ?_)
    refine lv_goto (tgt := 44) hx hb dX12_meetAt_32 (by decide) ?_
    obtain rfl := Option.some.inj hf
    exact xI_ret C G rfl dX12_meetAt_44
set_option maxHeartbeats 4000000 in
set_option maxRecDepth 100000 in
theorem c_M_stable_m_N {l : Launch} {E : xE} {ad : Nat → Nat} {m_thrown m_trouble m_where m_taped m_size m_spot m_sort m_place m_number m_fault m_wrongAt m_acts m_images m_matchNow m_slopsNow m_matchesNow m_fedBest m_slopsBest m_sawBest m_leastNow m_stableNow m_fitsNow m_someNow m_everyNow m_askLeft : Int32} {m_rv : Value} {m_tape m_v m_x m_past m_kept m_slopped m_seatBest m_otherIn : Nat → Int32} {m_word : Int64} {R0 : Int32 × Int32 × Int32 × Int32} (hf : f_M_stable_N = some R0) : xI l E yX12_stable cX12_stable 1 (some .int) 1 21 [.ref (ad 0)] (wN E ad m_thrown m_trouble m_where m_rv m_tape m_taped m_size m_spot m_sort m_place m_number m_fault m_wrongAt m_word m_v m_x m_past m_kept m_acts m_images m_matchNow m_slopsNow m_matchesNow m_slopped m_seatBest m_fedBest m_slopsBest m_sawBest m_leastNow m_stableNow m_fitsNow m_someNow m_everyNow m_otherIn m_askLeft) (wN E ad R0.2.1 R0.2.2.1 R0.2.2.2 m_rv m_tape m_taped m_size m_spot m_sort m_place m_number m_fault m_wrongAt m_word m_v m_x m_past m_kept m_acts m_images m_matchNow m_slopsNow m_matchesNow m_slopped m_seatBest m_fedBest m_slopsBest m_sawBest m_leastNow m_stableNow m_fitsNow m_someNow m_everyNow m_otherIn m_askLeft) R0.1 := by
  refine xI_of (by decide) (Nat.le_of_ble_eq_true rfl) (fun p e s m args below meth c A C ls hl G => ?_)
  have hx := C.1
  have hb := C.2.1
  have hl : lv_has ls 1 [(0, .ref (ad 0))] := hl
  unfold f_M_stable_N at hf
  refine lv_aload_n hx hb dX12_stable_0 rfl (lv_at hl 0 rfl) ?_
  refine lv_iconst (v := 0) hx hb dX12_stable_1 (by decide) ?_
  refine x_put (ws' := (wN E ad (0 : Int32) m_trouble m_where m_rv m_tape m_taped m_size m_spot m_sort m_place m_number m_fault m_wrongAt m_word m_v m_x m_past m_kept m_acts m_images m_matchNow m_slopsNow m_matchesNow m_slopped m_seatBest m_fedBest m_slopsBest m_sawBest m_leastNow m_stableNow m_fitsNow m_someNow m_everyNow m_otherIn m_askLeft)) C G fX12_39 (wN_at0) rfl rfl (Nat.le_of_ble_eq_true rfl) wN_set_m_thrown dX12_stable_2 (fun H locs G => ?_)
  refine lv_aload_n hx hb dX12_stable_5 rfl (lv_at hl 0 rfl) ?_
  refine x_get C G fX12_298.g (wN_at0) rfl dX12_stable_6 ?_
  refine lv_ifnonnullN hx hb dX12_stable_9 ?_
  refine lv_aload_n hx hb dX12_stable_12 rfl (lv_at hl 0 rfl) ?_
  refine lv_iconst (v := 1) hx hb dX12_stable_13 (by decide) ?_
  obtain ⟨x1, hc, hf⟩ := bd_go hf
  refine xI_V C G (c_M_refused_m_N hc) mX12_refused kX12_45 (wN_at0) rfl ⟨Nat.le_of_ble_eq_true rfl, Nat.le_of_ble_eq_true rfl⟩ rfl hl.1 rfl (Nat.le_of_ble_eq_true rfl) ⟨Nat.le_refl _, Nat.le_refl _⟩ dX12_stable_14 (fun hz H locs G => ?_)
  obtain rfl := Option.some.inj hf
  exact xI_ret C G rfl dX12_stable_17
set_option maxHeartbeats 4000000 in
set_option maxRecDepth 100000 in
theorem c_M_stableAt_m_N {l : Launch} {E : xE} {ad : Nat → Nat} {m_thrown m_trouble m_where m_taped m_size m_spot m_sort m_place m_number m_fault m_wrongAt m_acts m_images m_matchNow m_slopsNow m_matchesNow m_fedBest m_slopsBest m_sawBest m_leastNow m_stableNow m_fitsNow m_someNow m_everyNow m_askLeft : Int32} {m_rv : Value} {m_tape m_v m_x m_past m_kept m_slopped m_seatBest m_otherIn : Nat → Int32} {m_word : Int64} {l1 : Int32} {R0 : Int32 × Int32 × Int32 × Int32} (hf : f_M_stableAt_N l1 = some R0) : xI l E yX12_stableAt cX12_stableAt 3 (some .int) 1 21 [.ref (ad 0), .int l1] (wN E ad m_thrown m_trouble m_where m_rv m_tape m_taped m_size m_spot m_sort m_place m_number m_fault m_wrongAt m_word m_v m_x m_past m_kept m_acts m_images m_matchNow m_slopsNow m_matchesNow m_slopped m_seatBest m_fedBest m_slopsBest m_sawBest m_leastNow m_stableNow m_fitsNow m_someNow m_everyNow m_otherIn m_askLeft) (wN E ad R0.2.1 R0.2.2.1 R0.2.2.2 m_rv m_tape m_taped m_size m_spot m_sort m_place m_number m_fault m_wrongAt m_word m_v m_x m_past m_kept m_acts m_images m_matchNow m_slopsNow m_matchesNow m_slopped m_seatBest m_fedBest m_slopsBest m_sawBest m_leastNow m_stableNow m_fitsNow m_someNow m_everyNow m_otherIn m_askLeft) R0.1 := by
  refine xI_of (by decide) (Nat.le_of_ble_eq_true rfl) (fun p e s m args below meth c A C ls hl G => ?_)
  have hx := C.1
  have hb := C.2.1
  have hl : lv_has ls 3 [(0, .ref (ad 0)), (1, .int l1)] := hl
  unfold f_M_stableAt_N at hf
  refine lv_aload_n hx hb dX12_stableAt_0 rfl (lv_at hl 0 rfl) ?_
  refine lv_iconst (v := 0) hx hb dX12_stableAt_1 (by decide) ?_
  refine x_put (ws' := (wN E ad (0 : Int32) m_trouble m_where m_rv m_tape m_taped m_size m_spot m_sort m_place m_number m_fault m_wrongAt m_word m_v m_x m_past m_kept m_acts m_images m_matchNow m_slopsNow m_matchesNow m_slopped m_seatBest m_fedBest m_slopsBest m_sawBest m_leastNow m_stableNow m_fitsNow m_someNow m_everyNow m_otherIn m_askLeft)) C G fX12_39 (wN_at0) rfl rfl (Nat.le_of_ble_eq_true rfl) wN_set_m_thrown dX12_stableAt_2 (fun H locs G => ?_)
  refine lv_aload_n hx hb dX12_stableAt_5 rfl (lv_at hl 0 rfl) ?_
  refine x_get C G fX12_298.g (wN_at0) rfl dX12_stableAt_6 ?_
  refine lv_ifnullN (tgt := 16) hx hb dX12_stableAt_9 (by decide) ?_
  refine lv_aload_n hx hb dX12_stableAt_16 rfl (lv_at hl 0 rfl) ?_
  refine lv_iconst (v := 1) hx hb dX12_stableAt_17 (by decide) ?_
  obtain ⟨x1, hc, hf⟩ := bd_go hf
  refine xI_V C G (c_M_refused_m_N hc) mX12_refused kX12_45 (wN_at0) rfl ⟨Nat.le_of_ble_eq_true rfl, Nat.le_of_ble_eq_true rfl⟩ rfl hl.1 rfl (Nat.le_of_ble_eq_true rfl) ⟨Nat.le_refl _, Nat.le_refl _⟩ dX12_stableAt_18 (fun hz H locs G => ?_)
  obtain rfl := Option.some.inj hf
  exact xI_ret C G rfl dX12_stableAt_21
set_option maxHeartbeats 4000000 in
set_option maxRecDepth 100000 in
theorem c_M_leaves_m_N {l : Launch} {E : xE} {ad : Nat → Nat} {m_thrown m_trouble m_where m_taped m_size m_spot m_sort m_place m_number m_fault m_wrongAt m_acts m_images m_matchNow m_slopsNow m_matchesNow m_fedBest m_slopsBest m_sawBest m_leastNow m_stableNow m_fitsNow m_someNow m_everyNow m_askLeft : Int32} {m_rv : Value} {m_tape m_v m_x m_past m_kept m_slopped m_seatBest m_otherIn : Nat → Int32} {m_word : Int64} {R0 : Int32 × Int32 × Int32 × Int32} (hf : f_M_leaves_N = some R0) : xI l E yX12_leaves cX12_leaves 1 (some .int) 1 21 [.ref (ad 0)] (wN E ad m_thrown m_trouble m_where m_rv m_tape m_taped m_size m_spot m_sort m_place m_number m_fault m_wrongAt m_word m_v m_x m_past m_kept m_acts m_images m_matchNow m_slopsNow m_matchesNow m_slopped m_seatBest m_fedBest m_slopsBest m_sawBest m_leastNow m_stableNow m_fitsNow m_someNow m_everyNow m_otherIn m_askLeft) (wN E ad R0.2.1 R0.2.2.1 R0.2.2.2 m_rv m_tape m_taped m_size m_spot m_sort m_place m_number m_fault m_wrongAt m_word m_v m_x m_past m_kept m_acts m_images m_matchNow m_slopsNow m_matchesNow m_slopped m_seatBest m_fedBest m_slopsBest m_sawBest m_leastNow m_stableNow m_fitsNow m_someNow m_everyNow m_otherIn m_askLeft) R0.1 := by
  refine xI_of (by decide) (Nat.le_of_ble_eq_true rfl) (fun p e s m args below meth c A C ls hl G => ?_)
  have hx := C.1
  have hb := C.2.1
  have hl : lv_has ls 1 [(0, .ref (ad 0))] := hl
  unfold f_M_leaves_N at hf
  refine lv_aload_n hx hb dX12_leaves_0 rfl (lv_at hl 0 rfl) ?_
  refine lv_iconst (v := 0) hx hb dX12_leaves_1 (by decide) ?_
  refine x_put (ws' := (wN E ad (0 : Int32) m_trouble m_where m_rv m_tape m_taped m_size m_spot m_sort m_place m_number m_fault m_wrongAt m_word m_v m_x m_past m_kept m_acts m_images m_matchNow m_slopsNow m_matchesNow m_slopped m_seatBest m_fedBest m_slopsBest m_sawBest m_leastNow m_stableNow m_fitsNow m_someNow m_everyNow m_otherIn m_askLeft)) C G fX12_39 (wN_at0) rfl rfl (Nat.le_of_ble_eq_true rfl) wN_set_m_thrown dX12_leaves_2 (fun H locs G => ?_)
  refine lv_aload_n hx hb dX12_leaves_5 rfl (lv_at hl 0 rfl) ?_
  refine x_get C G fX12_298.g (wN_at0) rfl dX12_leaves_6 ?_
  refine lv_ifnonnullN hx hb dX12_leaves_9 ?_
  refine lv_aload_n hx hb dX12_leaves_12 rfl (lv_at hl 0 rfl) ?_
  refine lv_iconst (v := 1) hx hb dX12_leaves_13 (by decide) ?_
  obtain ⟨x1, hc, hf⟩ := bd_go hf
  refine xI_V C G (c_M_refused_m_N hc) mX12_refused kX12_45 (wN_at0) rfl ⟨Nat.le_of_ble_eq_true rfl, Nat.le_of_ble_eq_true rfl⟩ rfl hl.1 rfl (Nat.le_of_ble_eq_true rfl) ⟨Nat.le_refl _, Nat.le_refl _⟩ dX12_leaves_14 (fun hz H locs G => ?_)
  obtain rfl := Option.some.inj hf
  exact xI_ret C G rfl dX12_leaves_17
set_option maxHeartbeats 4000000 in
set_option maxRecDepth 100000 in
theorem c_M_fits_m_N {l : Launch} {E : xE} {ad : Nat → Nat} {m_thrown m_trouble m_where m_taped m_size m_spot m_sort m_place m_number m_fault m_wrongAt m_acts m_images m_matchNow m_slopsNow m_matchesNow m_fedBest m_slopsBest m_sawBest m_leastNow m_stableNow m_fitsNow m_someNow m_everyNow m_askLeft : Int32} {m_rv : Value} {m_tape m_v m_x m_past m_kept m_slopped m_seatBest m_otherIn : Nat → Int32} {m_word : Int64} {R0 : Int32 × Int32 × Int32 × Int32} (hf : f_M_fits_N = some R0) : xI l E yX12_fits cX12_fits 1 (some .int) 1 21 [.ref (ad 0)] (wN E ad m_thrown m_trouble m_where m_rv m_tape m_taped m_size m_spot m_sort m_place m_number m_fault m_wrongAt m_word m_v m_x m_past m_kept m_acts m_images m_matchNow m_slopsNow m_matchesNow m_slopped m_seatBest m_fedBest m_slopsBest m_sawBest m_leastNow m_stableNow m_fitsNow m_someNow m_everyNow m_otherIn m_askLeft) (wN E ad R0.2.1 R0.2.2.1 R0.2.2.2 m_rv m_tape m_taped m_size m_spot m_sort m_place m_number m_fault m_wrongAt m_word m_v m_x m_past m_kept m_acts m_images m_matchNow m_slopsNow m_matchesNow m_slopped m_seatBest m_fedBest m_slopsBest m_sawBest m_leastNow m_stableNow m_fitsNow m_someNow m_everyNow m_otherIn m_askLeft) R0.1 := by
  refine xI_of (by decide) (Nat.le_of_ble_eq_true rfl) (fun p e s m args below meth c A C ls hl G => ?_)
  have hx := C.1
  have hb := C.2.1
  have hl : lv_has ls 1 [(0, .ref (ad 0))] := hl
  unfold f_M_fits_N at hf
  refine lv_aload_n hx hb dX12_fits_0 rfl (lv_at hl 0 rfl) ?_
  refine lv_iconst (v := 0) hx hb dX12_fits_1 (by decide) ?_
  refine x_put (ws' := (wN E ad (0 : Int32) m_trouble m_where m_rv m_tape m_taped m_size m_spot m_sort m_place m_number m_fault m_wrongAt m_word m_v m_x m_past m_kept m_acts m_images m_matchNow m_slopsNow m_matchesNow m_slopped m_seatBest m_fedBest m_slopsBest m_sawBest m_leastNow m_stableNow m_fitsNow m_someNow m_everyNow m_otherIn m_askLeft)) C G fX12_39 (wN_at0) rfl rfl (Nat.le_of_ble_eq_true rfl) wN_set_m_thrown dX12_fits_2 (fun H locs G => ?_)
  refine lv_aload_n hx hb dX12_fits_5 rfl (lv_at hl 0 rfl) ?_
  refine x_get C G fX12_298.g (wN_at0) rfl dX12_fits_6 ?_
  refine lv_ifnonnullN hx hb dX12_fits_9 ?_
  refine lv_aload_n hx hb dX12_fits_12 rfl (lv_at hl 0 rfl) ?_
  refine lv_iconst (v := 1) hx hb dX12_fits_13 (by decide) ?_
  obtain ⟨x1, hc, hf⟩ := bd_go hf
  refine xI_V C G (c_M_refused_m_N hc) mX12_refused kX12_45 (wN_at0) rfl ⟨Nat.le_of_ble_eq_true rfl, Nat.le_of_ble_eq_true rfl⟩ rfl hl.1 rfl (Nat.le_of_ble_eq_true rfl) ⟨Nat.le_refl _, Nat.le_refl _⟩ dX12_fits_14 (fun hz H locs G => ?_)
  obtain rfl := Option.some.inj hf
  exact xI_ret C G rfl dX12_fits_17
set_option maxHeartbeats 4000000 in
set_option maxRecDepth 100000 in
theorem c_M_fitAt_m_N {l : Launch} {E : xE} {ad : Nat → Nat} {m_thrown m_trouble m_where m_taped m_size m_spot m_sort m_place m_number m_fault m_wrongAt m_acts m_images m_matchNow m_slopsNow m_matchesNow m_fedBest m_slopsBest m_sawBest m_leastNow m_stableNow m_fitsNow m_someNow m_everyNow m_askLeft : Int32} {m_rv : Value} {m_tape m_v m_x m_past m_kept m_slopped m_seatBest m_otherIn : Nat → Int32} {m_word : Int64} {l1 : Int32} {R0 : Int32 × Int32 × Int32 × Int32} (hf : f_M_fitAt_N l1 = some R0) : xI l E yX12_fitAt cX12_fitAt 3 (some .int) 1 21 [.ref (ad 0), .int l1] (wN E ad m_thrown m_trouble m_where m_rv m_tape m_taped m_size m_spot m_sort m_place m_number m_fault m_wrongAt m_word m_v m_x m_past m_kept m_acts m_images m_matchNow m_slopsNow m_matchesNow m_slopped m_seatBest m_fedBest m_slopsBest m_sawBest m_leastNow m_stableNow m_fitsNow m_someNow m_everyNow m_otherIn m_askLeft) (wN E ad R0.2.1 R0.2.2.1 R0.2.2.2 m_rv m_tape m_taped m_size m_spot m_sort m_place m_number m_fault m_wrongAt m_word m_v m_x m_past m_kept m_acts m_images m_matchNow m_slopsNow m_matchesNow m_slopped m_seatBest m_fedBest m_slopsBest m_sawBest m_leastNow m_stableNow m_fitsNow m_someNow m_everyNow m_otherIn m_askLeft) R0.1 := by
  refine xI_of (by decide) (Nat.le_of_ble_eq_true rfl) (fun p e s m args below meth c A C ls hl G => ?_)
  have hx := C.1
  have hb := C.2.1
  have hl : lv_has ls 3 [(0, .ref (ad 0)), (1, .int l1)] := hl
  unfold f_M_fitAt_N at hf
  refine lv_aload_n hx hb dX12_fitAt_0 rfl (lv_at hl 0 rfl) ?_
  refine lv_iconst (v := 0) hx hb dX12_fitAt_1 (by decide) ?_
  refine x_put (ws' := (wN E ad (0 : Int32) m_trouble m_where m_rv m_tape m_taped m_size m_spot m_sort m_place m_number m_fault m_wrongAt m_word m_v m_x m_past m_kept m_acts m_images m_matchNow m_slopsNow m_matchesNow m_slopped m_seatBest m_fedBest m_slopsBest m_sawBest m_leastNow m_stableNow m_fitsNow m_someNow m_everyNow m_otherIn m_askLeft)) C G fX12_39 (wN_at0) rfl rfl (Nat.le_of_ble_eq_true rfl) wN_set_m_thrown dX12_fitAt_2 (fun H locs G => ?_)
  refine lv_aload_n hx hb dX12_fitAt_5 rfl (lv_at hl 0 rfl) ?_
  refine x_get C G fX12_298.g (wN_at0) rfl dX12_fitAt_6 ?_
  refine lv_ifnullN (tgt := 16) hx hb dX12_fitAt_9 (by decide) ?_
  refine lv_aload_n hx hb dX12_fitAt_16 rfl (lv_at hl 0 rfl) ?_
  refine lv_iconst (v := 1) hx hb dX12_fitAt_17 (by decide) ?_
  obtain ⟨x1, hc, hf⟩ := bd_go hf
  refine xI_V C G (c_M_refused_m_N hc) mX12_refused kX12_45 (wN_at0) rfl ⟨Nat.le_of_ble_eq_true rfl, Nat.le_of_ble_eq_true rfl⟩ rfl hl.1 rfl (Nat.le_of_ble_eq_true rfl) ⟨Nat.le_refl _, Nat.le_refl _⟩ dX12_fitAt_18 (fun hz H locs G => ?_)
  obtain rfl := Option.some.inj hf
  exact xI_ret C G rfl dX12_fitAt_21
set_option maxHeartbeats 4000000 in
set_option maxRecDepth 100000 in
theorem c_M_could_m_N {l : Launch} {E : xE} {ad : Nat → Nat} {m_thrown m_trouble m_where m_taped m_size m_spot m_sort m_place m_number m_fault m_wrongAt m_acts m_images m_matchNow m_slopsNow m_matchesNow m_fedBest m_slopsBest m_sawBest m_leastNow m_stableNow m_fitsNow m_someNow m_everyNow m_askLeft : Int32} {m_rv : Value} {m_tape m_v m_x m_past m_kept m_slopped m_seatBest m_otherIn : Nat → Int32} {m_word : Int64} {R0 : Int32 × Int32 × Int32 × Int32} (hf : f_M_could_N = some R0) : xI l E yX12_could cX12_could 1 (some .int) 1 21 [.ref (ad 0)] (wN E ad m_thrown m_trouble m_where m_rv m_tape m_taped m_size m_spot m_sort m_place m_number m_fault m_wrongAt m_word m_v m_x m_past m_kept m_acts m_images m_matchNow m_slopsNow m_matchesNow m_slopped m_seatBest m_fedBest m_slopsBest m_sawBest m_leastNow m_stableNow m_fitsNow m_someNow m_everyNow m_otherIn m_askLeft) (wN E ad R0.2.1 R0.2.2.1 R0.2.2.2 m_rv m_tape m_taped m_size m_spot m_sort m_place m_number m_fault m_wrongAt m_word m_v m_x m_past m_kept m_acts m_images m_matchNow m_slopsNow m_matchesNow m_slopped m_seatBest m_fedBest m_slopsBest m_sawBest m_leastNow m_stableNow m_fitsNow m_someNow m_everyNow m_otherIn m_askLeft) R0.1 := by
  refine xI_of (by decide) (Nat.le_of_ble_eq_true rfl) (fun p e s m args below meth c A C ls hl G => ?_)
  have hx := C.1
  have hb := C.2.1
  have hl : lv_has ls 1 [(0, .ref (ad 0))] := hl
  unfold f_M_could_N at hf
  refine lv_aload_n hx hb dX12_could_0 rfl (lv_at hl 0 rfl) ?_
  refine lv_iconst (v := 0) hx hb dX12_could_1 (by decide) ?_
  refine x_put (ws' := (wN E ad (0 : Int32) m_trouble m_where m_rv m_tape m_taped m_size m_spot m_sort m_place m_number m_fault m_wrongAt m_word m_v m_x m_past m_kept m_acts m_images m_matchNow m_slopsNow m_matchesNow m_slopped m_seatBest m_fedBest m_slopsBest m_sawBest m_leastNow m_stableNow m_fitsNow m_someNow m_everyNow m_otherIn m_askLeft)) C G fX12_39 (wN_at0) rfl rfl (Nat.le_of_ble_eq_true rfl) wN_set_m_thrown dX12_could_2 (fun H locs G => ?_)
  refine lv_aload_n hx hb dX12_could_5 rfl (lv_at hl 0 rfl) ?_
  refine x_get C G fX12_298.g (wN_at0) rfl dX12_could_6 ?_
  refine lv_ifnonnullN hx hb dX12_could_9 ?_
  refine lv_aload_n hx hb dX12_could_12 rfl (lv_at hl 0 rfl) ?_
  refine lv_iconst (v := 1) hx hb dX12_could_13 (by decide) ?_
  obtain ⟨x1, hc, hf⟩ := bd_go hf
  refine xI_V C G (c_M_refused_m_N hc) mX12_refused kX12_45 (wN_at0) rfl ⟨Nat.le_of_ble_eq_true rfl, Nat.le_of_ble_eq_true rfl⟩ rfl hl.1 rfl (Nat.le_of_ble_eq_true rfl) ⟨Nat.le_refl _, Nat.le_refl _⟩ dX12_could_14 (fun hz H locs G => ?_)
  obtain rfl := Option.some.inj hf
  exact xI_ret C G rfl dX12_could_17
set_option maxHeartbeats 4000000 in
set_option maxRecDepth 100000 in
theorem c_M_surely_m_N {l : Launch} {E : xE} {ad : Nat → Nat} {m_thrown m_trouble m_where m_taped m_size m_spot m_sort m_place m_number m_fault m_wrongAt m_acts m_images m_matchNow m_slopsNow m_matchesNow m_fedBest m_slopsBest m_sawBest m_leastNow m_stableNow m_fitsNow m_someNow m_everyNow m_askLeft : Int32} {m_rv : Value} {m_tape m_v m_x m_past m_kept m_slopped m_seatBest m_otherIn : Nat → Int32} {m_word : Int64} {R0 : Int32 × Int32 × Int32 × Int32} (hf : f_M_surely_N = some R0) : xI l E yX12_surely cX12_surely 1 (some .int) 1 21 [.ref (ad 0)] (wN E ad m_thrown m_trouble m_where m_rv m_tape m_taped m_size m_spot m_sort m_place m_number m_fault m_wrongAt m_word m_v m_x m_past m_kept m_acts m_images m_matchNow m_slopsNow m_matchesNow m_slopped m_seatBest m_fedBest m_slopsBest m_sawBest m_leastNow m_stableNow m_fitsNow m_someNow m_everyNow m_otherIn m_askLeft) (wN E ad R0.2.1 R0.2.2.1 R0.2.2.2 m_rv m_tape m_taped m_size m_spot m_sort m_place m_number m_fault m_wrongAt m_word m_v m_x m_past m_kept m_acts m_images m_matchNow m_slopsNow m_matchesNow m_slopped m_seatBest m_fedBest m_slopsBest m_sawBest m_leastNow m_stableNow m_fitsNow m_someNow m_everyNow m_otherIn m_askLeft) R0.1 := by
  refine xI_of (by decide) (Nat.le_of_ble_eq_true rfl) (fun p e s m args below meth c A C ls hl G => ?_)
  have hx := C.1
  have hb := C.2.1
  have hl : lv_has ls 1 [(0, .ref (ad 0))] := hl
  unfold f_M_surely_N at hf
  refine lv_aload_n hx hb dX12_surely_0 rfl (lv_at hl 0 rfl) ?_
  refine lv_iconst (v := 0) hx hb dX12_surely_1 (by decide) ?_
  refine x_put (ws' := (wN E ad (0 : Int32) m_trouble m_where m_rv m_tape m_taped m_size m_spot m_sort m_place m_number m_fault m_wrongAt m_word m_v m_x m_past m_kept m_acts m_images m_matchNow m_slopsNow m_matchesNow m_slopped m_seatBest m_fedBest m_slopsBest m_sawBest m_leastNow m_stableNow m_fitsNow m_someNow m_everyNow m_otherIn m_askLeft)) C G fX12_39 (wN_at0) rfl rfl (Nat.le_of_ble_eq_true rfl) wN_set_m_thrown dX12_surely_2 (fun H locs G => ?_)
  refine lv_aload_n hx hb dX12_surely_5 rfl (lv_at hl 0 rfl) ?_
  refine x_get C G fX12_298.g (wN_at0) rfl dX12_surely_6 ?_
  refine lv_ifnonnullN hx hb dX12_surely_9 ?_
  refine lv_aload_n hx hb dX12_surely_12 rfl (lv_at hl 0 rfl) ?_
  refine lv_iconst (v := 1) hx hb dX12_surely_13 (by decide) ?_
  obtain ⟨x1, hc, hf⟩ := bd_go hf
  refine xI_V C G (c_M_refused_m_N hc) mX12_refused kX12_45 (wN_at0) rfl ⟨Nat.le_of_ble_eq_true rfl, Nat.le_of_ble_eq_true rfl⟩ rfl hl.1 rfl (Nat.le_of_ble_eq_true rfl) ⟨Nat.le_refl _, Nat.le_refl _⟩ dX12_surely_14 (fun hz H locs G => ?_)
  obtain rfl := Option.some.inj hf
  exact xI_ret C G rfl dX12_surely_17
set_option maxHeartbeats 4000000 in
set_option maxRecDepth 100000 in
theorem c_M_ask_m_N {l : Launch} {E : xE} {ad : Nat → Nat} {m_thrown m_trouble m_where m_taped m_size m_spot m_sort m_place m_number m_fault m_wrongAt m_acts m_images m_matchNow m_slopsNow m_matchesNow m_fedBest m_slopsBest m_sawBest m_leastNow m_stableNow m_fitsNow m_someNow m_everyNow m_askLeft : Int32} {m_rv : Value} {m_tape m_v m_x m_past m_kept m_slopped m_seatBest m_otherIn : Nat → Int32} {m_word : Int64} {R0 : Int32 × Int32 × Int32 × Int32} (hf : f_M_ask_N = some R0) : xI l E yX12_ask cX12_ask 1 (some .int) 1 21 [.ref (ad 0)] (wN E ad m_thrown m_trouble m_where m_rv m_tape m_taped m_size m_spot m_sort m_place m_number m_fault m_wrongAt m_word m_v m_x m_past m_kept m_acts m_images m_matchNow m_slopsNow m_matchesNow m_slopped m_seatBest m_fedBest m_slopsBest m_sawBest m_leastNow m_stableNow m_fitsNow m_someNow m_everyNow m_otherIn m_askLeft) (wN E ad R0.2.1 R0.2.2.1 R0.2.2.2 m_rv m_tape m_taped m_size m_spot m_sort m_place m_number m_fault m_wrongAt m_word m_v m_x m_past m_kept m_acts m_images m_matchNow m_slopsNow m_matchesNow m_slopped m_seatBest m_fedBest m_slopsBest m_sawBest m_leastNow m_stableNow m_fitsNow m_someNow m_everyNow m_otherIn m_askLeft) R0.1 := by
  refine xI_of (by decide) (Nat.le_of_ble_eq_true rfl) (fun p e s m args below meth c A C ls hl G => ?_)
  have hx := C.1
  have hb := C.2.1
  have hl : lv_has ls 1 [(0, .ref (ad 0))] := hl
  unfold f_M_ask_N at hf
  refine lv_aload_n hx hb dX12_ask_0 rfl (lv_at hl 0 rfl) ?_
  refine lv_iconst (v := 0) hx hb dX12_ask_1 (by decide) ?_
  refine x_put (ws' := (wN E ad (0 : Int32) m_trouble m_where m_rv m_tape m_taped m_size m_spot m_sort m_place m_number m_fault m_wrongAt m_word m_v m_x m_past m_kept m_acts m_images m_matchNow m_slopsNow m_matchesNow m_slopped m_seatBest m_fedBest m_slopsBest m_sawBest m_leastNow m_stableNow m_fitsNow m_someNow m_everyNow m_otherIn m_askLeft)) C G fX12_39 (wN_at0) rfl rfl (Nat.le_of_ble_eq_true rfl) wN_set_m_thrown dX12_ask_2 (fun H locs G => ?_)
  refine lv_aload_n hx hb dX12_ask_5 rfl (lv_at hl 0 rfl) ?_
  refine x_get C G fX12_298.g (wN_at0) rfl dX12_ask_6 ?_
  refine lv_ifnonnullN hx hb dX12_ask_9 ?_
  refine lv_aload_n hx hb dX12_ask_12 rfl (lv_at hl 0 rfl) ?_
  refine lv_iconst (v := 1) hx hb dX12_ask_13 (by decide) ?_
  obtain ⟨x1, hc, hf⟩ := bd_go hf
  refine xI_V C G (c_M_refused_m_N hc) mX12_refused kX12_45 (wN_at0) rfl ⟨Nat.le_of_ble_eq_true rfl, Nat.le_of_ble_eq_true rfl⟩ rfl hl.1 rfl (Nat.le_of_ble_eq_true rfl) ⟨Nat.le_refl _, Nat.le_refl _⟩ dX12_ask_14 (fun hz H locs G => ?_)
  refine lv_goto (tgt := 28) hx hb dX12_ask_17 (by decide) ?_
  obtain rfl := Option.some.inj hf
  exact xI_ret C G rfl dX12_ask_28
set_option maxHeartbeats 4000000 in
set_option maxRecDepth 100000 in
theorem c_M_askLeaves_m_N {l : Launch} {E : xE} {ad : Nat → Nat} {m_thrown m_trouble m_where m_taped m_size m_spot m_sort m_place m_number m_fault m_wrongAt m_acts m_images m_matchNow m_slopsNow m_matchesNow m_fedBest m_slopsBest m_sawBest m_leastNow m_stableNow m_fitsNow m_someNow m_everyNow m_askLeft : Int32} {m_rv : Value} {m_tape m_v m_x m_past m_kept m_slopped m_seatBest m_otherIn : Nat → Int32} {m_word : Int64} {R0 : Int32 × Int32 × Int32 × Int32} (hf : f_M_askLeaves_N = some R0) : xI l E yX12_askLeaves cX12_askLeaves 1 (some .int) 1 21 [.ref (ad 0)] (wN E ad m_thrown m_trouble m_where m_rv m_tape m_taped m_size m_spot m_sort m_place m_number m_fault m_wrongAt m_word m_v m_x m_past m_kept m_acts m_images m_matchNow m_slopsNow m_matchesNow m_slopped m_seatBest m_fedBest m_slopsBest m_sawBest m_leastNow m_stableNow m_fitsNow m_someNow m_everyNow m_otherIn m_askLeft) (wN E ad R0.2.1 R0.2.2.1 R0.2.2.2 m_rv m_tape m_taped m_size m_spot m_sort m_place m_number m_fault m_wrongAt m_word m_v m_x m_past m_kept m_acts m_images m_matchNow m_slopsNow m_matchesNow m_slopped m_seatBest m_fedBest m_slopsBest m_sawBest m_leastNow m_stableNow m_fitsNow m_someNow m_everyNow m_otherIn m_askLeft) R0.1 := by
  refine xI_of (by decide) (Nat.le_of_ble_eq_true rfl) (fun p e s m args below meth c A C ls hl G => ?_)
  have hx := C.1
  have hb := C.2.1
  have hl : lv_has ls 1 [(0, .ref (ad 0))] := hl
  unfold f_M_askLeaves_N at hf
  refine lv_aload_n hx hb dX12_askLeaves_0 rfl (lv_at hl 0 rfl) ?_
  refine lv_iconst (v := 0) hx hb dX12_askLeaves_1 (by decide) ?_
  refine x_put (ws' := (wN E ad (0 : Int32) m_trouble m_where m_rv m_tape m_taped m_size m_spot m_sort m_place m_number m_fault m_wrongAt m_word m_v m_x m_past m_kept m_acts m_images m_matchNow m_slopsNow m_matchesNow m_slopped m_seatBest m_fedBest m_slopsBest m_sawBest m_leastNow m_stableNow m_fitsNow m_someNow m_everyNow m_otherIn m_askLeft)) C G fX12_39 (wN_at0) rfl rfl (Nat.le_of_ble_eq_true rfl) wN_set_m_thrown dX12_askLeaves_2 (fun H locs G => ?_)
  refine lv_aload_n hx hb dX12_askLeaves_5 rfl (lv_at hl 0 rfl) ?_
  refine x_get C G fX12_298.g (wN_at0) rfl dX12_askLeaves_6 ?_
  refine lv_ifnonnullN hx hb dX12_askLeaves_9 ?_
  refine lv_aload_n hx hb dX12_askLeaves_12 rfl (lv_at hl 0 rfl) ?_
  refine lv_iconst (v := 1) hx hb dX12_askLeaves_13 (by decide) ?_
  obtain ⟨x1, hc, hf⟩ := bd_go hf
  refine xI_V C G (c_M_refused_m_N hc) mX12_refused kX12_45 (wN_at0) rfl ⟨Nat.le_of_ble_eq_true rfl, Nat.le_of_ble_eq_true rfl⟩ rfl hl.1 rfl (Nat.le_of_ble_eq_true rfl) ⟨Nat.le_refl _, Nat.le_refl _⟩ dX12_askLeaves_14 (fun hz H locs G => ?_)
  obtain rfl := Option.some.inj hf
  exact xI_ret C G rfl dX12_askLeaves_17
set_option maxHeartbeats 4000000 in
set_option maxRecDepth 100000 in
theorem c_M_judge_m_N {l : Launch} {E : xE} {ad : Nat → Nat} {m_thrown m_trouble m_where m_taped m_size m_spot m_sort m_place m_number m_fault m_wrongAt m_acts m_images m_matchNow m_slopsNow m_matchesNow m_fedBest m_slopsBest m_sawBest m_leastNow m_stableNow m_fitsNow m_someNow m_everyNow m_askLeft : Int32} {m_rv : Value} {m_tape m_v m_x m_past m_kept m_slopped m_seatBest m_otherIn : Nat → Int32} {m_word : Int64} {R0 : Int32 × Int32 × Int32 × Int32} (hf : f_M_judge_N = some R0) : xI l E yX12_judge cX12_judge 1 (some .int) 1 21 [.ref (ad 0)] (wN E ad m_thrown m_trouble m_where m_rv m_tape m_taped m_size m_spot m_sort m_place m_number m_fault m_wrongAt m_word m_v m_x m_past m_kept m_acts m_images m_matchNow m_slopsNow m_matchesNow m_slopped m_seatBest m_fedBest m_slopsBest m_sawBest m_leastNow m_stableNow m_fitsNow m_someNow m_everyNow m_otherIn m_askLeft) (wN E ad R0.2.1 R0.2.2.1 R0.2.2.2 m_rv m_tape m_taped m_size m_spot m_sort m_place m_number m_fault m_wrongAt m_word m_v m_x m_past m_kept m_acts m_images m_matchNow m_slopsNow m_matchesNow m_slopped m_seatBest m_fedBest m_slopsBest m_sawBest m_leastNow m_stableNow m_fitsNow m_someNow m_everyNow m_otherIn m_askLeft) R0.1 := by
  refine xI_of (by decide) (Nat.le_of_ble_eq_true rfl) (fun p e s m args below meth c A C ls hl G => ?_)
  have hx := C.1
  have hb := C.2.1
  have hl : lv_has ls 1 [(0, .ref (ad 0))] := hl
  unfold f_M_judge_N at hf
  refine lv_aload_n hx hb dX12_judge_0 rfl (lv_at hl 0 rfl) ?_
  refine lv_iconst (v := 0) hx hb dX12_judge_1 (by decide) ?_
  refine x_put (ws' := (wN E ad (0 : Int32) m_trouble m_where m_rv m_tape m_taped m_size m_spot m_sort m_place m_number m_fault m_wrongAt m_word m_v m_x m_past m_kept m_acts m_images m_matchNow m_slopsNow m_matchesNow m_slopped m_seatBest m_fedBest m_slopsBest m_sawBest m_leastNow m_stableNow m_fitsNow m_someNow m_everyNow m_otherIn m_askLeft)) C G fX12_39 (wN_at0) rfl rfl (Nat.le_of_ble_eq_true rfl) wN_set_m_thrown dX12_judge_2 (fun H locs G => ?_)
  refine lv_aload_n hx hb dX12_judge_5 rfl (lv_at hl 0 rfl) ?_
  refine x_get C G fX12_298.g (wN_at0) rfl dX12_judge_6 ?_
  refine lv_ifnonnullN hx hb dX12_judge_9 ?_
  refine lv_aload_n hx hb dX12_judge_12 rfl (lv_at hl 0 rfl) ?_
  refine lv_iconst (v := 1) hx hb dX12_judge_13 (by decide) ?_
  obtain ⟨x1, hc, hf⟩ := bd_go hf
  refine xI_V C G (c_M_refused_m_N hc) mX12_refused kX12_45 (wN_at0) rfl ⟨Nat.le_of_ble_eq_true rfl, Nat.le_of_ble_eq_true rfl⟩ rfl hl.1 rfl (Nat.le_of_ble_eq_true rfl) ⟨Nat.le_refl _, Nat.le_refl _⟩ dX12_judge_14 (fun hz H locs G => ?_)
  refine lv_goto (tgt := 29) hx hb dX12_judge_17 (by decide) ?_
  obtain rfl := Option.some.inj hf
  exact xI_ret C G rfl dX12_judge_29
set_option maxHeartbeats 4000000 in
set_option maxRecDepth 100000 in
theorem c_M_refusesPride_m_N {l : Launch} {E : xE} {ad : Nat → Nat} {m_thrown m_trouble m_where m_taped m_size m_spot m_sort m_place m_number m_fault m_wrongAt m_acts m_images m_matchNow m_slopsNow m_matchesNow m_fedBest m_slopsBest m_sawBest m_leastNow m_stableNow m_fitsNow m_someNow m_everyNow m_askLeft : Int32} {m_rv : Value} {m_tape m_v m_x m_past m_kept m_slopped m_seatBest m_otherIn : Nat → Int32} {m_word : Int64} {l1 : Int32} {R0 : Int32} (hf : f_M_refusesPride_N l1 = some R0) : xI l E yX12_refusesPride cX12_refusesPride 2 (some .int) 0 0 [.ref (ad 0), .int l1] (wN E ad m_thrown m_trouble m_where m_rv m_tape m_taped m_size m_spot m_sort m_place m_number m_fault m_wrongAt m_word m_v m_x m_past m_kept m_acts m_images m_matchNow m_slopsNow m_matchesNow m_slopped m_seatBest m_fedBest m_slopsBest m_sawBest m_leastNow m_stableNow m_fitsNow m_someNow m_everyNow m_otherIn m_askLeft) (wN E ad m_thrown m_trouble m_where m_rv m_tape m_taped m_size m_spot m_sort m_place m_number m_fault m_wrongAt m_word m_v m_x m_past m_kept m_acts m_images m_matchNow m_slopsNow m_matchesNow m_slopped m_seatBest m_fedBest m_slopsBest m_sawBest m_leastNow m_stableNow m_fitsNow m_someNow m_everyNow m_otherIn m_askLeft) R0 := by
  refine xI_of (by decide) (Nat.le_of_ble_eq_true rfl) (fun p e s m args below meth c A C ls hl G => ?_)
  have hx := C.1
  have hb := C.2.1
  have hl : lv_has ls 2 [(0, .ref (ad 0)), (1, .int l1)] := hl
  unfold f_M_refusesPride_N at hf
  refine lv_aload_n hx hb dX12_refusesPride_0 rfl (lv_at hl 0 rfl) ?_
  refine x_get C G fX12_298.g (wN_at0) rfl dX12_refusesPride_1 ?_
  refine lv_ifnonnullN hx hb dX12_refusesPride_4 ?_
  refine lv_iconst (v := 1) hx hb dX12_refusesPride_7 (by decide) ?_
  refine lv_goto (tgt := 26) hx hb dX12_refusesPride_8 (by decide) ?_
  obtain rfl := Option.some.inj hf
  exact xI_ret C G rfl dX12_refusesPride_26
set_option maxHeartbeats 4000000 in
set_option maxRecDepth 100000 in
theorem c_M_lost_m_N {l : Launch} {E : xE} {ad : Nat → Nat} {m_thrown m_trouble m_where m_taped m_size m_spot m_sort m_place m_number m_fault m_wrongAt m_acts m_images m_matchNow m_slopsNow m_matchesNow m_fedBest m_slopsBest m_sawBest m_leastNow m_stableNow m_fitsNow m_someNow m_everyNow m_askLeft : Int32} {m_rv : Value} {m_tape m_v m_x m_past m_kept m_slopped m_seatBest m_otherIn : Nat → Int32} {m_word : Int64} {l1 : Int32} {R0 : Int32 × Int32 × Int32} (hf : f_M_lost l1 = some R0) : xI l E yX12_lost cX12_lost 2 (some .int) 1 21 [.ref (ad 0), .int l1] (wN E ad m_thrown m_trouble m_where m_rv m_tape m_taped m_size m_spot m_sort m_place m_number m_fault m_wrongAt m_word m_v m_x m_past m_kept m_acts m_images m_matchNow m_slopsNow m_matchesNow m_slopped m_seatBest m_fedBest m_slopsBest m_sawBest m_leastNow m_stableNow m_fitsNow m_someNow m_everyNow m_otherIn m_askLeft) (wN E ad m_thrown R0.2.1 R0.2.2 m_rv m_tape m_taped m_size m_spot m_sort m_place m_number m_fault m_wrongAt m_word m_v m_x m_past m_kept m_acts m_images m_matchNow m_slopsNow m_matchesNow m_slopped m_seatBest m_fedBest m_slopsBest m_sawBest m_leastNow m_stableNow m_fitsNow m_someNow m_everyNow m_otherIn m_askLeft) R0.1 := by
  refine xI_of (by decide) (Nat.le_of_ble_eq_true rfl) (fun p e s m args below meth c A C ls hl G => ?_)
  have hx := C.1
  have hb := C.2.1
  have hl : lv_has ls 2 [(0, .ref (ad 0)), (1, .int l1)] := hl
  unfold f_M_lost at hf
  refine lv_aload_n hx hb dX12_lost_0 rfl (lv_at hl 0 rfl) ?_
  refine lv_iload_n hx hb dX12_lost_1 rfl (lv_at hl 1 rfl) ?_
  obtain ⟨x1, hc, hf⟩ := bd_go hf
  refine xI_V C G (c_M_refused_m_N hc) mX12_refused kX12_45 (wN_at0) rfl ⟨Nat.le_of_ble_eq_true rfl, Nat.le_of_ble_eq_true rfl⟩ rfl hl.1 rfl (Nat.le_of_ble_eq_true rfl) ⟨Nat.le_refl _, Nat.le_refl _⟩ dX12_lost_2 (fun hz H locs G => ?_)
  refine lv_pop hx hb dX12_lost_5 rfl ?_
  refine lv_bipush (v := -100) hx hb dX12_lost_6 (by decide) ?_
  obtain rfl := Option.some.inj hf
  exact xI_ret C G rfl dX12_lost_8
set_option maxHeartbeats 4000000 in
set_option maxRecDepth 100000 in
theorem c_M_saw_m_N {l : Launch} {E : xE} {ad : Nat → Nat} {m_thrown m_trouble m_where m_taped m_size m_spot m_sort m_place m_number m_fault m_wrongAt m_acts m_images m_matchNow m_slopsNow m_matchesNow m_fedBest m_slopsBest m_sawBest m_leastNow m_stableNow m_fitsNow m_someNow m_everyNow m_askLeft : Int32} {m_rv : Value} {m_tape m_v m_x m_past m_kept m_slopped m_seatBest m_otherIn : Nat → Int32} {m_word : Int64} {l1 : Int32} {l2 : Int32} {l3 : Int32} {l4 : Int32} {R0 : Int32 × Int32 × Int32 × Int32} (hf : f_M_saw_N l1 l2 l3 l4 = some R0) : xI l E yX12_saw cX12_saw 6 (some .int) 2 42 [.ref (ad 0), .int l1, .int l2, .int l3, .int l4] (wN E ad m_thrown m_trouble m_where m_rv m_tape m_taped m_size m_spot m_sort m_place m_number m_fault m_wrongAt m_word m_v m_x m_past m_kept m_acts m_images m_matchNow m_slopsNow m_matchesNow m_slopped m_seatBest m_fedBest m_slopsBest m_sawBest m_leastNow m_stableNow m_fitsNow m_someNow m_everyNow m_otherIn m_askLeft) (wN E ad R0.2.1 R0.2.2.1 R0.2.2.2 m_rv m_tape m_taped m_size m_spot m_sort m_place m_number m_fault m_wrongAt m_word m_v m_x m_past m_kept m_acts m_images m_matchNow m_slopsNow m_matchesNow m_slopped m_seatBest m_fedBest m_slopsBest m_sawBest m_leastNow m_stableNow m_fitsNow m_someNow m_everyNow m_otherIn m_askLeft) R0.1 := by
  refine xI_of (by decide) (Nat.le_of_ble_eq_true rfl) (fun p e s m args below meth c A C ls hl G => ?_)
  have hx := C.1
  have hb := C.2.1
  have hl : lv_has ls 6 [(0, .ref (ad 0)), (1, .int l1), (2, .int l2), (3, .int l3), (4, .int l4)] := hl
  unfold f_M_saw_N at hf
  refine lv_aload_n hx hb dX12_saw_0 rfl (lv_at hl 0 rfl) ?_
  refine lv_iconst (v := 0) hx hb dX12_saw_1 (by decide) ?_
  refine x_put (ws' := (wN E ad (0 : Int32) m_trouble m_where m_rv m_tape m_taped m_size m_spot m_sort m_place m_number m_fault m_wrongAt m_word m_v m_x m_past m_kept m_acts m_images m_matchNow m_slopsNow m_matchesNow m_slopped m_seatBest m_fedBest m_slopsBest m_sawBest m_leastNow m_stableNow m_fitsNow m_someNow m_everyNow m_otherIn m_askLeft)) C G fX12_39 (wN_at0) rfl rfl (Nat.le_of_ble_eq_true rfl) wN_set_m_thrown dX12_saw_2 (fun H locs G => ?_)
  refine lv_aload_n hx hb dX12_saw_5 rfl (lv_at hl 0 rfl) ?_
  refine lv_iload_n hx hb dX12_saw_6 rfl (lv_at hl 1 rfl) ?_
  obtain ⟨x1, hc, hf⟩ := bd_go hf
  refine xI_V C G (c_M_refusesPride_m_N hc) mX12_refusesPride kX12_466 (wN_at0) rfl ⟨Nat.le_of_ble_eq_true rfl, Nat.le_of_ble_eq_true rfl⟩ rfl hl.1 rfl (Nat.le_of_ble_eq_true rfl) ⟨Nat.le_refl _, Nat.le_refl _⟩ dX12_saw_7 (fun hz H locs G => ?_)
  refine lv_istore (lv' := [(5, .int x1), (0, .ref (ad 0)), (1, .int l1), (2, .int l2), (3, .int l3), (4, .int l4)]) hx hb dX12_saw_10 hl (by decide) rfl (fun ls hl => ?_)
  refine lv_iload hx hb dX12_saw_12 (lv_at hl 0 rfl) ?_
  refine lv_if_le (tgt := 26) hx hb dX12_saw_14 (by decide) (fun h => ?_) (fun h => ?_)
  · have hf := it_t h hf
    refine lv_aload_n hx hb dX12_saw_26 rfl (lv_at hl 1 rfl) ?_
    refine lv_iload hx hb dX12_saw_27 (lv_at hl 5 rfl) ?_
    refine lv_if_eq (tgt := 41) hx hb dX12_saw_29 (by decide) (fun h => ?_) (fun h => ?_)
    · have hf := it_t h hf
      refine lv_iload_n hx hb dX12_saw_41 rfl (lv_at hl 2 rfl) ?_
      refine lv_iload_n hx hb dX12_saw_42 rfl (lv_at hl 3 rfl) ?_
      refine lv_iload_n hx hb dX12_saw_43 rfl (lv_at hl 4 rfl) ?_
      exact nomatch hf
    · have hf := it_f h hf
      refine lv_iload_n hx hb dX12_saw_32 rfl (lv_at hl 2 rfl) ?_
      refine lv_iload_n hx hb dX12_saw_33 rfl (lv_at hl 4 rfl) ?_
      refine lv_iload_n hx hb dX12_saw_34 rfl (lv_at hl 3 rfl) ?_
      exact nomatch hf
  · have hf := it_f h hf
    refine lv_aload_n hx hb dX12_saw_17 rfl (lv_at hl 1 rfl) ?_
    refine lv_iload hx hb dX12_saw_18 (lv_at hl 0 rfl) ?_
    obtain ⟨x2, hc, hf⟩ := bd_go hf
    refine xI_V C G (c_M_lost_m_N hc) mX12_lost kX12_469 (wN_at0) rfl ⟨Nat.le_of_ble_eq_true rfl, Nat.le_of_ble_eq_true rfl⟩ rfl hl.1 rfl (Nat.le_of_ble_eq_true rfl) ⟨Nat.le_refl _, Nat.le_refl _⟩ dX12_saw_20 (fun hz H locs G => ?_)
    refine lv_goto (tgt := 50) hx hb dX12_saw_23 (by decide) ?_
    obtain rfl := Option.some.inj hf
    exact xI_ret C G rfl dX12_saw_50
set_option maxHeartbeats 4000000 in
set_option maxRecDepth 100000 in
theorem c_M_rests_m_N {l : Launch} {E : xE} {ad : Nat → Nat} {m_thrown m_trouble m_where m_taped m_size m_spot m_sort m_place m_number m_fault m_wrongAt m_acts m_images m_matchNow m_slopsNow m_matchesNow m_fedBest m_slopsBest m_sawBest m_leastNow m_stableNow m_fitsNow m_someNow m_everyNow m_askLeft : Int32} {m_rv : Value} {m_tape m_v m_x m_past m_kept m_slopped m_seatBest m_otherIn : Nat → Int32} {m_word : Int64} {l1 : Int32} {R0 : Int32 × Int32 × Int32 × Int32} (hf : f_M_rests_N l1 = some R0) : xI l E yX12_rests cX12_rests 5 (some .int) 1 21 [.ref (ad 0), .int l1] (wN E ad m_thrown m_trouble m_where m_rv m_tape m_taped m_size m_spot m_sort m_place m_number m_fault m_wrongAt m_word m_v m_x m_past m_kept m_acts m_images m_matchNow m_slopsNow m_matchesNow m_slopped m_seatBest m_fedBest m_slopsBest m_sawBest m_leastNow m_stableNow m_fitsNow m_someNow m_everyNow m_otherIn m_askLeft) (wN E ad R0.2.1 R0.2.2.1 R0.2.2.2 m_rv m_tape m_taped m_size m_spot m_sort m_place m_number m_fault m_wrongAt m_word m_v m_x m_past m_kept m_acts m_images m_matchNow m_slopsNow m_matchesNow m_slopped m_seatBest m_fedBest m_slopsBest m_sawBest m_leastNow m_stableNow m_fitsNow m_someNow m_everyNow m_otherIn m_askLeft) R0.1 := by
  refine xI_of (by decide) (Nat.le_of_ble_eq_true rfl) (fun p e s m args below meth c A C ls hl G => ?_)
  have hx := C.1
  have hb := C.2.1
  have hl : lv_has ls 5 [(0, .ref (ad 0)), (1, .int l1)] := hl
  unfold f_M_rests_N at hf
  refine lv_aload_n hx hb dX12_rests_0 rfl (lv_at hl 0 rfl) ?_
  refine lv_iconst (v := 0) hx hb dX12_rests_1 (by decide) ?_
  refine x_put (ws' := (wN E ad (0 : Int32) m_trouble m_where m_rv m_tape m_taped m_size m_spot m_sort m_place m_number m_fault m_wrongAt m_word m_v m_x m_past m_kept m_acts m_images m_matchNow m_slopsNow m_matchesNow m_slopped m_seatBest m_fedBest m_slopsBest m_sawBest m_leastNow m_stableNow m_fitsNow m_someNow m_everyNow m_otherIn m_askLeft)) C G fX12_39 (wN_at0) rfl rfl (Nat.le_of_ble_eq_true rfl) wN_set_m_thrown dX12_rests_2 (fun H locs G => ?_)
  refine lv_aload_n hx hb dX12_rests_5 rfl (lv_at hl 0 rfl) ?_
  refine lv_iload_n hx hb dX12_rests_6 rfl (lv_at hl 1 rfl) ?_
  obtain ⟨x1, hc, hf⟩ := bd_go hf
  refine xI_V C G (c_M_refusesPride_m_N hc) mX12_refusesPride kX12_466 (wN_at0) rfl ⟨Nat.le_of_ble_eq_true rfl, Nat.le_of_ble_eq_true rfl⟩ rfl hl.1 rfl (Nat.le_of_ble_eq_true rfl) ⟨Nat.le_refl _, Nat.le_refl _⟩ dX12_rests_7 (fun hz H locs G => ?_)
  refine lv_istore_n (lv' := [(2, .int x1), (0, .ref (ad 0)), (1, .int l1)]) hx hb dX12_rests_10 rfl hl (by decide) rfl (fun ls hl => ?_)
  refine lv_iload_n hx hb dX12_rests_11 rfl (lv_at hl 0 rfl) ?_
  refine lv_if_le (tgt := 21) hx hb dX12_rests_12 (by decide) (fun h => ?_) (fun h => ?_)
  · have hf := it_t h hf
    refine lv_iconst (v := 0) hx hb dX12_rests_21 (by decide) ?_
    refine lv_istore_n (lv' := [(3, .int (0 : Int32)), (2, .int x1), (0, .ref (ad 0)), (1, .int l1)]) hx hb dX12_rests_22 rfl hl (by decide) rfl (fun ls hl => ?_)
    refine lv_iconst (v := 0) hx hb dX12_rests_23 (by decide) ?_
    refine lv_istore (lv' := [(4, .int (0 : Int32)), (3, .int (0 : Int32)), (2, .int x1), (0, .ref (ad 0)), (1, .int l1)]) hx hb dX12_rests_24 hl (by decide) rfl (fun ls hl => ?_)
    refine lv_iload hx hb dX12_rests_26 (lv_at hl 0 rfl) ?_
    refine lv_iconst (v := 4) hx hb dX12_rests_28 (by decide) ?_
    refine lv_icmp_ge (tgt := 55) hx hb dX12_rests_29 (by decide) (fun h => ?_) (fun h => ?_)
    · have hf := it_t h hf
      refine lv_aload_n hx hb dX12_rests_55 rfl (lv_at hl 3 rfl) ?_
      refine lv_iload_n hx hb dX12_rests_56 rfl (lv_at hl 1 rfl) ?_
      obtain ⟨x2, hc, hf⟩ := bd_go hf
      refine xI_V C G (c_M_good_m_N hc) mX12_good kX12_49 (wN_at0) rfl ⟨Nat.le_of_ble_eq_true rfl, Nat.le_of_ble_eq_true rfl⟩ rfl hl.1 rfl (Nat.le_of_ble_eq_true rfl) ⟨Nat.le_refl _, Nat.le_refl _⟩ dX12_rests_57 (fun hz H locs G => ?_)
      obtain rfl := Option.some.inj hf
      exact xI_ret C G rfl dX12_rests_60
    · have hf := it_f h hf
      refine lv_iload_n hx hb dX12_rests_32 rfl (lv_at hl 1 rfl) ?_
      refine lv_iload_n hx hb dX12_rests_33 rfl (lv_at hl 4 rfl) ?_
      refine lv_iload hx hb dX12_rests_34 (lv_at hl 0 rfl) ?_
      exact nomatch hf
  · have hf := it_f h hf
    refine lv_aload_n hx hb dX12_rests_15 rfl (lv_at hl 1 rfl) ?_
    refine lv_iload_n hx hb dX12_rests_16 rfl (lv_at hl 0 rfl) ?_
    obtain ⟨x3, hc, hf⟩ := bd_go hf
    refine xI_V C G (c_M_refused_m_N hc) mX12_refused kX12_45 (wN_at0) rfl ⟨Nat.le_of_ble_eq_true rfl, Nat.le_of_ble_eq_true rfl⟩ rfl hl.1 rfl (Nat.le_of_ble_eq_true rfl) ⟨Nat.le_refl _, Nat.le_refl _⟩ dX12_rests_17 (fun hz H locs G => ?_)
    obtain rfl := Option.some.inj hf
    exact xI_ret C G rfl dX12_rests_20
set_option maxHeartbeats 4000000 in
set_option maxRecDepth 100000 in
theorem c_M_rest_m_N {l : Launch} {E : xE} {ad : Nat → Nat} {m_thrown m_trouble m_where m_taped m_size m_spot m_sort m_place m_number m_fault m_wrongAt m_acts m_images m_matchNow m_slopsNow m_matchesNow m_fedBest m_slopsBest m_sawBest m_leastNow m_stableNow m_fitsNow m_someNow m_everyNow m_askLeft : Int32} {m_rv : Value} {m_tape m_v m_x m_past m_kept m_slopped m_seatBest m_otherIn : Nat → Int32} {m_word : Int64} {l1 : Int32} {R0 : Int32 × Int32 × Int32 × Int32} (hf : f_M_rest_N l1 = some R0) : xI l E yX12_rest cX12_rest 4 (some .int) 1 21 [.ref (ad 0), .int l1] (wN E ad m_thrown m_trouble m_where m_rv m_tape m_taped m_size m_spot m_sort m_place m_number m_fault m_wrongAt m_word m_v m_x m_past m_kept m_acts m_images m_matchNow m_slopsNow m_matchesNow m_slopped m_seatBest m_fedBest m_slopsBest m_sawBest m_leastNow m_stableNow m_fitsNow m_someNow m_everyNow m_otherIn m_askLeft) (wN E ad R0.2.1 R0.2.2.1 R0.2.2.2 m_rv m_tape m_taped m_size m_spot m_sort m_place m_number m_fault m_wrongAt m_word m_v m_x m_past m_kept m_acts m_images m_matchNow m_slopsNow m_matchesNow m_slopped m_seatBest m_fedBest m_slopsBest m_sawBest m_leastNow m_stableNow m_fitsNow m_someNow m_everyNow m_otherIn m_askLeft) R0.1 := by
  refine xI_of (by decide) (Nat.le_of_ble_eq_true rfl) (fun p e s m args below meth c A C ls hl G => ?_)
  have hx := C.1
  have hb := C.2.1
  have hl : lv_has ls 4 [(0, .ref (ad 0)), (1, .int l1)] := hl
  unfold f_M_rest_N at hf
  refine lv_aload_n hx hb dX12_rest_0 rfl (lv_at hl 0 rfl) ?_
  refine lv_iconst (v := 0) hx hb dX12_rest_1 (by decide) ?_
  refine x_put (ws' := (wN E ad (0 : Int32) m_trouble m_where m_rv m_tape m_taped m_size m_spot m_sort m_place m_number m_fault m_wrongAt m_word m_v m_x m_past m_kept m_acts m_images m_matchNow m_slopsNow m_matchesNow m_slopped m_seatBest m_fedBest m_slopsBest m_sawBest m_leastNow m_stableNow m_fitsNow m_someNow m_everyNow m_otherIn m_askLeft)) C G fX12_39 (wN_at0) rfl rfl (Nat.le_of_ble_eq_true rfl) wN_set_m_thrown dX12_rest_2 (fun H locs G => ?_)
  refine lv_aload_n hx hb dX12_rest_5 rfl (lv_at hl 0 rfl) ?_
  refine lv_iload_n hx hb dX12_rest_6 rfl (lv_at hl 1 rfl) ?_
  obtain ⟨x1, hc, hf⟩ := bd_go hf
  refine xI_V C G (c_M_refusesPride_m_N hc) mX12_refusesPride kX12_466 (wN_at0) rfl ⟨Nat.le_of_ble_eq_true rfl, Nat.le_of_ble_eq_true rfl⟩ rfl hl.1 rfl (Nat.le_of_ble_eq_true rfl) ⟨Nat.le_refl _, Nat.le_refl _⟩ dX12_rest_7 (fun hz H locs G => ?_)
  refine lv_istore_n (lv' := [(2, .int x1), (0, .ref (ad 0)), (1, .int l1)]) hx hb dX12_rest_10 rfl hl (by decide) rfl (fun ls hl => ?_)
  refine lv_iload_n hx hb dX12_rest_11 rfl (lv_at hl 0 rfl) ?_
  refine lv_if_le (tgt := 21) hx hb dX12_rest_12 (by decide) (fun h => ?_) (fun h => ?_)
  · have hf := it_t h hf
    refine lv_iconst (v := 0) hx hb dX12_rest_21 (by decide) ?_
    refine lv_istore_n (lv' := [(3, .int (0 : Int32)), (2, .int x1), (0, .ref (ad 0)), (1, .int l1)]) hx hb dX12_rest_22 rfl hl (by decide) rfl (fun ls hl => ?_)
    refine lv_iload_n hx hb dX12_rest_23 rfl (lv_at hl 0 rfl) ?_
    refine lv_iconst (v := 4) hx hb dX12_rest_24 (by decide) ?_
    refine lv_icmp_ge (tgt := 57) hx hb dX12_rest_25 (by decide) (fun h => ?_) (fun h => ?_)
    · have hf := it_t h hf
      refine lv_aload_n hx hb dX12_rest_57 rfl (lv_at hl 2 rfl) ?_
      refine lv_bipush (v := -2) hx hb dX12_rest_58 (by decide) ?_
      obtain ⟨x2, hc, hf⟩ := bd_go hf
      refine xI_V C G (c_M_good_m_N hc) mX12_good kX12_49 (wN_at0) rfl ⟨Nat.le_of_ble_eq_true rfl, Nat.le_of_ble_eq_true rfl⟩ rfl hl.1 rfl (Nat.le_of_ble_eq_true rfl) ⟨Nat.le_refl _, Nat.le_refl _⟩ dX12_rest_60 (fun hz H locs G => ?_)
      obtain rfl := Option.some.inj hf
      exact xI_ret C G rfl dX12_rest_63
    · have hf := it_f h hf
      refine lv_iload_n hx hb dX12_rest_28 rfl (lv_at hl 3 rfl) ?_
      refine lv_iload_n hx hb dX12_rest_29 rfl (lv_at hl 0 rfl) ?_
      exact nomatch hf
  · have hf := it_f h hf
    refine lv_aload_n hx hb dX12_rest_15 rfl (lv_at hl 1 rfl) ?_
    refine lv_iload_n hx hb dX12_rest_16 rfl (lv_at hl 0 rfl) ?_
    obtain ⟨x3, hc, hf⟩ := bd_go hf
    refine xI_V C G (c_M_refused_m_N hc) mX12_refused kX12_45 (wN_at0) rfl ⟨Nat.le_of_ble_eq_true rfl, Nat.le_of_ble_eq_true rfl⟩ rfl hl.1 rfl (Nat.le_of_ble_eq_true rfl) ⟨Nat.le_refl _, Nat.le_refl _⟩ dX12_rest_17 (fun hz H locs G => ?_)
    obtain rfl := Option.some.inj hf
    exact xI_ret C G rfl dX12_rest_20
set_option maxHeartbeats 4000000 in
set_option maxRecDepth 100000 in
theorem c_M_refusesChance_m_N {l : Launch} {E : xE} {ad : Nat → Nat} {m_thrown m_trouble m_where m_taped m_size m_spot m_sort m_place m_number m_fault m_wrongAt m_acts m_images m_matchNow m_slopsNow m_matchesNow m_fedBest m_slopsBest m_sawBest m_leastNow m_stableNow m_fitsNow m_someNow m_everyNow m_askLeft : Int32} {m_rv : Value} {m_tape m_v m_x m_past m_kept m_slopped m_seatBest m_otherIn : Nat → Int32} {m_word : Int64} {l1 : Int32} {l2 : Int32} {R0 : Int32} (hf : f_M_refusesChance_N l1 l2 = some R0) : xI l E yX12_refusesChance cX12_refusesChance 3 (some .int) 1 22 [.ref (ad 0), .int l1, .int l2] (wN E ad m_thrown m_trouble m_where m_rv m_tape m_taped m_size m_spot m_sort m_place m_number m_fault m_wrongAt m_word m_v m_x m_past m_kept m_acts m_images m_matchNow m_slopsNow m_matchesNow m_slopped m_seatBest m_fedBest m_slopsBest m_sawBest m_leastNow m_stableNow m_fitsNow m_someNow m_everyNow m_otherIn m_askLeft) (wN E ad m_thrown m_trouble m_where m_rv m_tape m_taped m_size m_spot m_sort m_place m_number m_fault m_wrongAt m_word m_v m_x m_past m_kept m_acts m_images m_matchNow m_slopsNow m_matchesNow m_slopped m_seatBest m_fedBest m_slopsBest m_sawBest m_leastNow m_stableNow m_fitsNow m_someNow m_everyNow m_otherIn m_askLeft) R0 := by
  refine xI_of (by decide) (Nat.le_of_ble_eq_true rfl) (fun p e s m args below meth c A C ls hl G => ?_)
  have hx := C.1
  have hb := C.2.1
  have hl : lv_has ls 3 [(0, .ref (ad 0)), (1, .int l1), (2, .int l2)] := hl
  unfold f_M_refusesChance_N at hf
  refine lv_aload_n hx hb dX12_refusesChance_0 rfl (lv_at hl 0 rfl) ?_
  refine lv_iload_n hx hb dX12_refusesChance_1 rfl (lv_at hl 1 rfl) ?_
  obtain ⟨x1, hc, hf⟩ := bd_go hf
  refine xI_V C G (c_M_isPair_m_N hc) mX12_isPair kX12_330 (wN_at0) rfl ⟨Nat.le_of_ble_eq_true rfl, Nat.le_of_ble_eq_true rfl⟩ rfl hl.1 rfl (Nat.le_of_ble_eq_true rfl) ⟨Nat.le_refl _, Nat.le_refl _⟩ dX12_refusesChance_2 (fun hz1 H locs G => ?_)
  refine lv_if_ne (tgt := 12) hx hb dX12_refusesChance_5 (by decide) (fun h => ?_) (fun h => ?_)
  · have hf := it_f h hf
    refine lv_iload_n hx hb dX12_refusesChance_12 rfl (lv_at hl 2 rfl) ?_
    refine lv_iconst (v := 0) hx hb dX12_refusesChance_13 (by decide) ?_
    refine lv_bipush (v := 8) hx hb dX12_refusesChance_14 (by decide) ?_
    obtain ⟨x2, hc, hf⟩ := bd_go hf
    refine xI_S C G (c_M_in_any hc) mX12_in kX12_118 ⟨Nat.le_of_ble_eq_true rfl, Nat.le_of_ble_eq_true rfl⟩ rfl hl.1 rfl (Nat.le_of_ble_eq_true rfl) ⟨Nat.le_refl _, Nat.le_refl _⟩ dX12_refusesChance_16 (fun hz2 H locs G => ?_)
    refine lv_if_eq (tgt := 26) hx hb dX12_refusesChance_19 (by decide) (fun h => ?_) (fun h => ?_)
    · have hf := it_t h hf
      refine lv_iconst (v := 2) hx hb dX12_refusesChance_26 (by decide) ?_
      obtain rfl := Option.some.inj hf
      exact xI_ret C G rfl dX12_refusesChance_27
    · have hf := it_f h hf
      refine lv_iconst (v := 0) hx hb dX12_refusesChance_22 (by decide) ?_
      refine lv_goto (tgt := 27) hx hb dX12_refusesChance_23 (by decide) ?_
      obtain rfl := Option.some.inj hf
      exact xI_ret C G rfl dX12_refusesChance_27
  · have hf := it_t h hf
    refine lv_iconst (v := 1) hx hb dX12_refusesChance_8 (by decide) ?_
    refine lv_goto (tgt := 27) hx hb dX12_refusesChance_9 (by decide) ?_
    obtain rfl := Option.some.inj hf
    exact xI_ret C G rfl dX12_refusesChance_27
set_option maxHeartbeats 4000000 in
set_option maxRecDepth 100000 in
theorem c_M_odds_m_N {l : Launch} {E : xE} {ad : Nat → Nat} {m_thrown m_trouble m_where m_taped m_size m_spot m_sort m_place m_number m_fault m_wrongAt m_acts m_images m_matchNow m_slopsNow m_matchesNow m_fedBest m_slopsBest m_sawBest m_leastNow m_stableNow m_fitsNow m_someNow m_everyNow m_askLeft : Int32} {m_rv : Value} {m_tape m_v m_x m_past m_kept m_slopped m_seatBest m_otherIn : Nat → Int32} {m_word : Int64} {l1 : Int32} {l2 : Int32} {l3 : Int32} {R0 : Int64 × Int32 × Int32 × Int32} (hf : f_M_odds_N l1 l2 l3 = some R0) : xL l E yX12_odds cX12_odds 10 (some .long) 2 44 [.ref (ad 0), .int l1, .int l2, .int l3] (wN E ad m_thrown m_trouble m_where m_rv m_tape m_taped m_size m_spot m_sort m_place m_number m_fault m_wrongAt m_word m_v m_x m_past m_kept m_acts m_images m_matchNow m_slopsNow m_matchesNow m_slopped m_seatBest m_fedBest m_slopsBest m_sawBest m_leastNow m_stableNow m_fitsNow m_someNow m_everyNow m_otherIn m_askLeft) (wN E ad R0.2.1 R0.2.2.1 R0.2.2.2 m_rv m_tape m_taped m_size m_spot m_sort m_place m_number m_fault m_wrongAt m_word m_v m_x m_past m_kept m_acts m_images m_matchNow m_slopsNow m_matchesNow m_slopped m_seatBest m_fedBest m_slopsBest m_sawBest m_leastNow m_stableNow m_fitsNow m_someNow m_everyNow m_otherIn m_askLeft) R0.1 := by
  refine xL_of (by decide) (Nat.le_of_ble_eq_true rfl) (fun p e s m args below meth c A C ls hl G => ?_)
  have hx := C.1
  have hb := C.2.1
  have hl : lv_has ls 10 [(0, .ref (ad 0)), (1, .int l1), (2, .int l2), (3, .int l3)] := hl
  unfold f_M_odds_N at hf
  refine lv_aload_n hx hb dX12_odds_0 rfl (lv_at hl 0 rfl) ?_
  refine lv_iconst (v := 0) hx hb dX12_odds_1 (by decide) ?_
  refine x_put (ws' := (wN E ad (0 : Int32) m_trouble m_where m_rv m_tape m_taped m_size m_spot m_sort m_place m_number m_fault m_wrongAt m_word m_v m_x m_past m_kept m_acts m_images m_matchNow m_slopsNow m_matchesNow m_slopped m_seatBest m_fedBest m_slopsBest m_sawBest m_leastNow m_stableNow m_fitsNow m_someNow m_everyNow m_otherIn m_askLeft)) C G fX12_39 (wN_at0) rfl rfl (Nat.le_of_ble_eq_true rfl) wN_set_m_thrown dX12_odds_2 (fun H locs G => ?_)
  refine lv_aload_n hx hb dX12_odds_5 rfl (lv_at hl 0 rfl) ?_
  refine lv_iload_n hx hb dX12_odds_6 rfl (lv_at hl 1 rfl) ?_
  refine lv_iload_n hx hb dX12_odds_7 rfl (lv_at hl 2 rfl) ?_
  obtain ⟨x1, hc, hf⟩ := bd_go hf
  refine xI_V C G (c_M_refusesChance_m_N hc) mX12_refusesChance kX12_488 (wN_at0) rfl ⟨Nat.le_of_ble_eq_true rfl, Nat.le_of_ble_eq_true rfl⟩ rfl hl.1 rfl (Nat.le_of_ble_eq_true rfl) ⟨Nat.le_refl _, Nat.le_refl _⟩ dX12_odds_8 (fun hz H locs G => ?_)
  refine lv_istore (lv' := [(4, .int x1), (0, .ref (ad 0)), (1, .int l1), (2, .int l2), (3, .int l3)]) hx hb dX12_odds_11 hl (by decide) rfl (fun ls hl => ?_)
  refine lv_iload hx hb dX12_odds_13 (lv_at hl 0 rfl) ?_
  refine lv_if_le (tgt := 26) hx hb dX12_odds_15 (by decide) (fun h => ?_) (fun h => ?_)
  · have hf := it_t h hf
    refine lv_lconst (v := 0) hx hb dX12_odds_26 (by decide) ?_
    refine lv_lstore (lv' := [(5, .long (0 : Int64)), (4, .int x1), (0, .ref (ad 0)), (1, .int l1), (2, .int l2), (3, .int l3)]) hx hb dX12_odds_27 hl (by decide) rfl (fun ls hl => ?_)
    refine lv_iconst (v := 0) hx hb dX12_odds_29 (by decide) ?_
    refine lv_istore (lv' := [(7, .int (0 : Int32)), (5, .long (0 : Int64)), (4, .int x1), (0, .ref (ad 0)), (1, .int l1), (2, .int l2), (3, .int l3)]) hx hb dX12_odds_30 hl (by decide) rfl (fun ls hl => ?_)
    refine lv_iload hx hb dX12_odds_32 (lv_at hl 0 rfl) ?_
    refine lv_iconst (v := 1) hx hb dX12_odds_34 (by decide) ?_
    refine lv_iload_n hx hb dX12_odds_35 rfl (lv_at hl 5 rfl) ?_
    refine lv_ishl hx hb dX12_odds_36 ?_
    refine lv_icmp_ge (tgt := 75) hx hb dX12_odds_37 (by decide) (fun h => ?_) (fun h => ?_)
    · have hf := it_t h hf
      refine lv_aload_n hx hb dX12_odds_75 rfl (lv_at hl 3 rfl) ?_
      refine lv_lload hx hb dX12_odds_76 (lv_at hl 1 rfl) ?_
      refine lv_iload_n hx hb dX12_odds_78 rfl (lv_at hl 5 rfl) ?_
      exact nomatch hf
    · have hf := it_f h hf
      refine lv_aload_n hx hb dX12_odds_40 rfl (lv_at hl 3 rfl) ?_
      refine lv_iload_n hx hb dX12_odds_41 rfl (lv_at hl 4 rfl) ?_
      refine lv_iload_n hx hb dX12_odds_42 rfl (lv_at hl 5 rfl) ?_
      refine lv_iload hx hb dX12_odds_43 (lv_at hl 0 rfl) ?_
      exact nomatch hf
  · have hf := it_f h hf
    refine lv_aload_n hx hb dX12_odds_18 rfl (lv_at hl 1 rfl) ?_
    refine lv_iload hx hb dX12_odds_19 (lv_at hl 0 rfl) ?_
    obtain ⟨x2, hc, hf⟩ := bd_go hf
    refine xI_V C G (c_M_refused_m_N hc) mX12_refused kX12_45 (wN_at0) rfl ⟨Nat.le_of_ble_eq_true rfl, Nat.le_of_ble_eq_true rfl⟩ rfl hl.1 rfl (Nat.le_of_ble_eq_true rfl) ⟨Nat.le_refl _, Nat.le_refl _⟩ dX12_odds_21 (fun hz H locs G => ?_)
    refine lv_i2l hx hb dX12_odds_24 rfl ?_
    obtain rfl := Option.some.inj hf
    exact xL_ret C G dX12_odds_25
set_option maxHeartbeats 4000000 in
set_option maxRecDepth 100000 in
theorem c_M_mean_m_N {l : Launch} {E : xE} {ad : Nat → Nat} {m_thrown m_trouble m_where m_taped m_size m_spot m_sort m_place m_number m_fault m_wrongAt m_acts m_images m_matchNow m_slopsNow m_matchesNow m_fedBest m_slopsBest m_sawBest m_leastNow m_stableNow m_fitsNow m_someNow m_everyNow m_askLeft : Int32} {m_rv : Value} {m_tape m_v m_x m_past m_kept m_slopped m_seatBest m_otherIn : Nat → Int32} {m_word : Int64} {l1 : Int32} {l2 : Int32} {l3 : Int32} {R0 : Int64 × Int32 × Int32 × Int32} (hf : f_M_mean_N l1 l2 l3 = some R0) : xL l E yX12_mean cX12_mean 10 (some .long) 2 44 [.ref (ad 0), .int l1, .int l2, .int l3] (wN E ad m_thrown m_trouble m_where m_rv m_tape m_taped m_size m_spot m_sort m_place m_number m_fault m_wrongAt m_word m_v m_x m_past m_kept m_acts m_images m_matchNow m_slopsNow m_matchesNow m_slopped m_seatBest m_fedBest m_slopsBest m_sawBest m_leastNow m_stableNow m_fitsNow m_someNow m_everyNow m_otherIn m_askLeft) (wN E ad R0.2.1 R0.2.2.1 R0.2.2.2 m_rv m_tape m_taped m_size m_spot m_sort m_place m_number m_fault m_wrongAt m_word m_v m_x m_past m_kept m_acts m_images m_matchNow m_slopsNow m_matchesNow m_slopped m_seatBest m_fedBest m_slopsBest m_sawBest m_leastNow m_stableNow m_fitsNow m_someNow m_everyNow m_otherIn m_askLeft) R0.1 := by
  refine xL_of (by decide) (Nat.le_of_ble_eq_true rfl) (fun p e s m args below meth c A C ls hl G => ?_)
  have hx := C.1
  have hb := C.2.1
  have hl : lv_has ls 10 [(0, .ref (ad 0)), (1, .int l1), (2, .int l2), (3, .int l3)] := hl
  unfold f_M_mean_N at hf
  refine lv_aload_n hx hb dX12_mean_0 rfl (lv_at hl 0 rfl) ?_
  refine lv_iconst (v := 0) hx hb dX12_mean_1 (by decide) ?_
  refine x_put (ws' := (wN E ad (0 : Int32) m_trouble m_where m_rv m_tape m_taped m_size m_spot m_sort m_place m_number m_fault m_wrongAt m_word m_v m_x m_past m_kept m_acts m_images m_matchNow m_slopsNow m_matchesNow m_slopped m_seatBest m_fedBest m_slopsBest m_sawBest m_leastNow m_stableNow m_fitsNow m_someNow m_everyNow m_otherIn m_askLeft)) C G fX12_39 (wN_at0) rfl rfl (Nat.le_of_ble_eq_true rfl) wN_set_m_thrown dX12_mean_2 (fun H locs G => ?_)
  refine lv_aload_n hx hb dX12_mean_5 rfl (lv_at hl 0 rfl) ?_
  refine lv_iload_n hx hb dX12_mean_6 rfl (lv_at hl 1 rfl) ?_
  refine lv_iload_n hx hb dX12_mean_7 rfl (lv_at hl 2 rfl) ?_
  obtain ⟨x1, hc, hf⟩ := bd_go hf
  refine xI_V C G (c_M_refusesChance_m_N hc) mX12_refusesChance kX12_488 (wN_at0) rfl ⟨Nat.le_of_ble_eq_true rfl, Nat.le_of_ble_eq_true rfl⟩ rfl hl.1 rfl (Nat.le_of_ble_eq_true rfl) ⟨Nat.le_refl _, Nat.le_refl _⟩ dX12_mean_8 (fun hz H locs G => ?_)
  refine lv_istore (lv' := [(4, .int x1), (0, .ref (ad 0)), (1, .int l1), (2, .int l2), (3, .int l3)]) hx hb dX12_mean_11 hl (by decide) rfl (fun ls hl => ?_)
  refine lv_iload hx hb dX12_mean_13 (lv_at hl 0 rfl) ?_
  refine lv_if_le (tgt := 26) hx hb dX12_mean_15 (by decide) (fun h => ?_) (fun h => ?_)
  · have hf := it_t h hf
    refine lv_aload_n hx hb dX12_mean_26 rfl (lv_at hl 1 rfl) ?_
    exact nomatch hf
  · have hf := it_f h hf
    refine lv_aload_n hx hb dX12_mean_18 rfl (lv_at hl 1 rfl) ?_
    refine lv_iload hx hb dX12_mean_19 (lv_at hl 0 rfl) ?_
    obtain ⟨x2, hc, hf⟩ := bd_go hf
    refine xI_V C G (c_M_refused_m_N hc) mX12_refused kX12_45 (wN_at0) rfl ⟨Nat.le_of_ble_eq_true rfl, Nat.le_of_ble_eq_true rfl⟩ rfl hl.1 rfl (Nat.le_of_ble_eq_true rfl) ⟨Nat.le_refl _, Nat.le_refl _⟩ dX12_mean_21 (fun hz H locs G => ?_)
    refine lv_i2l hx hb dX12_mean_24 rfl ?_
    obtain rfl := Option.some.inj hf
    exact xL_ret C G dX12_mean_25
set_option maxHeartbeats 4000000 in
set_option maxRecDepth 100000 in
theorem c_M_refusesDraw_m_N {l : Launch} {E : xE} {ad : Nat → Nat} {m_thrown m_trouble m_where m_taped m_size m_spot m_sort m_place m_number m_fault m_wrongAt m_acts m_images m_matchNow m_slopsNow m_matchesNow m_fedBest m_slopsBest m_sawBest m_leastNow m_stableNow m_fitsNow m_someNow m_everyNow m_askLeft : Int32} {m_rv : Value} {m_tape m_v m_x m_past m_kept m_slopped m_seatBest m_otherIn : Nat → Int32} {m_word : Int64} {l1 : Int32} {l2 : Int32} {l3 : Int32} {R0 : Int32} (hf : f_M_refusesDraw l1 l2 l3 = some R0) : xI l E yX12_refusesDraw cX12_refusesDraw 4 (some .int) 1 22 [.ref (ad 0), .int l1, .int l2, .int l3] (wN E ad m_thrown m_trouble m_where m_rv m_tape m_taped m_size m_spot m_sort m_place m_number m_fault m_wrongAt m_word m_v m_x m_past m_kept m_acts m_images m_matchNow m_slopsNow m_matchesNow m_slopped m_seatBest m_fedBest m_slopsBest m_sawBest m_leastNow m_stableNow m_fitsNow m_someNow m_everyNow m_otherIn m_askLeft) (wN E ad m_thrown m_trouble m_where m_rv m_tape m_taped m_size m_spot m_sort m_place m_number m_fault m_wrongAt m_word m_v m_x m_past m_kept m_acts m_images m_matchNow m_slopsNow m_matchesNow m_slopped m_seatBest m_fedBest m_slopsBest m_sawBest m_leastNow m_stableNow m_fitsNow m_someNow m_everyNow m_otherIn m_askLeft) R0 := by
  refine xI_of (by decide) (Nat.le_of_ble_eq_true rfl) (fun p e s m args below meth c A C ls hl G => ?_)
  have hx := C.1
  have hb := C.2.1
  have hl : lv_has ls 4 [(0, .ref (ad 0)), (1, .int l1), (2, .int l2), (3, .int l3)] := hl
  unfold f_M_refusesDraw at hf
  refine lv_iload_n hx hb dX12_refusesDraw_0 rfl (lv_at hl 1 rfl) ?_
  refine lv_if_ne (tgt := 8) hx hb dX12_refusesDraw_1 (by decide) (fun h => ?_) (fun h => ?_)
  · have hf := it_f h hf
    refine lv_iload_n hx hb dX12_refusesDraw_8 rfl (lv_at hl 2 rfl) ?_
    refine lv_iconst (v := 0) hx hb dX12_refusesDraw_9 (by decide) ?_
    refine lv_ldcw hx hb C.2.2.2.1 (C.2.2.2.2.1 _ qX12_509) dX12_refusesDraw_10 ?_
    obtain ⟨x1, hc, hf⟩ := bd_go hf
    refine xI_S C G (c_M_in_any hc) mX12_in kX12_118 ⟨Nat.le_of_ble_eq_true rfl, Nat.le_of_ble_eq_true rfl⟩ rfl hl.1 rfl (Nat.le_of_ble_eq_true rfl) ⟨Nat.le_refl _, Nat.le_refl _⟩ dX12_refusesDraw_13 (fun hz1 H locs G => ?_)
    obtain ⟨b2, hr, hf⟩ := bd_go hf
    cases b2 with
    | true =>
      have hf := it_t rfl hf
      have J : ∀ (H : Heap) (locs : List Loc), xG s E A (wN E ad m_thrown m_trouble m_where m_rv m_tape m_taped m_size m_spot m_sort m_place m_number m_fault m_wrongAt m_word m_v m_x m_past m_kept m_acts m_images m_matchNow m_slopsNow m_matchesNow m_slopped m_seatBest m_fedBest m_slopsBest m_sawBest m_leastNow m_stableNow m_fitsNow m_someNow m_everyNow m_otherIn m_askLeft) H locs → W p l e (xR 1 22) s m args below meth c H locs 0 0 (MQ below (xqI E A (wN E ad m_thrown m_trouble m_where m_rv m_tape m_taped m_size m_spot m_sort m_place m_number m_fault m_wrongAt m_word m_v m_x m_past m_kept m_acts m_images m_matchNow m_slopsNow m_matchesNow m_slopped m_seatBest m_fedBest m_slopsBest m_sawBest m_leastNow m_stableNow m_fitsNow m_someNow m_everyNow m_otherIn m_askLeft) (some .int) R0) args s 0 0 A) (F0 m 33 ls []) := by
        intro H locs G
        refine lv_iconst (v := 2) hx hb dX12_refusesDraw_33 (by decide) ?_
        obtain rfl := Option.some.inj hf
        exact xI_ret C G rfl dX12_refusesDraw_34
      have hf := hr
      clear hr
      refine lv_if_eq (tgt := 33) hx hb dX12_refusesDraw_16 (by decide) (fun h => ?_) (fun h => ?_)
      · have hf := it_t h hf
        exact J _ _ G
      · have hf := it_f h hf
        refine lv_iload_n hx hb dX12_refusesDraw_19 rfl (lv_at hl 3 rfl) ?_
        refine lv_iconst (v := 0) hx hb dX12_refusesDraw_20 (by decide) ?_
        refine lv_bipush (v := 60) hx hb dX12_refusesDraw_21 (by decide) ?_
        obtain ⟨x3, hc, hf⟩ := bd_go hf
        refine xI_S C G (c_M_in_any hc) mX12_in kX12_118 ⟨Nat.le_of_ble_eq_true rfl, Nat.le_of_ble_eq_true rfl⟩ rfl hl.1 rfl (Nat.le_of_ble_eq_true rfl) ⟨Nat.le_refl _, Nat.le_refl _⟩ dX12_refusesDraw_23 (fun hz3 H locs G => ?_)
        refine lv_if_eq (tgt := 33) hx hb dX12_refusesDraw_26 (by decide) (fun h => ?_) (fun h => ?_)
        · have hf := it_t h hf
          exact J _ _ G
        · have hf := it_f h hf
          exact absurd (Option.some.inj hf) (by decide)
    | false =>
      have hf := it_f (by decide) hf
      have J : ∀ (H : Heap) (locs : List Loc), xG s E A (wN E ad m_thrown m_trouble m_where m_rv m_tape m_taped m_size m_spot m_sort m_place m_number m_fault m_wrongAt m_word m_v m_x m_past m_kept m_acts m_images m_matchNow m_slopsNow m_matchesNow m_slopped m_seatBest m_fedBest m_slopsBest m_sawBest m_leastNow m_stableNow m_fitsNow m_someNow m_everyNow m_otherIn m_askLeft) H locs → W p l e (xR 1 22) s m args below meth c H locs 0 0 (MQ below (xqI E A (wN E ad m_thrown m_trouble m_where m_rv m_tape m_taped m_size m_spot m_sort m_place m_number m_fault m_wrongAt m_word m_v m_x m_past m_kept m_acts m_images m_matchNow m_slopsNow m_matchesNow m_slopped m_seatBest m_fedBest m_slopsBest m_sawBest m_leastNow m_stableNow m_fitsNow m_someNow m_everyNow m_otherIn m_askLeft) (some .int) R0) args s 0 0 A) (F0 m 29 ls []) := by
        intro H locs G
        refine lv_iconst (v := 0) hx hb dX12_refusesDraw_29 (by decide) ?_
        refine lv_goto (tgt := 34) hx hb dX12_refusesDraw_30 (by decide) ?_
        obtain rfl := Option.some.inj hf
        exact xI_ret C G rfl dX12_refusesDraw_34
      have hf := hr
      clear hr
      refine lv_if_eq (tgt := 33) hx hb dX12_refusesDraw_16 (by decide) (fun h => ?_) (fun h => ?_)
      · have hf := it_t h hf
        exact absurd (Option.some.inj hf) (by decide)
      · have hf := it_f h hf
        refine lv_iload_n hx hb dX12_refusesDraw_19 rfl (lv_at hl 3 rfl) ?_
        refine lv_iconst (v := 0) hx hb dX12_refusesDraw_20 (by decide) ?_
        refine lv_bipush (v := 60) hx hb dX12_refusesDraw_21 (by decide) ?_
        obtain ⟨x4, hc, hf⟩ := bd_go hf
        refine xI_S C G (c_M_in_any hc) mX12_in kX12_118 ⟨Nat.le_of_ble_eq_true rfl, Nat.le_of_ble_eq_true rfl⟩ rfl hl.1 rfl (Nat.le_of_ble_eq_true rfl) ⟨Nat.le_refl _, Nat.le_refl _⟩ dX12_refusesDraw_23 (fun hz4 H locs G => ?_)
        refine lv_if_eq (tgt := 33) hx hb dX12_refusesDraw_26 (by decide) (fun h => ?_) (fun h => ?_)
        · have hf := it_t h hf
          exact absurd (Option.some.inj hf) (by decide)
        · have hf := it_f h hf
          exact J _ _ G
  · have hf := it_t h hf
    refine lv_iconst (v := 1) hx hb dX12_refusesDraw_4 (by decide) ?_
    refine lv_goto (tgt := 34) hx hb dX12_refusesDraw_5 (by decide) ?_
    obtain rfl := Option.some.inj hf
    exact xI_ret C G rfl dX12_refusesDraw_34
set_option maxHeartbeats 4000000 in
set_option maxRecDepth 100000 in
theorem c_M_drawnHandle_m_N {l : Launch} {E : xE} {ad : Nat → Nat} {m_thrown m_trouble m_where m_taped m_size m_spot m_sort m_place m_number m_fault m_wrongAt m_acts m_images m_matchNow m_slopsNow m_matchesNow m_fedBest m_slopsBest m_sawBest m_leastNow m_stableNow m_fitsNow m_someNow m_everyNow m_askLeft : Int32} {m_rv : Value} {m_tape m_v m_x m_past m_kept m_slopped m_seatBest m_otherIn : Nat → Int32} {m_word : Int64} {l1 : Int32} {l2 : Int32} {l3 : Int32} {R0 : Int32 × Int32 × Int32 × Int32} (hf : f_M_drawnHandle_N l1 l2 l3 = some R0) : xI l E yX12_drawnHandle cX12_drawnHandle 5 (some .int) 2 45 [.ref (ad 0), .int l1, .int l2, .int l3] (wN E ad m_thrown m_trouble m_where m_rv m_tape m_taped m_size m_spot m_sort m_place m_number m_fault m_wrongAt m_word m_v m_x m_past m_kept m_acts m_images m_matchNow m_slopsNow m_matchesNow m_slopped m_seatBest m_fedBest m_slopsBest m_sawBest m_leastNow m_stableNow m_fitsNow m_someNow m_everyNow m_otherIn m_askLeft) (wN E ad R0.2.1 R0.2.2.1 R0.2.2.2 m_rv m_tape m_taped m_size m_spot m_sort m_place m_number m_fault m_wrongAt m_word m_v m_x m_past m_kept m_acts m_images m_matchNow m_slopsNow m_matchesNow m_slopped m_seatBest m_fedBest m_slopsBest m_sawBest m_leastNow m_stableNow m_fitsNow m_someNow m_everyNow m_otherIn m_askLeft) R0.1 := by
  refine xI_of (by decide) (Nat.le_of_ble_eq_true rfl) (fun p e s m args below meth c A C ls hl G => ?_)
  have hx := C.1
  have hb := C.2.1
  have hl : lv_has ls 5 [(0, .ref (ad 0)), (1, .int l1), (2, .int l2), (3, .int l3)] := hl
  unfold f_M_drawnHandle_N at hf
  refine lv_aload_n hx hb dX12_drawnHandle_0 rfl (lv_at hl 0 rfl) ?_
  refine lv_iconst (v := 0) hx hb dX12_drawnHandle_1 (by decide) ?_
  refine x_put (ws' := (wN E ad (0 : Int32) m_trouble m_where m_rv m_tape m_taped m_size m_spot m_sort m_place m_number m_fault m_wrongAt m_word m_v m_x m_past m_kept m_acts m_images m_matchNow m_slopsNow m_matchesNow m_slopped m_seatBest m_fedBest m_slopsBest m_sawBest m_leastNow m_stableNow m_fitsNow m_someNow m_everyNow m_otherIn m_askLeft)) C G fX12_39 (wN_at0) rfl rfl (Nat.le_of_ble_eq_true rfl) wN_set_m_thrown dX12_drawnHandle_2 (fun H locs G => ?_)
  refine lv_aload_n hx hb dX12_drawnHandle_5 rfl (lv_at hl 0 rfl) ?_
  refine lv_aload_n hx hb dX12_drawnHandle_6 rfl (lv_at hl 0 rfl) ?_
  refine lv_iload_n hx hb dX12_drawnHandle_7 rfl (lv_at hl 1 rfl) ?_
  obtain ⟨x1, hc, hf⟩ := bd_go hf
  refine xI_V C G (c_M_isPair_m_N hc) mX12_isPair kX12_330 (wN_at0) rfl ⟨Nat.le_of_ble_eq_true rfl, Nat.le_of_ble_eq_true rfl⟩ rfl hl.1 rfl (Nat.le_of_ble_eq_true rfl) ⟨Nat.le_refl _, Nat.le_refl _⟩ dX12_drawnHandle_8 (fun hz1 H locs G => ?_)
  refine lv_iload_n hx hb dX12_drawnHandle_11 rfl (lv_at hl 2 rfl) ?_
  refine lv_iload_n hx hb dX12_drawnHandle_12 rfl (lv_at hl 3 rfl) ?_
  obtain ⟨x2, hc, hf⟩ := bd_go hf
  refine xI_V C G (c_M_refusesDraw_m_N hc) mX12_refusesDraw kX12_510 (wN_at0) rfl ⟨Nat.le_of_ble_eq_true rfl, Nat.le_of_ble_eq_true rfl⟩ rfl hl.1 rfl (Nat.le_of_ble_eq_true rfl) ⟨Nat.le_refl _, Nat.le_refl _⟩ dX12_drawnHandle_13 (fun hz H locs G => ?_)
  refine lv_istore (lv' := [(4, .int x2), (0, .ref (ad 0)), (1, .int l1), (2, .int l2), (3, .int l3)]) hx hb dX12_drawnHandle_16 hl (by decide) rfl (fun ls hl => ?_)
  refine lv_iload hx hb dX12_drawnHandle_18 (lv_at hl 0 rfl) ?_
  refine lv_if_le (tgt := 30) hx hb dX12_drawnHandle_20 (by decide) (fun h => ?_) (fun h => ?_)
  · have hf := it_t h hf
    refine lv_aload_n hx hb dX12_drawnHandle_30 rfl (lv_at hl 1 rfl) ?_
    refine lv_iload_n hx hb dX12_drawnHandle_31 rfl (lv_at hl 3 rfl) ?_
    refine lv_iload_n hx hb dX12_drawnHandle_32 rfl (lv_at hl 4 rfl) ?_
    exact nomatch hf
  · have hf := it_f h hf
    refine lv_aload_n hx hb dX12_drawnHandle_23 rfl (lv_at hl 1 rfl) ?_
    refine lv_iload hx hb dX12_drawnHandle_24 (lv_at hl 0 rfl) ?_
    obtain ⟨x3, hc, hf⟩ := bd_go hf
    refine xI_V C G (c_M_refused_m_N hc) mX12_refused kX12_45 (wN_at0) rfl ⟨Nat.le_of_ble_eq_true rfl, Nat.le_of_ble_eq_true rfl⟩ rfl hl.1 rfl (Nat.le_of_ble_eq_true rfl) ⟨Nat.le_refl _, Nat.le_refl _⟩ dX12_drawnHandle_26 (fun hz H locs G => ?_)
    obtain rfl := Option.some.inj hf
    exact xI_ret C G rfl dX12_drawnHandle_29
set_option maxHeartbeats 4000000 in
set_option maxRecDepth 100000 in
theorem c_M_drawnFed_m_N {l : Launch} {E : xE} {ad : Nat → Nat} {m_thrown m_trouble m_where m_taped m_size m_spot m_sort m_place m_number m_fault m_wrongAt m_acts m_images m_matchNow m_slopsNow m_matchesNow m_fedBest m_slopsBest m_sawBest m_leastNow m_stableNow m_fitsNow m_someNow m_everyNow m_askLeft : Int32} {m_rv : Value} {m_tape m_v m_x m_past m_kept m_slopped m_seatBest m_otherIn : Nat → Int32} {m_word : Int64} {l1 : Int32} {l2 : Int32} {R0 : Int32 × Int32 × Int32 × Int32} (hf : f_M_drawnFed_N l1 l2 = some R0) : xI l E yX12_drawnFed cX12_drawnFed 4 (some .int) 2 45 [.ref (ad 0), .int l1, .int l2] (wN E ad m_thrown m_trouble m_where m_rv m_tape m_taped m_size m_spot m_sort m_place m_number m_fault m_wrongAt m_word m_v m_x m_past m_kept m_acts m_images m_matchNow m_slopsNow m_matchesNow m_slopped m_seatBest m_fedBest m_slopsBest m_sawBest m_leastNow m_stableNow m_fitsNow m_someNow m_everyNow m_otherIn m_askLeft) (wN E ad R0.2.1 R0.2.2.1 R0.2.2.2 m_rv m_tape m_taped m_size m_spot m_sort m_place m_number m_fault m_wrongAt m_word m_v m_x m_past m_kept m_acts m_images m_matchNow m_slopsNow m_matchesNow m_slopped m_seatBest m_fedBest m_slopsBest m_sawBest m_leastNow m_stableNow m_fitsNow m_someNow m_everyNow m_otherIn m_askLeft) R0.1 := by
  refine xI_of (by decide) (Nat.le_of_ble_eq_true rfl) (fun p e s m args below meth c A C ls hl G => ?_)
  have hx := C.1
  have hb := C.2.1
  have hl : lv_has ls 4 [(0, .ref (ad 0)), (1, .int l1), (2, .int l2)] := hl
  unfold f_M_drawnFed_N at hf
  refine lv_aload_n hx hb dX12_drawnFed_0 rfl (lv_at hl 0 rfl) ?_
  refine lv_iconst (v := 0) hx hb dX12_drawnFed_1 (by decide) ?_
  refine x_put (ws' := (wN E ad (0 : Int32) m_trouble m_where m_rv m_tape m_taped m_size m_spot m_sort m_place m_number m_fault m_wrongAt m_word m_v m_x m_past m_kept m_acts m_images m_matchNow m_slopsNow m_matchesNow m_slopped m_seatBest m_fedBest m_slopsBest m_sawBest m_leastNow m_stableNow m_fitsNow m_someNow m_everyNow m_otherIn m_askLeft)) C G fX12_39 (wN_at0) rfl rfl (Nat.le_of_ble_eq_true rfl) wN_set_m_thrown dX12_drawnFed_2 (fun H locs G => ?_)
  refine lv_aload_n hx hb dX12_drawnFed_5 rfl (lv_at hl 0 rfl) ?_
  refine lv_aload_n hx hb dX12_drawnFed_6 rfl (lv_at hl 0 rfl) ?_
  refine x_get C G fX12_298.g (wN_at0) rfl dX12_drawnFed_7 ?_
  refine lv_ifnullN (tgt := 17) hx hb dX12_drawnFed_10 (by decide) ?_
  refine lv_iconst (v := 0) hx hb dX12_drawnFed_17 (by decide) ?_
  refine lv_iload_n hx hb dX12_drawnFed_18 rfl (lv_at hl 1 rfl) ?_
  refine lv_iload_n hx hb dX12_drawnFed_19 rfl (lv_at hl 2 rfl) ?_
  obtain ⟨x1, hc, hf⟩ := bd_go hf
  refine xI_V C G (c_M_refusesDraw_m_N hc) mX12_refusesDraw kX12_510 (wN_at0) rfl ⟨Nat.le_of_ble_eq_true rfl, Nat.le_of_ble_eq_true rfl⟩ rfl hl.1 rfl (Nat.le_of_ble_eq_true rfl) ⟨Nat.le_refl _, Nat.le_refl _⟩ dX12_drawnFed_20 (fun hz H locs G => ?_)
  refine lv_istore_n (lv' := [(3, .int x1), (0, .ref (ad 0)), (1, .int l1), (2, .int l2)]) hx hb dX12_drawnFed_23 rfl hl (by decide) rfl (fun ls hl => ?_)
  refine lv_iload_n hx hb dX12_drawnFed_24 rfl (lv_at hl 0 rfl) ?_
  refine lv_if_le (tgt := 34) hx hb dX12_drawnFed_25 (by decide) (fun h => ?_) (fun h => ?_)
  · have hf := it_t h hf
    refine lv_aload_n hx hb dX12_drawnFed_34 rfl (lv_at hl 1 rfl) ?_
    refine lv_iload_n hx hb dX12_drawnFed_35 rfl (lv_at hl 2 rfl) ?_
    refine lv_iload_n hx hb dX12_drawnFed_36 rfl (lv_at hl 3 rfl) ?_
    exact nomatch hf
  · have hf := it_f h hf
    refine lv_aload_n hx hb dX12_drawnFed_28 rfl (lv_at hl 1 rfl) ?_
    refine lv_iload_n hx hb dX12_drawnFed_29 rfl (lv_at hl 0 rfl) ?_
    obtain ⟨x2, hc, hf⟩ := bd_go hf
    refine xI_V C G (c_M_refused_m_N hc) mX12_refused kX12_45 (wN_at0) rfl ⟨Nat.le_of_ble_eq_true rfl, Nat.le_of_ble_eq_true rfl⟩ rfl hl.1 rfl (Nat.le_of_ble_eq_true rfl) ⟨Nat.le_refl _, Nat.le_refl _⟩ dX12_drawnFed_30 (fun hz H locs G => ?_)
    obtain rfl := Option.some.inj hf
    exact xI_ret C G rfl dX12_drawnFed_33
set_option maxHeartbeats 4000000 in
set_option maxRecDepth 100000 in
theorem c_M_year_m_N {l : Launch} {E : xE} {ad : Nat → Nat} {m_thrown m_trouble m_where m_taped m_size m_spot m_sort m_place m_number m_fault m_wrongAt m_acts m_images m_matchNow m_slopsNow m_matchesNow m_fedBest m_slopsBest m_sawBest m_leastNow m_stableNow m_fitsNow m_someNow m_everyNow m_askLeft : Int32} {m_rv : Value} {m_tape m_v m_x m_past m_kept m_slopped m_seatBest m_otherIn : Nat → Int32} {m_word : Int64} {R0 : Int32 × Int32 × Int32 × Int32} (hf : f_M_year_N = some R0) : xI l E yX12_year cX12_year 1 (some .int) 1 21 [.ref (ad 0)] (wN E ad m_thrown m_trouble m_where m_rv m_tape m_taped m_size m_spot m_sort m_place m_number m_fault m_wrongAt m_word m_v m_x m_past m_kept m_acts m_images m_matchNow m_slopsNow m_matchesNow m_slopped m_seatBest m_fedBest m_slopsBest m_sawBest m_leastNow m_stableNow m_fitsNow m_someNow m_everyNow m_otherIn m_askLeft) (wN E ad R0.2.1 R0.2.2.1 R0.2.2.2 m_rv m_tape m_taped m_size m_spot m_sort m_place m_number m_fault m_wrongAt m_word m_v m_x m_past m_kept m_acts m_images m_matchNow m_slopsNow m_matchesNow m_slopped m_seatBest m_fedBest m_slopsBest m_sawBest m_leastNow m_stableNow m_fitsNow m_someNow m_everyNow m_otherIn m_askLeft) R0.1 := by
  refine xI_of (by decide) (Nat.le_of_ble_eq_true rfl) (fun p e s m args below meth c A C ls hl G => ?_)
  have hx := C.1
  have hb := C.2.1
  have hl : lv_has ls 1 [(0, .ref (ad 0))] := hl
  unfold f_M_year_N at hf
  refine lv_aload_n hx hb dX12_year_0 rfl (lv_at hl 0 rfl) ?_
  refine lv_iconst (v := 0) hx hb dX12_year_1 (by decide) ?_
  refine x_put (ws' := (wN E ad (0 : Int32) m_trouble m_where m_rv m_tape m_taped m_size m_spot m_sort m_place m_number m_fault m_wrongAt m_word m_v m_x m_past m_kept m_acts m_images m_matchNow m_slopsNow m_matchesNow m_slopped m_seatBest m_fedBest m_slopsBest m_sawBest m_leastNow m_stableNow m_fitsNow m_someNow m_everyNow m_otherIn m_askLeft)) C G fX12_39 (wN_at0) rfl rfl (Nat.le_of_ble_eq_true rfl) wN_set_m_thrown dX12_year_2 (fun H locs G => ?_)
  refine lv_aload_n hx hb dX12_year_5 rfl (lv_at hl 0 rfl) ?_
  refine x_get C G fX12_298.g (wN_at0) rfl dX12_year_6 ?_
  refine lv_ifnonnullN hx hb dX12_year_9 ?_
  refine lv_aload_n hx hb dX12_year_12 rfl (lv_at hl 0 rfl) ?_
  refine lv_iconst (v := 1) hx hb dX12_year_13 (by decide) ?_
  obtain ⟨x1, hc, hf⟩ := bd_go hf
  refine xI_V C G (c_M_refused_m_N hc) mX12_refused kX12_45 (wN_at0) rfl ⟨Nat.le_of_ble_eq_true rfl, Nat.le_of_ble_eq_true rfl⟩ rfl hl.1 rfl (Nat.le_of_ble_eq_true rfl) ⟨Nat.le_refl _, Nat.le_refl _⟩ dX12_year_14 (fun hz H locs G => ?_)
  obtain rfl := Option.some.inj hf
  exact xI_ret C G rfl dX12_year_17
set_option maxHeartbeats 4000000 in
set_option maxRecDepth 100000 in
theorem c_M_quarrel_m_N {l : Launch} {E : xE} {ad : Nat → Nat} {m_thrown m_trouble m_where m_taped m_size m_spot m_sort m_place m_number m_fault m_wrongAt m_acts m_images m_matchNow m_slopsNow m_matchesNow m_fedBest m_slopsBest m_sawBest m_leastNow m_stableNow m_fitsNow m_someNow m_everyNow m_askLeft : Int32} {m_rv : Value} {m_tape m_v m_x m_past m_kept m_slopped m_seatBest m_otherIn : Nat → Int32} {m_word : Int64} {l1 : Int32} {R0 : Int32 × Int32 × Int32 × Int32} (hf : f_M_quarrel_N l1 = some R0) : xI l E yX12_quarrel cX12_quarrel 2 (some .int) 1 21 [.ref (ad 0), .int l1] (wN E ad m_thrown m_trouble m_where m_rv m_tape m_taped m_size m_spot m_sort m_place m_number m_fault m_wrongAt m_word m_v m_x m_past m_kept m_acts m_images m_matchNow m_slopsNow m_matchesNow m_slopped m_seatBest m_fedBest m_slopsBest m_sawBest m_leastNow m_stableNow m_fitsNow m_someNow m_everyNow m_otherIn m_askLeft) (wN E ad R0.2.1 R0.2.2.1 R0.2.2.2 m_rv m_tape m_taped m_size m_spot m_sort m_place m_number m_fault m_wrongAt m_word m_v m_x m_past m_kept m_acts m_images m_matchNow m_slopsNow m_matchesNow m_slopped m_seatBest m_fedBest m_slopsBest m_sawBest m_leastNow m_stableNow m_fitsNow m_someNow m_everyNow m_otherIn m_askLeft) R0.1 := by
  refine xI_of (by decide) (Nat.le_of_ble_eq_true rfl) (fun p e s m args below meth c A C ls hl G => ?_)
  have hx := C.1
  have hb := C.2.1
  have hl : lv_has ls 2 [(0, .ref (ad 0)), (1, .int l1)] := hl
  unfold f_M_quarrel_N at hf
  refine lv_aload_n hx hb dX12_quarrel_0 rfl (lv_at hl 0 rfl) ?_
  refine lv_iconst (v := 0) hx hb dX12_quarrel_1 (by decide) ?_
  refine x_put (ws' := (wN E ad (0 : Int32) m_trouble m_where m_rv m_tape m_taped m_size m_spot m_sort m_place m_number m_fault m_wrongAt m_word m_v m_x m_past m_kept m_acts m_images m_matchNow m_slopsNow m_matchesNow m_slopped m_seatBest m_fedBest m_slopsBest m_sawBest m_leastNow m_stableNow m_fitsNow m_someNow m_everyNow m_otherIn m_askLeft)) C G fX12_39 (wN_at0) rfl rfl (Nat.le_of_ble_eq_true rfl) wN_set_m_thrown dX12_quarrel_2 (fun H locs G => ?_)
  refine lv_aload_n hx hb dX12_quarrel_5 rfl (lv_at hl 0 rfl) ?_
  refine lv_iload_n hx hb dX12_quarrel_6 rfl (lv_at hl 1 rfl) ?_
  obtain ⟨x1, hc, hf⟩ := bd_go hf
  refine xI_V C G (c_M_isPair_m_N hc) mX12_isPair kX12_330 (wN_at0) rfl ⟨Nat.le_of_ble_eq_true rfl, Nat.le_of_ble_eq_true rfl⟩ rfl hl.1 rfl (Nat.le_of_ble_eq_true rfl) ⟨Nat.le_refl _, Nat.le_refl _⟩ dX12_quarrel_7 (fun hz1 H locs G => ?_)
  refine lv_if_ne (tgt := 19) hx hb dX12_quarrel_10 (by decide) (fun h => ?_) (fun h => ?_)
  · have hf := it_f h hf
    refine lv_aload_n hx hb dX12_quarrel_19 rfl (lv_at hl 0 rfl) ?_
    exact nomatch hf
  · have hf := it_t h hf
    refine lv_aload_n hx hb dX12_quarrel_13 rfl (lv_at hl 0 rfl) ?_
    refine lv_iconst (v := 1) hx hb dX12_quarrel_14 (by decide) ?_
    obtain ⟨x2, hc, hf⟩ := bd_go hf
    refine xI_V C G (c_M_refused_m_N hc) mX12_refused kX12_45 (wN_at0) rfl ⟨Nat.le_of_ble_eq_true rfl, Nat.le_of_ble_eq_true rfl⟩ rfl hl.1 rfl (Nat.le_of_ble_eq_true rfl) ⟨Nat.le_refl _, Nat.le_refl _⟩ dX12_quarrel_15 (fun hz H locs G => ?_)
    obtain rfl := Option.some.inj hf
    exact xI_ret C G rfl dX12_quarrel_18
set_option maxHeartbeats 4000000 in
set_option maxRecDepth 100000 in
theorem c_M_sit_m_N {l : Launch} {E : xE} {ad : Nat → Nat} {m_thrown m_trouble m_where m_taped m_size m_spot m_sort m_place m_number m_fault m_wrongAt m_acts m_images m_matchNow m_slopsNow m_matchesNow m_fedBest m_slopsBest m_sawBest m_leastNow m_stableNow m_fitsNow m_someNow m_everyNow m_askLeft : Int32} {m_rv : Value} {m_tape m_v m_x m_past m_kept m_slopped m_seatBest m_otherIn : Nat → Int32} {m_word : Int64} {l1 : Int32} {l2 : Int32} {R0 : Int32 × Int32 × Int32 × Int32} (hf : f_M_sit_N l1 l2 = some R0) : xI l E yX12_sit cX12_sit 4 (some .int) 1 21 [.ref (ad 0), .int l1, .int l2] (wN E ad m_thrown m_trouble m_where m_rv m_tape m_taped m_size m_spot m_sort m_place m_number m_fault m_wrongAt m_word m_v m_x m_past m_kept m_acts m_images m_matchNow m_slopsNow m_matchesNow m_slopped m_seatBest m_fedBest m_slopsBest m_sawBest m_leastNow m_stableNow m_fitsNow m_someNow m_everyNow m_otherIn m_askLeft) (wN E ad R0.2.1 R0.2.2.1 R0.2.2.2 m_rv m_tape m_taped m_size m_spot m_sort m_place m_number m_fault m_wrongAt m_word m_v m_x m_past m_kept m_acts m_images m_matchNow m_slopsNow m_matchesNow m_slopped m_seatBest m_fedBest m_slopsBest m_sawBest m_leastNow m_stableNow m_fitsNow m_someNow m_everyNow m_otherIn m_askLeft) R0.1 := by
  refine xI_of (by decide) (Nat.le_of_ble_eq_true rfl) (fun p e s m args below meth c A C ls hl G => ?_)
  have hx := C.1
  have hb := C.2.1
  have hl : lv_has ls 4 [(0, .ref (ad 0)), (1, .int l1), (2, .int l2)] := hl
  unfold f_M_sit_N at hf
  refine lv_aload_n hx hb dX12_sit_0 rfl (lv_at hl 0 rfl) ?_
  refine lv_iconst (v := 0) hx hb dX12_sit_1 (by decide) ?_
  refine x_put (ws' := (wN E ad (0 : Int32) m_trouble m_where m_rv m_tape m_taped m_size m_spot m_sort m_place m_number m_fault m_wrongAt m_word m_v m_x m_past m_kept m_acts m_images m_matchNow m_slopsNow m_matchesNow m_slopped m_seatBest m_fedBest m_slopsBest m_sawBest m_leastNow m_stableNow m_fitsNow m_someNow m_everyNow m_otherIn m_askLeft)) C G fX12_39 (wN_at0) rfl rfl (Nat.le_of_ble_eq_true rfl) wN_set_m_thrown dX12_sit_2 (fun H locs G => ?_)
  refine lv_aload_n hx hb dX12_sit_5 rfl (lv_at hl 0 rfl) ?_
  refine lv_iload_n hx hb dX12_sit_6 rfl (lv_at hl 1 rfl) ?_
  obtain ⟨x1, hc, hf⟩ := bd_go hf
  refine xI_V C G (c_M_isPerson_m_N hc) mX12_isPerson kX12_309 (wN_at0) rfl ⟨Nat.le_of_ble_eq_true rfl, Nat.le_of_ble_eq_true rfl⟩ rfl hl.1 rfl (Nat.le_of_ble_eq_true rfl) ⟨Nat.le_refl _, Nat.le_refl _⟩ dX12_sit_7 (fun hz1 H locs G => ?_)
  refine lv_if_ne (tgt := 19) hx hb dX12_sit_10 (by decide) (fun h => ?_) (fun h => ?_)
  · have hf := it_f h hf
    refine lv_iload_n hx hb dX12_sit_19 rfl (lv_at hl 2 rfl) ?_
    refine lv_iconst (v := 0) hx hb dX12_sit_20 (by decide) ?_
    refine lv_aload_n hx hb dX12_sit_21 rfl (lv_at hl 0 rfl) ?_
    refine x_get C G fX12_298.g (wN_at0) rfl dX12_sit_22 ?_
    exact nomatch hf
  · have hf := it_t h hf
    refine lv_aload_n hx hb dX12_sit_13 rfl (lv_at hl 0 rfl) ?_
    refine lv_iconst (v := 1) hx hb dX12_sit_14 (by decide) ?_
    obtain ⟨x2, hc, hf⟩ := bd_go hf
    refine xI_V C G (c_M_refused_m_N hc) mX12_refused kX12_45 (wN_at0) rfl ⟨Nat.le_of_ble_eq_true rfl, Nat.le_of_ble_eq_true rfl⟩ rfl hl.1 rfl (Nat.le_of_ble_eq_true rfl) ⟨Nat.le_refl _, Nat.le_refl _⟩ dX12_sit_15 (fun hz H locs G => ?_)
    obtain rfl := Option.some.inj hf
    exact xI_ret C G rfl dX12_sit_18
set_option maxHeartbeats 4000000 in
set_option maxRecDepth 100000 in
theorem c_M_know_m_N {l : Launch} {E : xE} {ad : Nat → Nat} {m_thrown m_trouble m_where m_taped m_size m_spot m_sort m_place m_number m_fault m_wrongAt m_acts m_images m_matchNow m_slopsNow m_matchesNow m_fedBest m_slopsBest m_sawBest m_leastNow m_stableNow m_fitsNow m_someNow m_everyNow m_askLeft : Int32} {m_rv : Value} {m_tape m_v m_x m_past m_kept m_slopped m_seatBest m_otherIn : Nat → Int32} {m_word : Int64} {l1 : Int32} {l2 : Int32} {R0 : Int32 × Int32 × Int32 × Int32} (hf : f_M_know_N l1 l2 = some R0) : xI l E yX12_know cX12_know 3 (some .int) 2 43 [.ref (ad 0), .int l1, .int l2] (wN E ad m_thrown m_trouble m_where m_rv m_tape m_taped m_size m_spot m_sort m_place m_number m_fault m_wrongAt m_word m_v m_x m_past m_kept m_acts m_images m_matchNow m_slopsNow m_matchesNow m_slopped m_seatBest m_fedBest m_slopsBest m_sawBest m_leastNow m_stableNow m_fitsNow m_someNow m_everyNow m_otherIn m_askLeft) (wN E ad R0.2.1 R0.2.2.1 R0.2.2.2 m_rv m_tape m_taped m_size m_spot m_sort m_place m_number m_fault m_wrongAt m_word m_v m_x m_past m_kept m_acts m_images m_matchNow m_slopsNow m_matchesNow m_slopped m_seatBest m_fedBest m_slopsBest m_sawBest m_leastNow m_stableNow m_fitsNow m_someNow m_everyNow m_otherIn m_askLeft) R0.1 := by
  refine xI_of (by decide) (Nat.le_of_ble_eq_true rfl) (fun p e s m args below meth c A C ls hl G => ?_)
  have hx := C.1
  have hb := C.2.1
  have hl : lv_has ls 3 [(0, .ref (ad 0)), (1, .int l1), (2, .int l2)] := hl
  unfold f_M_know_N at hf
  refine lv_aload_n hx hb dX12_know_0 rfl (lv_at hl 0 rfl) ?_
  refine lv_iconst (v := 0) hx hb dX12_know_1 (by decide) ?_
  refine x_put (ws' := (wN E ad (0 : Int32) m_trouble m_where m_rv m_tape m_taped m_size m_spot m_sort m_place m_number m_fault m_wrongAt m_word m_v m_x m_past m_kept m_acts m_images m_matchNow m_slopsNow m_matchesNow m_slopped m_seatBest m_fedBest m_slopsBest m_sawBest m_leastNow m_stableNow m_fitsNow m_someNow m_everyNow m_otherIn m_askLeft)) C G fX12_39 (wN_at0) rfl rfl (Nat.le_of_ble_eq_true rfl) wN_set_m_thrown dX12_know_2 (fun H locs G => ?_)
  refine lv_aload_n hx hb dX12_know_5 rfl (lv_at hl 0 rfl) ?_
  refine lv_iload_n hx hb dX12_know_6 rfl (lv_at hl 1 rfl) ?_
  refine lv_iload_n hx hb dX12_know_7 rfl (lv_at hl 2 rfl) ?_
  obtain ⟨x1, hc, hf⟩ := bd_go hf
  refine xI_V C G (c_M_areTwo_m_N hc) mX12_areTwo kX12_342 (wN_at0) rfl ⟨Nat.le_of_ble_eq_true rfl, Nat.le_of_ble_eq_true rfl⟩ rfl hl.1 rfl (Nat.le_of_ble_eq_true rfl) ⟨Nat.le_refl _, Nat.le_refl _⟩ dX12_know_8 (fun hz1 H locs G => ?_)
  refine lv_if_ne (tgt := 20) hx hb dX12_know_11 (by decide) (fun h => ?_) (fun h => ?_)
  · have hf := it_f h hf
    refine lv_aload_n hx hb dX12_know_20 rfl (lv_at hl 0 rfl) ?_
    exact nomatch hf
  · have hf := it_t h hf
    refine lv_aload_n hx hb dX12_know_14 rfl (lv_at hl 0 rfl) ?_
    refine lv_iconst (v := 1) hx hb dX12_know_15 (by decide) ?_
    obtain ⟨x2, hc, hf⟩ := bd_go hf
    refine xI_V C G (c_M_refused_m_N hc) mX12_refused kX12_45 (wN_at0) rfl ⟨Nat.le_of_ble_eq_true rfl, Nat.le_of_ble_eq_true rfl⟩ rfl hl.1 rfl (Nat.le_of_ble_eq_true rfl) ⟨Nat.le_refl _, Nat.le_refl _⟩ dX12_know_16 (fun hz H locs G => ?_)
    obtain rfl := Option.some.inj hf
    exact xI_ret C G rfl dX12_know_19
set_option maxHeartbeats 4000000 in
set_option maxRecDepth 100000 in
theorem c_M_denied_m_N {l : Launch} {E : xE} {ad : Nat → Nat} {m_thrown m_trouble m_where m_taped m_size m_spot m_sort m_place m_number m_fault m_wrongAt m_acts m_images m_matchNow m_slopsNow m_matchesNow m_fedBest m_slopsBest m_sawBest m_leastNow m_stableNow m_fitsNow m_someNow m_everyNow m_askLeft : Int32} {m_rv : Value} {m_tape m_v m_x m_past m_kept m_slopped m_seatBest m_otherIn : Nat → Int32} {m_word : Int64} {l1 : Int32} {R0 : Int32 × Int32 × Int32} (hf : f_M_denied l1 = some R0) : xI l E yX12_denied cX12_denied 2 (some .boolean) 1 21 [.ref (ad 0), .int l1] (wN E ad m_thrown m_trouble m_where m_rv m_tape m_taped m_size m_spot m_sort m_place m_number m_fault m_wrongAt m_word m_v m_x m_past m_kept m_acts m_images m_matchNow m_slopsNow m_matchesNow m_slopped m_seatBest m_fedBest m_slopsBest m_sawBest m_leastNow m_stableNow m_fitsNow m_someNow m_everyNow m_otherIn m_askLeft) (wN E ad m_thrown R0.2.1 R0.2.2 m_rv m_tape m_taped m_size m_spot m_sort m_place m_number m_fault m_wrongAt m_word m_v m_x m_past m_kept m_acts m_images m_matchNow m_slopsNow m_matchesNow m_slopped m_seatBest m_fedBest m_slopsBest m_sawBest m_leastNow m_stableNow m_fitsNow m_someNow m_everyNow m_otherIn m_askLeft) R0.1 := by
  refine xI_of (by decide) (Nat.le_of_ble_eq_true rfl) (fun p e s m args below meth c A C ls hl G => ?_)
  have hx := C.1
  have hb := C.2.1
  have hl : lv_has ls 2 [(0, .ref (ad 0)), (1, .int l1)] := hl
  unfold f_M_denied at hf
  refine lv_aload_n hx hb dX12_denied_0 rfl (lv_at hl 0 rfl) ?_
  refine lv_iload_n hx hb dX12_denied_1 rfl (lv_at hl 1 rfl) ?_
  obtain ⟨x1, hc, hf⟩ := bd_go hf
  refine xI_V C G (c_M_refused_m_N hc) mX12_refused kX12_45 (wN_at0) rfl ⟨Nat.le_of_ble_eq_true rfl, Nat.le_of_ble_eq_true rfl⟩ rfl hl.1 rfl (Nat.le_of_ble_eq_true rfl) ⟨Nat.le_refl _, Nat.le_refl _⟩ dX12_denied_2 (fun hz H locs G => ?_)
  refine lv_pop hx hb dX12_denied_5 rfl ?_
  refine lv_iconst (v := 0) hx hb dX12_denied_6 (by decide) ?_
  obtain rfl := Option.some.inj hf
  exact xI_ret (r := (0 : Int32)) C G rfl dX12_denied_7
set_option maxHeartbeats 4000000 in
set_option maxRecDepth 100000 in
theorem c_M_undo_m_N {l : Launch} {E : xE} {ad : Nat → Nat} {m_thrown m_trouble m_where m_taped m_size m_spot m_sort m_place m_number m_fault m_wrongAt m_acts m_images m_matchNow m_slopsNow m_matchesNow m_fedBest m_slopsBest m_sawBest m_leastNow m_stableNow m_fitsNow m_someNow m_everyNow m_askLeft : Int32} {m_rv : Value} {m_tape m_v m_x m_past m_kept m_slopped m_seatBest m_otherIn : Nat → Int32} {m_word : Int64} {R0 : Int32 × Int32 × Int32 × Int32} (hf : f_M_undo_N = some R0) : xI l E yX12_undo cX12_undo 2 (some .boolean) 2 42 [.ref (ad 0)] (wN E ad m_thrown m_trouble m_where m_rv m_tape m_taped m_size m_spot m_sort m_place m_number m_fault m_wrongAt m_word m_v m_x m_past m_kept m_acts m_images m_matchNow m_slopsNow m_matchesNow m_slopped m_seatBest m_fedBest m_slopsBest m_sawBest m_leastNow m_stableNow m_fitsNow m_someNow m_everyNow m_otherIn m_askLeft) (wN E ad R0.2.1 R0.2.2.1 R0.2.2.2 m_rv m_tape m_taped m_size m_spot m_sort m_place m_number m_fault m_wrongAt m_word m_v m_x m_past m_kept m_acts m_images m_matchNow m_slopsNow m_matchesNow m_slopped m_seatBest m_fedBest m_slopsBest m_sawBest m_leastNow m_stableNow m_fitsNow m_someNow m_everyNow m_otherIn m_askLeft) R0.1 := by
  refine xI_of (by decide) (Nat.le_of_ble_eq_true rfl) (fun p e s m args below meth c A C ls hl G => ?_)
  have hx := C.1
  have hb := C.2.1
  have hl : lv_has ls 2 [(0, .ref (ad 0))] := hl
  unfold f_M_undo_N at hf
  refine lv_aload_n hx hb dX12_undo_0 rfl (lv_at hl 0 rfl) ?_
  refine lv_iconst (v := 0) hx hb dX12_undo_1 (by decide) ?_
  refine x_put (ws' := (wN E ad (0 : Int32) m_trouble m_where m_rv m_tape m_taped m_size m_spot m_sort m_place m_number m_fault m_wrongAt m_word m_v m_x m_past m_kept m_acts m_images m_matchNow m_slopsNow m_matchesNow m_slopped m_seatBest m_fedBest m_slopsBest m_sawBest m_leastNow m_stableNow m_fitsNow m_someNow m_everyNow m_otherIn m_askLeft)) C G fX12_39 (wN_at0) rfl rfl (Nat.le_of_ble_eq_true rfl) wN_set_m_thrown dX12_undo_2 (fun H locs G => ?_)
  refine lv_aload_n hx hb dX12_undo_5 rfl (lv_at hl 0 rfl) ?_
  refine x_get C G fX12_298.g (wN_at0) rfl dX12_undo_6 ?_
  refine lv_ifnullN (tgt := 19) hx hb dX12_undo_9 (by decide) ?_
  refine lv_aload_n hx hb dX12_undo_19 rfl (lv_at hl 0 rfl) ?_
  refine lv_bipush (v := 6) hx hb dX12_undo_20 (by decide) ?_
  obtain ⟨x1, hc, hf⟩ := bd_go hf
  refine xI_V C G (c_M_denied_m_N hc) mX12_denied kX12_523 (wN_at0) rfl ⟨Nat.le_of_ble_eq_true rfl, Nat.le_of_ble_eq_true rfl⟩ rfl hl.1 rfl (Nat.le_of_ble_eq_true rfl) ⟨Nat.le_refl _, Nat.le_refl _⟩ dX12_undo_22 (fun hz1 H locs G => ?_)
  obtain rfl := Option.some.inj hf
  exact xI_ret (r := x1.1) C G (hz1 _ rfl) dX12_undo_25
set_option maxHeartbeats 4000000 in
set_option maxRecDepth 100000 in
theorem c_M_image_m_N {l : Launch} {E : xE} {ad : Nat → Nat} {m_thrown m_trouble m_where m_taped m_size m_spot m_sort m_place m_number m_fault m_wrongAt m_acts m_images m_matchNow m_slopsNow m_matchesNow m_fedBest m_slopsBest m_sawBest m_leastNow m_stableNow m_fitsNow m_someNow m_everyNow m_askLeft : Int32} {m_rv : Value} {m_tape m_v m_x m_past m_kept m_slopped m_seatBest m_otherIn : Nat → Int32} {m_word : Int64} {R0 : Int32 × Int32 × Int32 × Int32} (hf : f_M_image_N = some R0) : xI l E yX12_image cX12_image 2 (some .int) 1 21 [.ref (ad 0)] (wN E ad m_thrown m_trouble m_where m_rv m_tape m_taped m_size m_spot m_sort m_place m_number m_fault m_wrongAt m_word m_v m_x m_past m_kept m_acts m_images m_matchNow m_slopsNow m_matchesNow m_slopped m_seatBest m_fedBest m_slopsBest m_sawBest m_leastNow m_stableNow m_fitsNow m_someNow m_everyNow m_otherIn m_askLeft) (wN E ad R0.2.1 R0.2.2.1 R0.2.2.2 m_rv m_tape m_taped m_size m_spot m_sort m_place m_number m_fault m_wrongAt m_word m_v m_x m_past m_kept m_acts m_images m_matchNow m_slopsNow m_matchesNow m_slopped m_seatBest m_fedBest m_slopsBest m_sawBest m_leastNow m_stableNow m_fitsNow m_someNow m_everyNow m_otherIn m_askLeft) R0.1 := by
  refine xI_of (by decide) (Nat.le_of_ble_eq_true rfl) (fun p e s m args below meth c A C ls hl G => ?_)
  have hx := C.1
  have hb := C.2.1
  have hl : lv_has ls 2 [(0, .ref (ad 0))] := hl
  unfold f_M_image_N at hf
  refine lv_aload_n hx hb dX12_image_0 rfl (lv_at hl 0 rfl) ?_
  refine lv_iconst (v := 0) hx hb dX12_image_1 (by decide) ?_
  refine x_put (ws' := (wN E ad (0 : Int32) m_trouble m_where m_rv m_tape m_taped m_size m_spot m_sort m_place m_number m_fault m_wrongAt m_word m_v m_x m_past m_kept m_acts m_images m_matchNow m_slopsNow m_matchesNow m_slopped m_seatBest m_fedBest m_slopsBest m_sawBest m_leastNow m_stableNow m_fitsNow m_someNow m_everyNow m_otherIn m_askLeft)) C G fX12_39 (wN_at0) rfl rfl (Nat.le_of_ble_eq_true rfl) wN_set_m_thrown dX12_image_2 (fun H locs G => ?_)
  refine lv_aload_n hx hb dX12_image_5 rfl (lv_at hl 0 rfl) ?_
  refine x_get C G fX12_298.g (wN_at0) rfl dX12_image_6 ?_
  refine lv_ifnonnullN hx hb dX12_image_9 ?_
  refine lv_aload_n hx hb dX12_image_12 rfl (lv_at hl 0 rfl) ?_
  refine lv_iconst (v := 1) hx hb dX12_image_13 (by decide) ?_
  obtain ⟨x1, hc, hf⟩ := bd_go hf
  refine xI_V C G (c_M_refused_m_N hc) mX12_refused kX12_45 (wN_at0) rfl ⟨Nat.le_of_ble_eq_true rfl, Nat.le_of_ble_eq_true rfl⟩ rfl hl.1 rfl (Nat.le_of_ble_eq_true rfl) ⟨Nat.le_refl _, Nat.le_refl _⟩ dX12_image_14 (fun hz H locs G => ?_)
  obtain rfl := Option.some.inj hf
  exact xI_ret C G rfl dX12_image_17
set_option maxHeartbeats 4000000 in
set_option maxRecDepth 100000 in
theorem c_M_back_m_N {l : Launch} {E : xE} {ad : Nat → Nat} {m_thrown m_trouble m_where m_taped m_size m_spot m_sort m_place m_number m_fault m_wrongAt m_acts m_images m_matchNow m_slopsNow m_matchesNow m_fedBest m_slopsBest m_sawBest m_leastNow m_stableNow m_fitsNow m_someNow m_everyNow m_askLeft : Int32} {m_rv : Value} {m_tape m_v m_x m_past m_kept m_slopped m_seatBest m_otherIn : Nat → Int32} {m_word : Int64} {l1 : Int32} {R0 : Int32 × Int32 × Int32 × Int32} (hf : f_M_back_N l1 = some R0) : xI l E yX12_back cX12_back 3 (some .boolean) 2 42 [.ref (ad 0), .int l1] (wN E ad m_thrown m_trouble m_where m_rv m_tape m_taped m_size m_spot m_sort m_place m_number m_fault m_wrongAt m_word m_v m_x m_past m_kept m_acts m_images m_matchNow m_slopsNow m_matchesNow m_slopped m_seatBest m_fedBest m_slopsBest m_sawBest m_leastNow m_stableNow m_fitsNow m_someNow m_everyNow m_otherIn m_askLeft) (wN E ad R0.2.1 R0.2.2.1 R0.2.2.2 m_rv m_tape m_taped m_size m_spot m_sort m_place m_number m_fault m_wrongAt m_word m_v m_x m_past m_kept m_acts m_images m_matchNow m_slopsNow m_matchesNow m_slopped m_seatBest m_fedBest m_slopsBest m_sawBest m_leastNow m_stableNow m_fitsNow m_someNow m_everyNow m_otherIn m_askLeft) R0.1 := by
  refine xI_of (by decide) (Nat.le_of_ble_eq_true rfl) (fun p e s m args below meth c A C ls hl G => ?_)
  have hx := C.1
  have hb := C.2.1
  have hl : lv_has ls 3 [(0, .ref (ad 0)), (1, .int l1)] := hl
  unfold f_M_back_N at hf
  refine lv_aload_n hx hb dX12_back_0 rfl (lv_at hl 0 rfl) ?_
  refine lv_iconst (v := 0) hx hb dX12_back_1 (by decide) ?_
  refine x_put (ws' := (wN E ad (0 : Int32) m_trouble m_where m_rv m_tape m_taped m_size m_spot m_sort m_place m_number m_fault m_wrongAt m_word m_v m_x m_past m_kept m_acts m_images m_matchNow m_slopsNow m_matchesNow m_slopped m_seatBest m_fedBest m_slopsBest m_sawBest m_leastNow m_stableNow m_fitsNow m_someNow m_everyNow m_otherIn m_askLeft)) C G fX12_39 (wN_at0) rfl rfl (Nat.le_of_ble_eq_true rfl) wN_set_m_thrown dX12_back_2 (fun H locs G => ?_)
  refine lv_aload_n hx hb dX12_back_5 rfl (lv_at hl 0 rfl) ?_
  refine x_get C G fX12_298.g (wN_at0) rfl dX12_back_6 ?_
  refine lv_ifnullN (tgt := 24) hx hb dX12_back_9 (by decide) ?_
  refine lv_aload_n hx hb dX12_back_24 rfl (lv_at hl 0 rfl) ?_
  refine lv_iconst (v := 1) hx hb dX12_back_25 (by decide) ?_
  obtain ⟨x1, hc, hf⟩ := bd_go hf
  refine xI_V C G (c_M_denied_m_N hc) mX12_denied kX12_523 (wN_at0) rfl ⟨Nat.le_of_ble_eq_true rfl, Nat.le_of_ble_eq_true rfl⟩ rfl hl.1 rfl (Nat.le_of_ble_eq_true rfl) ⟨Nat.le_refl _, Nat.le_refl _⟩ dX12_back_26 (fun hz1 H locs G => ?_)
  obtain rfl := Option.some.inj hf
  exact xI_ret (r := x1.1) C G (hz1 _ rfl) dX12_back_29
set_option maxHeartbeats 4000000 in
set_option maxRecDepth 100000 in
theorem c_M_led_m_N {l : Launch} {E : xE} {ad : Nat → Nat} {m_thrown m_trouble m_where m_taped m_size m_spot m_sort m_place m_number m_fault m_wrongAt m_acts m_images m_matchNow m_slopsNow m_matchesNow m_fedBest m_slopsBest m_sawBest m_leastNow m_stableNow m_fitsNow m_someNow m_everyNow m_askLeft : Int32} {m_rv : Value} {m_tape m_v m_x m_past m_kept m_slopped m_seatBest m_otherIn : Nat → Int32} {m_word : Int64} {l1 : Int32} {R0 : Int32 × Int32} (hf : f_M_led_N l1 = some R0) : xI l E yX12_led cX12_led 4 (some .int) 0 0 [.ref (ad 0), .int l1] (wN E ad m_thrown m_trouble m_where m_rv m_tape m_taped m_size m_spot m_sort m_place m_number m_fault m_wrongAt m_word m_v m_x m_past m_kept m_acts m_images m_matchNow m_slopsNow m_matchesNow m_slopped m_seatBest m_fedBest m_slopsBest m_sawBest m_leastNow m_stableNow m_fitsNow m_someNow m_everyNow m_otherIn m_askLeft) (wN E ad R0.2 m_trouble m_where m_rv m_tape m_taped m_size m_spot m_sort m_place m_number m_fault m_wrongAt m_word m_v m_x m_past m_kept m_acts m_images m_matchNow m_slopsNow m_matchesNow m_slopped m_seatBest m_fedBest m_slopsBest m_sawBest m_leastNow m_stableNow m_fitsNow m_someNow m_everyNow m_otherIn m_askLeft) R0.1 := by
  refine xI_of (by decide) (Nat.le_of_ble_eq_true rfl) (fun p e s m args below meth c A C ls hl G => ?_)
  have hx := C.1
  have hb := C.2.1
  have hl : lv_has ls 4 [(0, .ref (ad 0)), (1, .int l1)] := hl
  unfold f_M_led_N at hf
  refine lv_aload_n hx hb dX12_led_0 rfl (lv_at hl 0 rfl) ?_
  refine lv_iconst (v := 0) hx hb dX12_led_1 (by decide) ?_
  refine x_put (ws' := (wN E ad (0 : Int32) m_trouble m_where m_rv m_tape m_taped m_size m_spot m_sort m_place m_number m_fault m_wrongAt m_word m_v m_x m_past m_kept m_acts m_images m_matchNow m_slopsNow m_matchesNow m_slopped m_seatBest m_fedBest m_slopsBest m_sawBest m_leastNow m_stableNow m_fitsNow m_someNow m_everyNow m_otherIn m_askLeft)) C G fX12_39 (wN_at0) rfl rfl (Nat.le_of_ble_eq_true rfl) wN_set_m_thrown dX12_led_2 (fun H locs G => ?_)
  refine lv_iconst (v := 0) hx hb dX12_led_5 (by decide) ?_
  refine lv_istore_n (lv' := [(2, .int (0 : Int32)), (0, .ref (ad 0)), (1, .int l1)]) hx hb dX12_led_6 rfl hl (by decide) rfl (fun ls hl => ?_)
  refine lv_aload_n hx hb dX12_led_7 rfl (lv_at hl 1 rfl) ?_
  refine x_get C G fX12_298.g (wN_at0) rfl dX12_led_8 ?_
  refine lv_ifnullN (tgt := 18) hx hb dX12_led_11 (by decide) ?_
  refine lv_iconst (v := 0) hx hb dX12_led_18 (by decide) ?_
  refine lv_istore_n (lv' := [(3, .int (0 : Int32)), (2, .int (0 : Int32)), (0, .ref (ad 0)), (1, .int l1)]) hx hb dX12_led_19 rfl hl (by decide) rfl (fun ls hl => ?_)
  refine lv_aload_n hx hb dX12_led_20 rfl (lv_at hl 2 rfl) ?_
  refine x_get C G fX12_298.g (wN_at0) rfl dX12_led_21 ?_
  refine lv_ifnullN (tgt := 65) hx hb dX12_led_24 (by decide) ?_
  refine lv_aload_n hx hb dX12_led_65 rfl (lv_at hl 2 rfl) ?_
  refine lv_iconst (v := 1) hx hb dX12_led_66 (by decide) ?_
  refine x_put (ws' := (wN E ad (1 : Int32) m_trouble m_where m_rv m_tape m_taped m_size m_spot m_sort m_place m_number m_fault m_wrongAt m_word m_v m_x m_past m_kept m_acts m_images m_matchNow m_slopsNow m_matchesNow m_slopped m_seatBest m_fedBest m_slopsBest m_sawBest m_leastNow m_stableNow m_fitsNow m_someNow m_everyNow m_otherIn m_askLeft)) C G fX12_39 (wN_at0) rfl rfl (Nat.le_of_ble_eq_true rfl) wN_set_m_thrown dX12_led_67 (fun H locs G => ?_)
  refine lv_iconst (v := 0) hx hb dX12_led_70 (by decide) ?_
  obtain rfl := Option.some.inj hf
  exact xI_ret C G rfl dX12_led_71
set_option maxHeartbeats 4000000 in
set_option maxRecDepth 100000 in
theorem c_M_size_m_N {l : Launch} {E : xE} {ad : Nat → Nat} {m_thrown m_trouble m_where m_taped m_size m_spot m_sort m_place m_number m_fault m_wrongAt m_acts m_images m_matchNow m_slopsNow m_matchesNow m_fedBest m_slopsBest m_sawBest m_leastNow m_stableNow m_fitsNow m_someNow m_everyNow m_askLeft : Int32} {m_rv : Value} {m_tape m_v m_x m_past m_kept m_slopped m_seatBest m_otherIn : Nat → Int32} {m_word : Int64} {l1 : Int32} {R0 : Int32 × Int32} (hf : f_M_size_N l1 m_taped = some R0) : xI l E yX12_size cX12_size 2 (some .int) 1 22 [.ref (ad 0), .int l1] (wN E ad m_thrown m_trouble m_where m_rv m_tape m_taped m_size m_spot m_sort m_place m_number m_fault m_wrongAt m_word m_v m_x m_past m_kept m_acts m_images m_matchNow m_slopsNow m_matchesNow m_slopped m_seatBest m_fedBest m_slopsBest m_sawBest m_leastNow m_stableNow m_fitsNow m_someNow m_everyNow m_otherIn m_askLeft) (wN E ad R0.2 m_trouble m_where m_rv m_tape m_taped m_size m_spot m_sort m_place m_number m_fault m_wrongAt m_word m_v m_x m_past m_kept m_acts m_images m_matchNow m_slopsNow m_matchesNow m_slopped m_seatBest m_fedBest m_slopsBest m_sawBest m_leastNow m_stableNow m_fitsNow m_someNow m_everyNow m_otherIn m_askLeft) R0.1 := by
  refine xI_of (by decide) (Nat.le_of_ble_eq_true rfl) (fun p e s m args below meth c A C ls hl G => ?_)
  have hx := C.1
  have hb := C.2.1
  have hl : lv_has ls 2 [(0, .ref (ad 0)), (1, .int l1)] := hl
  unfold f_M_size_N at hf
  refine lv_aload_n hx hb dX12_size_0 rfl (lv_at hl 0 rfl) ?_
  refine lv_iconst (v := 0) hx hb dX12_size_1 (by decide) ?_
  refine x_put (ws' := (wN E ad (0 : Int32) m_trouble m_where m_rv m_tape m_taped m_size m_spot m_sort m_place m_number m_fault m_wrongAt m_word m_v m_x m_past m_kept m_acts m_images m_matchNow m_slopsNow m_matchesNow m_slopped m_seatBest m_fedBest m_slopsBest m_sawBest m_leastNow m_stableNow m_fitsNow m_someNow m_everyNow m_otherIn m_askLeft)) C G fX12_39 (wN_at0) rfl rfl (Nat.le_of_ble_eq_true rfl) wN_set_m_thrown dX12_size_2 (fun H locs G => ?_)
  refine lv_iload_n hx hb dX12_size_5 rfl (lv_at hl 1 rfl) ?_
  refine lv_bipush (v := 12) hx hb dX12_size_6 (by decide) ?_
  refine lv_icmp_ne (tgt := 16) hx hb dX12_size_8 (by decide) (fun h => ?_) (fun h => ?_)
  · have hf := it_f h hf
    refine lv_iload_n hx hb dX12_size_16 rfl (lv_at hl 1 rfl) ?_
    refine lv_iconst (v := 0) hx hb dX12_size_17 (by decide) ?_
    refine lv_bipush (v := 11) hx hb dX12_size_18 (by decide) ?_
    obtain ⟨x1, hc, hf⟩ := bd_go hf
    refine xI_S C G (c_M_in_any hc) mX12_in kX12_118 ⟨Nat.le_of_ble_eq_true rfl, Nat.le_of_ble_eq_true rfl⟩ rfl hl.1 rfl (Nat.le_of_ble_eq_true rfl) ⟨Nat.le_refl _, Nat.le_refl _⟩ dX12_size_20 (fun hz1 H locs G => ?_)
    refine lv_if_ne (tgt := 28) hx hb dX12_size_23 (by decide) (fun h => ?_) (fun h => ?_)
    · have hf := it_f h hf
      refine lv_aload_n hx hb dX12_size_28 rfl (lv_at hl 0 rfl) ?_
      refine x_get C G fX12_298.g (wN_at0) rfl dX12_size_29 ?_
      refine lv_ifnonnullN hx hb dX12_size_32 ?_
      refine lv_iconst (v := 0) hx hb dX12_size_35 (by decide) ?_
      obtain rfl := Option.some.inj hf
      exact xI_ret C G rfl dX12_size_36
    · have hf := it_t h hf
      refine lv_iconst (v := -1) hx hb dX12_size_26 (by decide) ?_
      obtain rfl := Option.some.inj hf
      exact xI_ret C G rfl dX12_size_27
  · have hf := it_t h hf
    refine lv_aload_n hx hb dX12_size_11 rfl (lv_at hl 0 rfl) ?_
    refine x_get C G fX12_291.g (wN_at0) rfl dX12_size_12 ?_
    obtain rfl := Option.some.inj hf
    exact xI_ret C G rfl dX12_size_15
set_option maxHeartbeats 4000000 in
set_option maxRecDepth 100000 in
theorem c_M_trouble_m_N {l : Launch} {E : xE} {ad : Nat → Nat} {m_thrown m_trouble m_where m_taped m_size m_spot m_sort m_place m_number m_fault m_wrongAt m_acts m_images m_matchNow m_slopsNow m_matchesNow m_fedBest m_slopsBest m_sawBest m_leastNow m_stableNow m_fitsNow m_someNow m_everyNow m_askLeft : Int32} {m_rv : Value} {m_tape m_v m_x m_past m_kept m_slopped m_seatBest m_otherIn : Nat → Int32} {m_word : Int64} {R0 : Int32 × Int32} (hf : f_M_trouble m_trouble = some R0) : xI l E yX12_trouble cX12_trouble 1 (some .int) 0 0 [.ref (ad 0)] (wN E ad m_thrown m_trouble m_where m_rv m_tape m_taped m_size m_spot m_sort m_place m_number m_fault m_wrongAt m_word m_v m_x m_past m_kept m_acts m_images m_matchNow m_slopsNow m_matchesNow m_slopped m_seatBest m_fedBest m_slopsBest m_sawBest m_leastNow m_stableNow m_fitsNow m_someNow m_everyNow m_otherIn m_askLeft) (wN E ad R0.2 m_trouble m_where m_rv m_tape m_taped m_size m_spot m_sort m_place m_number m_fault m_wrongAt m_word m_v m_x m_past m_kept m_acts m_images m_matchNow m_slopsNow m_matchesNow m_slopped m_seatBest m_fedBest m_slopsBest m_sawBest m_leastNow m_stableNow m_fitsNow m_someNow m_everyNow m_otherIn m_askLeft) R0.1 := by
  refine xI_of (by decide) (Nat.le_of_ble_eq_true rfl) (fun p e s m args below meth c A C ls hl G => ?_)
  have hx := C.1
  have hb := C.2.1
  have hl : lv_has ls 1 [(0, .ref (ad 0))] := hl
  unfold f_M_trouble at hf
  refine lv_aload_n hx hb dX12_trouble_0 rfl (lv_at hl 0 rfl) ?_
  refine lv_iconst (v := 0) hx hb dX12_trouble_1 (by decide) ?_
  refine x_put (ws' := (wN E ad (0 : Int32) m_trouble m_where m_rv m_tape m_taped m_size m_spot m_sort m_place m_number m_fault m_wrongAt m_word m_v m_x m_past m_kept m_acts m_images m_matchNow m_slopsNow m_matchesNow m_slopped m_seatBest m_fedBest m_slopsBest m_sawBest m_leastNow m_stableNow m_fitsNow m_someNow m_everyNow m_otherIn m_askLeft)) C G fX12_39 (wN_at0) rfl rfl (Nat.le_of_ble_eq_true rfl) wN_set_m_thrown dX12_trouble_2 (fun H locs G => ?_)
  refine lv_aload_n hx hb dX12_trouble_5 rfl (lv_at hl 0 rfl) ?_
  refine x_get C G fX12_42.g (wN_at0) rfl dX12_trouble_6 ?_
  obtain rfl := Option.some.inj hf
  exact xI_ret C G rfl dX12_trouble_9
set_option maxHeartbeats 4000000 in
set_option maxRecDepth 100000 in
theorem c_M_thrown_m_N {l : Launch} {E : xE} {ad : Nat → Nat} {m_thrown m_trouble m_where m_taped m_size m_spot m_sort m_place m_number m_fault m_wrongAt m_acts m_images m_matchNow m_slopsNow m_matchesNow m_fedBest m_slopsBest m_sawBest m_leastNow m_stableNow m_fitsNow m_someNow m_everyNow m_askLeft : Int32} {m_rv : Value} {m_tape m_v m_x m_past m_kept m_slopped m_seatBest m_otherIn : Nat → Int32} {m_word : Int64} {R0 : Int32} (hf : f_M_thrown m_thrown = some R0) : xI l E yX12_thrown cX12_thrown 1 (some .int) 0 0 [.ref (ad 0)] (wN E ad m_thrown m_trouble m_where m_rv m_tape m_taped m_size m_spot m_sort m_place m_number m_fault m_wrongAt m_word m_v m_x m_past m_kept m_acts m_images m_matchNow m_slopsNow m_matchesNow m_slopped m_seatBest m_fedBest m_slopsBest m_sawBest m_leastNow m_stableNow m_fitsNow m_someNow m_everyNow m_otherIn m_askLeft) (wN E ad m_thrown m_trouble m_where m_rv m_tape m_taped m_size m_spot m_sort m_place m_number m_fault m_wrongAt m_word m_v m_x m_past m_kept m_acts m_images m_matchNow m_slopsNow m_matchesNow m_slopped m_seatBest m_fedBest m_slopsBest m_sawBest m_leastNow m_stableNow m_fitsNow m_someNow m_everyNow m_otherIn m_askLeft) R0 := by
  refine xI_of (by decide) (Nat.le_of_ble_eq_true rfl) (fun p e s m args below meth c A C ls hl G => ?_)
  have hx := C.1
  have hb := C.2.1
  have hl : lv_has ls 1 [(0, .ref (ad 0))] := hl
  unfold f_M_thrown at hf
  refine lv_aload_n hx hb dX12_thrown_0 rfl (lv_at hl 0 rfl) ?_
  refine x_get C G fX12_39.g (wN_at0) rfl dX12_thrown_1 ?_
  obtain rfl := Option.some.inj hf
  exact xI_ret C G rfl dX12_thrown_4
set_option maxHeartbeats 4000000 in
set_option maxRecDepth 100000 in
theorem c_M_byteAt_m_R {l : Launch} {E : xE} {ad : Nat → Nat} {m_thrown m_trouble m_where m_taped m_size m_spot m_sort m_place m_number m_fault m_wrongAt m_acts m_images m_matchNow m_slopsNow m_matchesNow m_fedBest m_slopsBest m_sawBest m_leastNow m_stableNow m_fitsNow m_someNow m_everyNow m_askLeft rt_seats rt_slack rt_saw rt_quarrel rt_people rt_pairs rt_forks rt_unsures rt_trieds rt_fed : Int32} {m_tv : Value} {m_tape m_v m_x m_past m_kept m_slopped m_seatBest m_otherIn rt_seat rt_one rt_other rt_years rt_kind rt_unsure rt_may rt_tried : Nat → Int32} {m_word : Int64} {rt_name : Nat → Int64} {l1 : Int32} {R0 : Int32} (hf : f_M_byteAt l1 m_tape m_size = some R0) : xI l E yX12_byteAt cX12_byteAt 2 (some .int) 0 0 [.ref (ad 0), .int l1] (wR E ad m_thrown m_trouble m_where m_tv m_tape m_taped m_size m_spot m_sort m_place m_number m_fault m_wrongAt m_word m_v m_x m_past m_kept m_acts m_images m_matchNow m_slopsNow m_matchesNow m_slopped m_seatBest m_fedBest m_slopsBest m_sawBest m_leastNow m_stableNow m_fitsNow m_someNow m_everyNow m_otherIn m_askLeft rt_seats rt_slack rt_saw rt_quarrel rt_people rt_pairs rt_forks rt_unsures rt_trieds rt_fed rt_seat rt_one rt_other rt_years rt_kind rt_unsure rt_may rt_tried rt_name) (wR E ad m_thrown m_trouble m_where m_tv m_tape m_taped m_size m_spot m_sort m_place m_number m_fault m_wrongAt m_word m_v m_x m_past m_kept m_acts m_images m_matchNow m_slopsNow m_matchesNow m_slopped m_seatBest m_fedBest m_slopsBest m_sawBest m_leastNow m_stableNow m_fitsNow m_someNow m_everyNow m_otherIn m_askLeft rt_seats rt_slack rt_saw rt_quarrel rt_people rt_pairs rt_forks rt_unsures rt_trieds rt_fed rt_seat rt_one rt_other rt_years rt_kind rt_unsure rt_may rt_tried rt_name) R0 := by
  refine xI_of (by decide) (Nat.le_of_ble_eq_true rfl) (fun p e s m args below meth c A C ls hl G => ?_)
  have hx := C.1
  have hb := C.2.1
  have hl : lv_has ls 2 [(0, .ref (ad 0)), (1, .int l1)] := hl
  unfold f_M_byteAt at hf
  refine lv_iload_n hx hb dX12_byteAt_0 rfl (lv_at hl 1 rfl) ?_
  refine lv_aload_n hx hb dX12_byteAt_1 rfl (lv_at hl 0 rfl) ?_
  refine x_get C G fX12_56.g (wR_at0) rfl dX12_byteAt_2 ?_
  refine lv_icmp_ge (tgt := 21) hx hb dX12_byteAt_5 (by decide) (fun h => ?_) (fun h => ?_)
  · have hf := it_t h hf
    refine lv_iconst (v := -1) hx hb dX12_byteAt_21 (by decide) ?_
    obtain rfl := Option.some.inj hf
    exact xI_ret C G rfl dX12_byteAt_22
  · have hf := it_f h hf
    refine lv_aload_n hx hb dX12_byteAt_8 rfl (lv_at hl 0 rfl) ?_
    refine x_get C G fX12_13 (wR_at0) rfl dX12_byteAt_9 ?_
    refine lv_iload_n hx hb dX12_byteAt_12 rfl (lv_at hl 1 rfl) ?_
    have hi := ck_in hf
    have hf := ck_go hf
    refine x_bald C G (wR_at1) hi dX12_byteAt_13 ?_
    refine lv_sipush (v := 255) hx hb dX12_byteAt_14 (by decide) ?_
    refine lv_iand hx hb dX12_byteAt_17 ?_
    refine lv_goto (tgt := 22) hx hb dX12_byteAt_18 (by decide) ?_
    obtain rfl := Option.some.inj hf
    exact xI_ret C G rfl dX12_byteAt_22
set_option maxHeartbeats 4000000 in
set_option maxRecDepth 100000 in
theorem c_M_isLetter_any {l : Launch} {E : xE} {ws : va_W} {l0 : Int32} {R0 : Int32} (hf : f_M_isLetter l0 = some R0) : xI l E yX12_isLetter cX12_isLetter 1 (some .boolean) 0 0 [.int l0] ws ws R0 := by
  refine xI_of (by decide) (Nat.le_of_ble_eq_true rfl) (fun p e s m args below meth c A C ls hl G => ?_)
  have hx := C.1
  have hb := C.2.1
  have hl : lv_has ls 1 [(0, .int l0)] := hl
  unfold f_M_isLetter at hf
  refine lv_iload_n hx hb dX12_isLetter_0 rfl (lv_at hl 0 rfl) ?_
  refine lv_bipush (v := 97) hx hb dX12_isLetter_1 (by decide) ?_
  obtain ⟨b1, hr, hf⟩ := bd_go hf
  cases b1 with
  | true =>
    have hf := it_t rfl hf
    have J : ∀ (H : Heap) (locs : List Loc), xG s E A ws H locs → W p l e (xR 0 0) s m args below meth c H locs 0 0 (MQ below (xqI E A ws (some .boolean) R0) args s 0 0 A) (F0 m 16 ls []) := by
      intro H locs G
      refine lv_iconst (v := 0) hx hb dX12_isLetter_16 (by decide) ?_
      obtain rfl := Option.some.inj hf
      exact xI_ret (r := (0 : Int32)) C G rfl dX12_isLetter_17
    have hf := hr
    clear hr
    refine lv_icmp_lt (tgt := 16) hx hb dX12_isLetter_3 (by decide) (fun h => ?_) (fun h => ?_)
    · have hf := it_t h hf
      exact J _ _ G
    · have hf := it_f h hf
      refine lv_iload_n hx hb dX12_isLetter_6 rfl (lv_at hl 0 rfl) ?_
      refine lv_bipush (v := 122) hx hb dX12_isLetter_7 (by decide) ?_
      refine lv_icmp_gt (tgt := 16) hx hb dX12_isLetter_9 (by decide) (fun h => ?_) (fun h => ?_)
      · have hf := it_t h hf
        exact J _ _ G
      · have hf := it_f h hf
        exact absurd (Option.some.inj hf) (by decide)
  | false =>
    have hf := it_f (by decide) hf
    have J : ∀ (H : Heap) (locs : List Loc), xG s E A ws H locs → W p l e (xR 0 0) s m args below meth c H locs 0 0 (MQ below (xqI E A ws (some .boolean) R0) args s 0 0 A) (F0 m 12 ls []) := by
      intro H locs G
      refine lv_iconst (v := 1) hx hb dX12_isLetter_12 (by decide) ?_
      refine lv_goto (tgt := 17) hx hb dX12_isLetter_13 (by decide) ?_
      obtain rfl := Option.some.inj hf
      exact xI_ret (r := (1 : Int32)) C G rfl dX12_isLetter_17
    have hf := hr
    clear hr
    refine lv_icmp_lt (tgt := 16) hx hb dX12_isLetter_3 (by decide) (fun h => ?_) (fun h => ?_)
    · have hf := it_t h hf
      exact absurd (Option.some.inj hf) (by decide)
    · have hf := it_f h hf
      refine lv_iload_n hx hb dX12_isLetter_6 rfl (lv_at hl 0 rfl) ?_
      refine lv_bipush (v := 122) hx hb dX12_isLetter_7 (by decide) ?_
      refine lv_icmp_gt (tgt := 16) hx hb dX12_isLetter_9 (by decide) (fun h => ?_) (fun h => ?_)
      · have hf := it_t h hf
        exact absurd (Option.some.inj hf) (by decide)
      · have hf := it_f h hf
        exact J _ _ G
set_option maxHeartbeats 4000000 in
set_option maxRecDepth 100000 in
theorem c_M_isDigit_any {l : Launch} {E : xE} {ws : va_W} {l0 : Int32} {R0 : Int32} (hf : f_M_isDigit l0 = some R0) : xI l E yX12_isDigit cX12_isDigit 1 (some .boolean) 0 0 [.int l0] ws ws R0 := by
  refine xI_of (by decide) (Nat.le_of_ble_eq_true rfl) (fun p e s m args below meth c A C ls hl G => ?_)
  have hx := C.1
  have hb := C.2.1
  have hl : lv_has ls 1 [(0, .int l0)] := hl
  unfold f_M_isDigit at hf
  refine lv_iload_n hx hb dX12_isDigit_0 rfl (lv_at hl 0 rfl) ?_
  refine lv_bipush (v := 48) hx hb dX12_isDigit_1 (by decide) ?_
  obtain ⟨b1, hr, hf⟩ := bd_go hf
  cases b1 with
  | true =>
    have hf := it_t rfl hf
    have J : ∀ (H : Heap) (locs : List Loc), xG s E A ws H locs → W p l e (xR 0 0) s m args below meth c H locs 0 0 (MQ below (xqI E A ws (some .boolean) R0) args s 0 0 A) (F0 m 16 ls []) := by
      intro H locs G
      refine lv_iconst (v := 0) hx hb dX12_isDigit_16 (by decide) ?_
      obtain rfl := Option.some.inj hf
      exact xI_ret (r := (0 : Int32)) C G rfl dX12_isDigit_17
    have hf := hr
    clear hr
    refine lv_icmp_lt (tgt := 16) hx hb dX12_isDigit_3 (by decide) (fun h => ?_) (fun h => ?_)
    · have hf := it_t h hf
      exact J _ _ G
    · have hf := it_f h hf
      refine lv_iload_n hx hb dX12_isDigit_6 rfl (lv_at hl 0 rfl) ?_
      refine lv_bipush (v := 57) hx hb dX12_isDigit_7 (by decide) ?_
      refine lv_icmp_gt (tgt := 16) hx hb dX12_isDigit_9 (by decide) (fun h => ?_) (fun h => ?_)
      · have hf := it_t h hf
        exact J _ _ G
      · have hf := it_f h hf
        exact absurd (Option.some.inj hf) (by decide)
  | false =>
    have hf := it_f (by decide) hf
    have J : ∀ (H : Heap) (locs : List Loc), xG s E A ws H locs → W p l e (xR 0 0) s m args below meth c H locs 0 0 (MQ below (xqI E A ws (some .boolean) R0) args s 0 0 A) (F0 m 12 ls []) := by
      intro H locs G
      refine lv_iconst (v := 1) hx hb dX12_isDigit_12 (by decide) ?_
      refine lv_goto (tgt := 17) hx hb dX12_isDigit_13 (by decide) ?_
      obtain rfl := Option.some.inj hf
      exact xI_ret (r := (1 : Int32)) C G rfl dX12_isDigit_17
    have hf := hr
    clear hr
    refine lv_icmp_lt (tgt := 16) hx hb dX12_isDigit_3 (by decide) (fun h => ?_) (fun h => ?_)
    · have hf := it_t h hf
      exact absurd (Option.some.inj hf) (by decide)
    · have hf := it_f h hf
      refine lv_iload_n hx hb dX12_isDigit_6 rfl (lv_at hl 0 rfl) ?_
      refine lv_bipush (v := 57) hx hb dX12_isDigit_7 (by decide) ?_
      refine lv_icmp_gt (tgt := 16) hx hb dX12_isDigit_9 (by decide) (fun h => ?_) (fun h => ?_)
      · have hf := it_t h hf
        exact absurd (Option.some.inj hf) (by decide)
      · have hf := it_f h hf
        exact J _ _ G
set_option maxHeartbeats 4000000 in
set_option maxRecDepth 100000 in
theorem w_M_goesOn_m_R_L9 {p : Program} {l : Launch} {e : Env} {s : State} {m : MethodId} {args : Array Value} {below : List Frame} {meth : Method} {c : Code} {A : Nat → Prop} {E : xE} {Q : State → Prop} {ad : Nat → Nat} {m_thrown m_trouble m_where m_taped m_size m_sort m_place m_number m_fault m_wrongAt m_acts m_images m_matchNow m_slopsNow m_matchesNow m_fedBest m_slopsBest m_sawBest m_leastNow m_stableNow m_fitsNow m_someNow m_everyNow m_askLeft rt_seats rt_slack rt_saw rt_quarrel rt_people rt_pairs rt_forks rt_unsures rt_trieds rt_fed : Int32} {m_tv : Value} {m_tape m_v m_x m_past m_kept m_slopped m_seatBest m_otherIn rt_seat rt_one rt_other rt_years rt_kind rt_unsure rt_may rt_tried : Nat → Int32} {m_word : Int64} {rt_name : Nat → Int64} {o : Int32} (C : xC p s m args meth c cX12_goesOn 3 RX12 E A none) (J : ∀ (H : Heap) (locs : List Loc) (ls : Array Slot), xG s E A (wR E ad m_thrown m_trouble m_where m_tv m_tape m_taped m_size o m_sort m_place m_number m_fault m_wrongAt m_word m_v m_x m_past m_kept m_acts m_images m_matchNow m_slopsNow m_matchesNow m_slopped m_seatBest m_fedBest m_slopsBest m_sawBest m_leastNow m_stableNow m_fitsNow m_someNow m_everyNow m_otherIn m_askLeft rt_seats rt_slack rt_saw rt_quarrel rt_people rt_pairs rt_forks rt_unsures rt_trieds rt_fed rt_seat rt_one rt_other rt_years rt_kind rt_unsure rt_may rt_tried rt_name) H locs → lv_has ls 3 [(0, .ref (ad 0))] → W p l e (xR 1 21) s m args below meth c H locs 0 0 Q (F0 m 35 ls [])) :
    ∀ (n : Nat) (m_spot : Int32) (H : Heap) (locs : List Loc) (ls : Array Slot), xG s E A (wR E ad m_thrown m_trouble m_where m_tv m_tape m_taped m_size m_spot m_sort m_place m_number m_fault m_wrongAt m_word m_v m_x m_past m_kept m_acts m_images m_matchNow m_slopsNow m_matchesNow m_slopped m_seatBest m_fedBest m_slopsBest m_sawBest m_leastNow m_stableNow m_fitsNow m_someNow m_everyNow m_otherIn m_askLeft rt_seats rt_slack rt_saw rt_quarrel rt_people rt_pairs rt_forks rt_unsures rt_trieds rt_fed rt_seat rt_one rt_other rt_years rt_kind rt_unsure rt_may rt_tried rt_name) H locs → lv_has ls 3 [(0, .ref (ad 0))] → f_M_goesOn_L9 m_tape m_size n m_spot = some o → W p l e (xR 1 21) s m args below meth c H locs 0 0 Q (F0 m 9 ls []) := by
  have hx := C.1
  have hb := C.2.1
  intro n
  induction n with
  | zero =>
    intro m_spot H locs ls G hl hf
    exact nomatch (show (none : Option (Int32)) = some o from hf)
  | succ n ih =>
    intro m_spot H locs ls G hl hf
    rw [f_M_goesOn_L9] at hf
    refine lv_aload_n hx hb dX12_goesOn_9 rfl (lv_at hl 0 rfl) ?_
    refine lv_aload_n hx hb dX12_goesOn_10 rfl (lv_at hl 0 rfl) ?_
    refine x_get C G fX12_74.g (wR_at0) rfl dX12_goesOn_11 ?_
    obtain ⟨x1, hc, hf⟩ := bd_go hf
    refine xI_V C G (c_M_byteAt_m_R hc) mX12_byteAt kX12_77 (wR_at0) rfl ⟨Nat.le_of_ble_eq_true rfl, Nat.le_of_ble_eq_true rfl⟩ rfl hl.1 rfl (Nat.le_of_ble_eq_true rfl) ⟨Nat.le_refl _, Nat.le_refl _⟩ dX12_goesOn_14 (fun hz H locs G => ?_)
    refine lv_bipush (v := 32) hx hb dX12_goesOn_17 (by decide) ?_
    refine lv_icmp_ne (tgt := 35) hx hb dX12_goesOn_19 (by decide) (fun h => ?_) (fun h => ?_)
    · have hf := it_f h hf
      obtain rfl := Option.some.inj hf
      exact J _ _ _ G (lv_sub hl [0] rfl)
    · have hf := it_t h hf
      refine lv_aload_n hx hb dX12_goesOn_22 rfl (lv_at hl 0 rfl) ?_
      refine lv_dup hx hb dX12_goesOn_23 rfl ?_
      refine x_get C G fX12_74.g (wR_at0) rfl dX12_goesOn_24 ?_
      refine lv_iconst (v := 1) hx hb dX12_goesOn_27 (by decide) ?_
      refine lv_iadd hx hb dX12_goesOn_28 ?_
      refine lv_topi (fun x2 ex2 => ?_)
      have hf := lt_go ex2 hf
      refine x_put (ws' := (wR E ad m_thrown m_trouble m_where m_tv m_tape m_taped m_size x2 m_sort m_place m_number m_fault m_wrongAt m_word m_v m_x m_past m_kept m_acts m_images m_matchNow m_slopsNow m_matchesNow m_slopped m_seatBest m_fedBest m_slopsBest m_sawBest m_leastNow m_stableNow m_fitsNow m_someNow m_everyNow m_otherIn m_askLeft rt_seats rt_slack rt_saw rt_quarrel rt_people rt_pairs rt_forks rt_unsures rt_trieds rt_fed rt_seat rt_one rt_other rt_years rt_kind rt_unsure rt_may rt_tried rt_name)) C G fX12_74 (wR_at0) rfl rfl (Nat.le_of_ble_eq_true rfl) wR_set_m_spot dX12_goesOn_29 (fun H locs G => ?_)
      refine lv_goto (tgt := 9) hx hb dX12_goesOn_32 (by decide) ?_
      exact ih x2 _ _ _ G (lv_sub hl [0] rfl) hf
set_option maxHeartbeats 4000000 in
set_option maxRecDepth 100000 in
theorem w_M_goesOn_m_R_L173 {p : Program} {l : Launch} {e : Env} {s : State} {m : MethodId} {args : Array Value} {below : List Frame} {meth : Method} {c : Code} {A : Nat → Prop} {E : xE} {Q : State → Prop} {ad : Nat → Nat} {m_thrown m_trouble m_where m_taped m_size m_sort m_place m_fault m_wrongAt m_acts m_images m_matchNow m_slopsNow m_matchesNow m_fedBest m_slopsBest m_sawBest m_leastNow m_stableNow m_fitsNow m_someNow m_everyNow m_askLeft rt_seats rt_slack rt_saw rt_quarrel rt_people rt_pairs rt_forks rt_unsures rt_trieds rt_fed : Int32} {m_tv : Value} {m_tape m_v m_x m_past m_kept m_slopped m_seatBest m_otherIn rt_seat rt_one rt_other rt_years rt_kind rt_unsure rt_may rt_tried : Nat → Int32} {m_word : Int64} {rt_name : Nat → Int64} {o : Int32 × Int32 × Int32} (C : xC p s m args meth c cX12_goesOn 3 RX12 E A none) (J : ∀ (H : Heap) (locs : List Loc) (ls : Array Slot), xG s E A (wR E ad m_thrown m_trouble m_where m_tv m_tape m_taped m_size o.2.1 m_sort m_place o.2.2 m_fault m_wrongAt m_word m_v m_x m_past m_kept m_acts m_images m_matchNow m_slopsNow m_matchesNow m_slopped m_seatBest m_fedBest m_slopsBest m_sawBest m_leastNow m_stableNow m_fitsNow m_someNow m_everyNow m_otherIn m_askLeft rt_seats rt_slack rt_saw rt_quarrel rt_people rt_pairs rt_forks rt_unsures rt_trieds rt_fed rt_seat rt_one rt_other rt_years rt_kind rt_unsure rt_may rt_tried rt_name) H locs → lv_has ls 3 [(0, .ref (ad 0)), (2, .int o.1)] → W p l e (xR 1 21) s m args below meth c H locs 0 0 Q (F0 m 231 ls [])) :
    ∀ (n : Nat) (l2 : Int32) (m_spot : Int32) (m_number : Int32) (H : Heap) (locs : List Loc) (ls : Array Slot), xG s E A (wR E ad m_thrown m_trouble m_where m_tv m_tape m_taped m_size m_spot m_sort m_place m_number m_fault m_wrongAt m_word m_v m_x m_past m_kept m_acts m_images m_matchNow m_slopsNow m_matchesNow m_slopped m_seatBest m_fedBest m_slopsBest m_sawBest m_leastNow m_stableNow m_fitsNow m_someNow m_everyNow m_otherIn m_askLeft rt_seats rt_slack rt_saw rt_quarrel rt_people rt_pairs rt_forks rt_unsures rt_trieds rt_fed rt_seat rt_one rt_other rt_years rt_kind rt_unsure rt_may rt_tried rt_name) H locs → lv_has ls 3 [(0, .ref (ad 0)), (2, .int l2)] → f_M_goesOn_L173 m_tape m_size n l2 m_spot m_number = some o → W p l e (xR 1 21) s m args below meth c H locs 0 0 Q (F0 m 173 ls []) := by
  have hx := C.1
  have hb := C.2.1
  intro n
  induction n with
  | zero =>
    intro l2 m_spot m_number H locs ls G hl hf
    exact nomatch (show (none : Option (Int32 × Int32 × Int32)) = some o from hf)
  | succ n ih =>
    intro l2 m_spot m_number H locs ls G hl hf
    rw [f_M_goesOn_L173] at hf
    refine lv_aload_n hx hb dX12_goesOn_173 rfl (lv_at hl 0 rfl) ?_
    refine lv_aload_n hx hb dX12_goesOn_174 rfl (lv_at hl 0 rfl) ?_
    refine x_get C G fX12_74.g (wR_at0) rfl dX12_goesOn_175 ?_
    obtain ⟨x8, hc, hf⟩ := bd_go hf
    refine xI_V C G (c_M_byteAt_m_R hc) mX12_byteAt kX12_77 (wR_at0) rfl ⟨Nat.le_of_ble_eq_true rfl, Nat.le_of_ble_eq_true rfl⟩ rfl hl.1 rfl (Nat.le_of_ble_eq_true rfl) ⟨Nat.le_refl _, Nat.le_refl _⟩ dX12_goesOn_178 (fun hz H locs G => ?_)
    obtain ⟨x9, hc, hf⟩ := bd_go hf
    refine xI_S C G (c_M_isDigit_any hc) mX12_isDigit kX12_91 ⟨Nat.le_of_ble_eq_true rfl, Nat.le_of_ble_eq_true rfl⟩ rfl hl.1 rfl (Nat.le_of_ble_eq_true rfl) ⟨Nat.le_refl _, Nat.le_refl _⟩ dX12_goesOn_181 (fun hz9 H locs G => ?_)
    refine lv_if_eq (tgt := 231) hx hb dX12_goesOn_184 (by decide) (fun h => ?_) (fun h => ?_)
    · have hf := it_t h hf
      obtain rfl := Option.some.inj hf
      exact J _ _ _ G (lv_sub hl [0, 1] rfl)
    · have hf := it_f h hf
      refine lv_iload_n hx hb dX12_goesOn_187 rfl (lv_at hl 1 rfl) ?_
      refine lv_iconst (v := 3) hx hb dX12_goesOn_188 (by decide) ?_
      obtain ⟨x10, hrx10, hf⟩ := bd_go hf
      have Jx10 : ∀ (H : Heap) (locs : List Loc) (ls : Array Slot), xG s E A (wR E ad m_thrown m_trouble m_where m_tv m_tape m_taped m_size m_spot m_sort m_place x10 m_fault m_wrongAt m_word m_v m_x m_past m_kept m_acts m_images m_matchNow m_slopsNow m_matchesNow m_slopped m_seatBest m_fedBest m_slopsBest m_sawBest m_leastNow m_stableNow m_fitsNow m_someNow m_everyNow m_otherIn m_askLeft rt_seats rt_slack rt_saw rt_quarrel rt_people rt_pairs rt_forks rt_unsures rt_trieds rt_fed rt_seat rt_one rt_other rt_years rt_kind rt_unsure rt_may rt_tried rt_name) H locs → lv_has ls 3 [(0, .ref (ad 0)), (2, .int l2)] → W p l e (xR 1 21) s m args below meth c H locs 0 0 Q (F0 m 215 ls []) := by
        intro H locs ls G hl
        obtain ⟨x11, ex11⟩ : ∃ z : Int32, z = l2 + (1 : Int32) := ⟨_, rfl⟩
        have hf := lt_go ex11 hf
        refine lv_iinc (v := x11) (lv' := [(2, .int x11), (0, .ref (ad 0))]) hx hb dX12_goesOn_215 hl (k := 1) rfl (by rw [ex11]; rfl) (by decide) rfl (fun ls hl => ?_)
        refine lv_aload_n hx hb dX12_goesOn_218 rfl (lv_at hl 1 rfl) ?_
        refine lv_dup hx hb dX12_goesOn_219 rfl ?_
        refine x_get C G fX12_74.g (wR_at0) rfl dX12_goesOn_220 ?_
        refine lv_iconst (v := 1) hx hb dX12_goesOn_223 (by decide) ?_
        refine lv_iadd hx hb dX12_goesOn_224 ?_
        refine lv_topi (fun x12 ex12 => ?_)
        have hf := lt_go ex12 hf
        refine x_put (ws' := (wR E ad m_thrown m_trouble m_where m_tv m_tape m_taped m_size x12 m_sort m_place x10 m_fault m_wrongAt m_word m_v m_x m_past m_kept m_acts m_images m_matchNow m_slopsNow m_matchesNow m_slopped m_seatBest m_fedBest m_slopsBest m_sawBest m_leastNow m_stableNow m_fitsNow m_someNow m_everyNow m_otherIn m_askLeft rt_seats rt_slack rt_saw rt_quarrel rt_people rt_pairs rt_forks rt_unsures rt_trieds rt_fed rt_seat rt_one rt_other rt_years rt_kind rt_unsure rt_may rt_tried rt_name)) C G fX12_74 (wR_at0) rfl rfl (Nat.le_of_ble_eq_true rfl) wR_set_m_spot dX12_goesOn_225 (fun H locs G => ?_)
        refine lv_goto (tgt := 173) hx hb dX12_goesOn_228 (by decide) ?_
        exact ih x11 x12 x10 _ _ _ G (lv_sub hl [1, 0] rfl) hf
      have hf := hrx10
      refine lv_icmp_ge (tgt := 215) hx hb dX12_goesOn_189 (by decide) (fun h => ?_) (fun h => ?_)
      · have hf := it_t h hf
        obtain rfl := Option.some.inj hf
        exact Jx10 _ _ _ G (lv_sub hl [0, 1] rfl)
      · have hf := it_f h hf
        refine lv_aload_n hx hb dX12_goesOn_192 rfl (lv_at hl 0 rfl) ?_
        refine lv_bipush (v := 10) hx hb dX12_goesOn_193 (by decide) ?_
        refine lv_aload_n hx hb dX12_goesOn_195 rfl (lv_at hl 0 rfl) ?_
        refine x_get C G fX12_94.g (wR_at0) rfl dX12_goesOn_196 ?_
        refine lv_imul hx hb dX12_goesOn_199 ?_
        refine lv_aload_n hx hb dX12_goesOn_200 rfl (lv_at hl 0 rfl) ?_
        refine lv_aload_n hx hb dX12_goesOn_201 rfl (lv_at hl 0 rfl) ?_
        refine x_get C G fX12_74.g (wR_at0) rfl dX12_goesOn_202 ?_
        obtain ⟨x13, hc, hf⟩ := bd_go hf
        refine xI_V C G (c_M_byteAt_m_R hc) mX12_byteAt kX12_77 (wR_at0) rfl ⟨Nat.le_of_ble_eq_true rfl, Nat.le_of_ble_eq_true rfl⟩ rfl hl.1 rfl (Nat.le_of_ble_eq_true rfl) ⟨Nat.le_refl _, Nat.le_refl _⟩ dX12_goesOn_205 (fun hz H locs G => ?_)
        refine lv_iadd hx hb dX12_goesOn_208 ?_
        refine lv_bipush (v := 48) hx hb dX12_goesOn_209 (by decide) ?_
        refine lv_isub hx hb dX12_goesOn_211 ?_
        refine lv_topi (fun x14 ex14 => ?_)
        have hf := lt_go ex14 hf
        refine x_put (ws' := (wR E ad m_thrown m_trouble m_where m_tv m_tape m_taped m_size m_spot m_sort m_place x14 m_fault m_wrongAt m_word m_v m_x m_past m_kept m_acts m_images m_matchNow m_slopsNow m_matchesNow m_slopped m_seatBest m_fedBest m_slopsBest m_sawBest m_leastNow m_stableNow m_fitsNow m_someNow m_everyNow m_otherIn m_askLeft rt_seats rt_slack rt_saw rt_quarrel rt_people rt_pairs rt_forks rt_unsures rt_trieds rt_fed rt_seat rt_one rt_other rt_years rt_kind rt_unsure rt_may rt_tried rt_name)) C G fX12_94 (wR_at0) rfl rfl (Nat.le_of_ble_eq_true rfl) wR_set_m_number dX12_goesOn_212 (fun H locs G => ?_)
        obtain rfl := Option.some.inj hf
        exact Jx10 _ _ _ G (lv_sub hl [0, 1] rfl)
set_option maxHeartbeats 4000000 in
set_option maxRecDepth 100000 in
theorem w_M_goesOn_m_R_L84 {p : Program} {l : Launch} {e : Env} {s : State} {m : MethodId} {args : Array Value} {below : List Frame} {meth : Method} {c : Code} {A : Nat → Prop} {E : xE} {Q : State → Prop} {ad : Nat → Nat} {m_thrown m_trouble m_where m_taped m_size m_sort m_place m_number m_fault m_wrongAt m_acts m_images m_matchNow m_slopsNow m_matchesNow m_fedBest m_slopsBest m_sawBest m_leastNow m_stableNow m_fitsNow m_someNow m_everyNow m_askLeft rt_seats rt_slack rt_saw rt_quarrel rt_people rt_pairs rt_forks rt_unsures rt_trieds rt_fed : Int32} {m_tv : Value} {m_tape m_v m_x m_past m_kept m_slopped m_seatBest m_otherIn rt_seat rt_one rt_other rt_years rt_kind rt_unsure rt_may rt_tried : Nat → Int32} {rt_name : Nat → Int64} {o : Int32 × Int32 × Int64} (C : xC p s m args meth c cX12_goesOn 3 RX12 E A none) (J : ∀ (H : Heap) (locs : List Loc) (ls : Array Slot), xG s E A (wR E ad m_thrown m_trouble m_where m_tv m_tape m_taped m_size o.2.1 m_sort m_place m_number m_fault m_wrongAt o.2.2 m_v m_x m_past m_kept m_acts m_images m_matchNow m_slopsNow m_matchesNow m_slopped m_seatBest m_fedBest m_slopsBest m_sawBest m_leastNow m_stableNow m_fitsNow m_someNow m_everyNow m_otherIn m_askLeft rt_seats rt_slack rt_saw rt_quarrel rt_people rt_pairs rt_forks rt_unsures rt_trieds rt_fed rt_seat rt_one rt_other rt_years rt_kind rt_unsure rt_may rt_tried rt_name) H locs → lv_has ls 3 [(0, .ref (ad 0)), (2, .int o.1)] → W p l e (xR 1 21) s m args below meth c H locs 0 0 Q (F0 m 147 ls [])) :
    ∀ (n : Nat) (l2 : Int32) (m_spot : Int32) (m_word : Int64) (H : Heap) (locs : List Loc) (ls : Array Slot), xG s E A (wR E ad m_thrown m_trouble m_where m_tv m_tape m_taped m_size m_spot m_sort m_place m_number m_fault m_wrongAt m_word m_v m_x m_past m_kept m_acts m_images m_matchNow m_slopsNow m_matchesNow m_slopped m_seatBest m_fedBest m_slopsBest m_sawBest m_leastNow m_stableNow m_fitsNow m_someNow m_everyNow m_otherIn m_askLeft rt_seats rt_slack rt_saw rt_quarrel rt_people rt_pairs rt_forks rt_unsures rt_trieds rt_fed rt_seat rt_one rt_other rt_years rt_kind rt_unsure rt_may rt_tried rt_name) H locs → lv_has ls 3 [(0, .ref (ad 0)), (2, .int l2)] → f_M_goesOn_L84 m_tape m_size n l2 m_spot m_word = some o → W p l e (xR 1 21) s m args below meth c H locs 0 0 Q (F0 m 84 ls []) := by
  have hx := C.1
  have hb := C.2.1
  intro n
  induction n with
  | zero =>
    intro l2 m_spot m_word H locs ls G hl hf
    exact nomatch (show (none : Option (Int32 × Int32 × Int64)) = some o from hf)
  | succ n ih =>
    intro l2 m_spot m_word H locs ls G hl hf
    rw [f_M_goesOn_L84] at hf
    refine lv_aload_n hx hb dX12_goesOn_84 rfl (lv_at hl 0 rfl) ?_
    refine lv_aload_n hx hb dX12_goesOn_85 rfl (lv_at hl 0 rfl) ?_
    refine x_get C G fX12_74.g (wR_at0) rfl dX12_goesOn_86 ?_
    obtain ⟨x16, hc, hf⟩ := bd_go hf
    refine xI_V C G (c_M_byteAt_m_R hc) mX12_byteAt kX12_77 (wR_at0) rfl ⟨Nat.le_of_ble_eq_true rfl, Nat.le_of_ble_eq_true rfl⟩ rfl hl.1 rfl (Nat.le_of_ble_eq_true rfl) ⟨Nat.le_refl _, Nat.le_refl _⟩ dX12_goesOn_89 (fun hz H locs G => ?_)
    obtain ⟨x17, hc, hf⟩ := bd_go hf
    refine xI_S C G (c_M_isLetter_any hc) mX12_isLetter kX12_83 ⟨Nat.le_of_ble_eq_true rfl, Nat.le_of_ble_eq_true rfl⟩ rfl hl.1 rfl (Nat.le_of_ble_eq_true rfl) ⟨Nat.le_refl _, Nat.le_refl _⟩ dX12_goesOn_92 (fun hz17 H locs G => ?_)
    refine lv_if_eq (tgt := 147) hx hb dX12_goesOn_95 (by decide) (fun h => ?_) (fun h => ?_)
    · have hf := it_t h hf
      obtain rfl := Option.some.inj hf
      exact J _ _ _ G (lv_sub hl [0, 1] rfl)
    · have hf := it_f h hf
      refine lv_iload_n hx hb dX12_goesOn_98 rfl (lv_at hl 1 rfl) ?_
      refine lv_bipush (v := 8) hx hb dX12_goesOn_99 (by decide) ?_
      obtain ⟨x18, hrx18, hf⟩ := bd_go hf
      have Jx18 : ∀ (H : Heap) (locs : List Loc) (ls : Array Slot), xG s E A (wR E ad m_thrown m_trouble m_where m_tv m_tape m_taped m_size m_spot m_sort m_place m_number m_fault m_wrongAt x18 m_v m_x m_past m_kept m_acts m_images m_matchNow m_slopsNow m_matchesNow m_slopped m_seatBest m_fedBest m_slopsBest m_sawBest m_leastNow m_stableNow m_fitsNow m_someNow m_everyNow m_otherIn m_askLeft rt_seats rt_slack rt_saw rt_quarrel rt_people rt_pairs rt_forks rt_unsures rt_trieds rt_fed rt_seat rt_one rt_other rt_years rt_kind rt_unsure rt_may rt_tried rt_name) H locs → lv_has ls 3 [(0, .ref (ad 0)), (2, .int l2)] → W p l e (xR 1 21) s m args below meth c H locs 0 0 Q (F0 m 131 ls []) := by
        intro H locs ls G hl
        obtain ⟨x19, ex19⟩ : ∃ z : Int32, z = l2 + (1 : Int32) := ⟨_, rfl⟩
        have hf := lt_go ex19 hf
        refine lv_iinc (v := x19) (lv' := [(2, .int x19), (0, .ref (ad 0))]) hx hb dX12_goesOn_131 hl (k := 1) rfl (by rw [ex19]; rfl) (by decide) rfl (fun ls hl => ?_)
        refine lv_aload_n hx hb dX12_goesOn_134 rfl (lv_at hl 1 rfl) ?_
        refine lv_dup hx hb dX12_goesOn_135 rfl ?_
        refine x_get C G fX12_74.g (wR_at0) rfl dX12_goesOn_136 ?_
        refine lv_iconst (v := 1) hx hb dX12_goesOn_139 (by decide) ?_
        refine lv_iadd hx hb dX12_goesOn_140 ?_
        refine lv_topi (fun x20 ex20 => ?_)
        have hf := lt_go ex20 hf
        refine x_put (ws' := (wR E ad m_thrown m_trouble m_where m_tv m_tape m_taped m_size x20 m_sort m_place m_number m_fault m_wrongAt x18 m_v m_x m_past m_kept m_acts m_images m_matchNow m_slopsNow m_matchesNow m_slopped m_seatBest m_fedBest m_slopsBest m_sawBest m_leastNow m_stableNow m_fitsNow m_someNow m_everyNow m_otherIn m_askLeft rt_seats rt_slack rt_saw rt_quarrel rt_people rt_pairs rt_forks rt_unsures rt_trieds rt_fed rt_seat rt_one rt_other rt_years rt_kind rt_unsure rt_may rt_tried rt_name)) C G fX12_74 (wR_at0) rfl rfl (Nat.le_of_ble_eq_true rfl) wR_set_m_spot dX12_goesOn_141 (fun H locs G => ?_)
        refine lv_goto (tgt := 84) hx hb dX12_goesOn_144 (by decide) ?_
        exact ih x19 x20 x18 _ _ _ G (lv_sub hl [1, 0] rfl) hf
      have hf := hrx18
      refine lv_icmp_ge (tgt := 131) hx hb dX12_goesOn_101 (by decide) (fun h => ?_) (fun h => ?_)
      · have hf := it_t h hf
        obtain rfl := Option.some.inj hf
        exact Jx18 _ _ _ G (lv_sub hl [0, 1] rfl)
      · have hf := it_f h hf
        refine lv_aload_n hx hb dX12_goesOn_104 rfl (lv_at hl 0 rfl) ?_
        refine lv_ldc2 hx hb C.2.2.2.1 (C.2.2.2.2.1 _ qX12_65) dX12_goesOn_105 ?_
        refine lv_aload_n hx hb dX12_goesOn_108 rfl (lv_at hl 0 rfl) ?_
        refine x_get C G fX12_87.g (wR_at0) rfl dX12_goesOn_109 ?_
        refine lv_lmul hx hb dX12_goesOn_112 ?_
        refine lv_aload_n hx hb dX12_goesOn_113 rfl (lv_at hl 0 rfl) ?_
        refine lv_aload_n hx hb dX12_goesOn_114 rfl (lv_at hl 0 rfl) ?_
        refine x_get C G fX12_74.g (wR_at0) rfl dX12_goesOn_115 ?_
        obtain ⟨x21, hc, hf⟩ := bd_go hf
        refine xI_V C G (c_M_byteAt_m_R hc) mX12_byteAt kX12_77 (wR_at0) rfl ⟨Nat.le_of_ble_eq_true rfl, Nat.le_of_ble_eq_true rfl⟩ rfl hl.1 rfl (Nat.le_of_ble_eq_true rfl) ⟨Nat.le_refl _, Nat.le_refl _⟩ dX12_goesOn_118 (fun hz H locs G => ?_)
        refine lv_bipush (v := 97) hx hb dX12_goesOn_121 (by decide) ?_
        refine lv_isub hx hb dX12_goesOn_123 ?_
        refine lv_iconst (v := 1) hx hb dX12_goesOn_124 (by decide) ?_
        refine lv_iadd hx hb dX12_goesOn_125 ?_
        refine lv_i2l hx hb dX12_goesOn_126 rfl ?_
        refine lv_ladd hx hb dX12_goesOn_127 ?_
        refine lv_topl (fun x22 ex22 => ?_)
        have hf := lt_go ex22 hf
        refine x_put (ws' := (wR E ad m_thrown m_trouble m_where m_tv m_tape m_taped m_size m_spot m_sort m_place m_number m_fault m_wrongAt x22 m_v m_x m_past m_kept m_acts m_images m_matchNow m_slopsNow m_matchesNow m_slopped m_seatBest m_fedBest m_slopsBest m_sawBest m_leastNow m_stableNow m_fitsNow m_someNow m_everyNow m_otherIn m_askLeft rt_seats rt_slack rt_saw rt_quarrel rt_people rt_pairs rt_forks rt_unsures rt_trieds rt_fed rt_seat rt_one rt_other rt_years rt_kind rt_unsure rt_may rt_tried rt_name)) C G fX12_87 (wR_at0) rfl rfl (Nat.le_of_ble_eq_true rfl) wR_set_m_word dX12_goesOn_128 (fun H locs G => ?_)
        obtain rfl := Option.some.inj hf
        exact Jx18 _ _ _ G (lv_sub hl [0, 1] rfl)
set_option maxHeartbeats 4000000 in
set_option maxRecDepth 100000 in
theorem c_M_goesOn_m_R {l : Launch} {E : xE} {ad : Nat → Nat} {m_thrown m_trouble m_where m_taped m_size m_spot m_sort m_place m_number m_fault m_wrongAt m_acts m_images m_matchNow m_slopsNow m_matchesNow m_fedBest m_slopsBest m_sawBest m_leastNow m_stableNow m_fitsNow m_someNow m_everyNow m_askLeft rt_seats rt_slack rt_saw rt_quarrel rt_people rt_pairs rt_forks rt_unsures rt_trieds rt_fed : Int32} {m_tv : Value} {m_tape m_v m_x m_past m_kept m_slopped m_seatBest m_otherIn rt_seat rt_one rt_other rt_years rt_kind rt_unsure rt_may rt_tried : Nat → Int32} {m_word : Int64} {rt_name : Nat → Int64} {R0 : Int32 × Int32 × Int32 × Int32 × Int64} (hf : f_M_goesOn m_tape m_size m_spot m_sort m_place m_number m_word = some R0) : xV l E yX12_goesOn cX12_goesOn 3 none 1 21 [.ref (ad 0)] (wR E ad m_thrown m_trouble m_where m_tv m_tape m_taped m_size m_spot m_sort m_place m_number m_fault m_wrongAt m_word m_v m_x m_past m_kept m_acts m_images m_matchNow m_slopsNow m_matchesNow m_slopped m_seatBest m_fedBest m_slopsBest m_sawBest m_leastNow m_stableNow m_fitsNow m_someNow m_everyNow m_otherIn m_askLeft rt_seats rt_slack rt_saw rt_quarrel rt_people rt_pairs rt_forks rt_unsures rt_trieds rt_fed rt_seat rt_one rt_other rt_years rt_kind rt_unsure rt_may rt_tried rt_name) (wR E ad m_thrown m_trouble m_where m_tv m_tape m_taped m_size R0.1 R0.2.1 R0.2.2.1 R0.2.2.2.1 m_fault m_wrongAt R0.2.2.2.2 m_v m_x m_past m_kept m_acts m_images m_matchNow m_slopsNow m_matchesNow m_slopped m_seatBest m_fedBest m_slopsBest m_sawBest m_leastNow m_stableNow m_fitsNow m_someNow m_everyNow m_otherIn m_askLeft rt_seats rt_slack rt_saw rt_quarrel rt_people rt_pairs rt_forks rt_unsures rt_trieds rt_fed rt_seat rt_one rt_other rt_years rt_kind rt_unsure rt_may rt_tried rt_name) := by
  refine xV_of (by decide) (Nat.le_of_ble_eq_true rfl) (fun p e s m args below meth c A C ls hl G => ?_)
  have hx := C.1
  have hb := C.2.1
  have hl : lv_has ls 3 [(0, .ref (ad 0))] := hl
  unfold f_M_goesOn at hf
  refine lv_aload_n hx hb dX12_goesOn_0 rfl (lv_at hl 0 rfl) ?_
  refine x_get C G fX12_71.g (wR_at0) rfl dX12_goesOn_1 ?_
  refine lv_iconst (v := 5) hx hb dX12_goesOn_4 (by decide) ?_
  refine lv_icmp_ne (tgt := 9) hx hb dX12_goesOn_5 (by decide) (fun h => ?_) (fun h => ?_)
  · have hf := it_f h hf
    obtain ⟨x3, hr, hf⟩ := bd_go hf
    have Jx3 : ∀ (H : Heap) (locs : List Loc) (ls : Array Slot), xG s E A (wR E ad m_thrown m_trouble m_where m_tv m_tape m_taped m_size x3 m_sort m_place m_number m_fault m_wrongAt m_word m_v m_x m_past m_kept m_acts m_images m_matchNow m_slopsNow m_matchesNow m_slopped m_seatBest m_fedBest m_slopsBest m_sawBest m_leastNow m_stableNow m_fitsNow m_someNow m_everyNow m_otherIn m_askLeft rt_seats rt_slack rt_saw rt_quarrel rt_people rt_pairs rt_forks rt_unsures rt_trieds rt_fed rt_seat rt_one rt_other rt_years rt_kind rt_unsure rt_may rt_tried rt_name) H locs → lv_has ls 3 [(0, .ref (ad 0))] → W p l e (xR 1 21) s m args below meth c H locs 0 0 (MQ below (xqV E A (wR E ad m_thrown m_trouble m_where m_tv m_tape m_taped m_size R0.1 R0.2.1 R0.2.2.1 R0.2.2.2.1 m_fault m_wrongAt R0.2.2.2.2 m_v m_x m_past m_kept m_acts m_images m_matchNow m_slopsNow m_matchesNow m_slopped m_seatBest m_fedBest m_slopsBest m_sawBest m_leastNow m_stableNow m_fitsNow m_someNow m_everyNow m_otherIn m_askLeft rt_seats rt_slack rt_saw rt_quarrel rt_people rt_pairs rt_forks rt_unsures rt_trieds rt_fed rt_seat rt_one rt_other rt_years rt_kind rt_unsure rt_may rt_tried rt_name)) args s 0 0 A) (F0 m 35 ls []) := by
      intro H locs ls G hl
      refine lv_aload_n hx hb dX12_goesOn_35 rfl (lv_at hl 0 rfl) ?_
      refine lv_aload_n hx hb dX12_goesOn_36 rfl (lv_at hl 0 rfl) ?_
      refine x_get C G fX12_74.g (wR_at0) rfl dX12_goesOn_37 ?_
      refine x_put (ws' := (wR E ad m_thrown m_trouble m_where m_tv m_tape m_taped m_size x3 m_sort x3 m_number m_fault m_wrongAt m_word m_v m_x m_past m_kept m_acts m_images m_matchNow m_slopsNow m_matchesNow m_slopped m_seatBest m_fedBest m_slopsBest m_sawBest m_leastNow m_stableNow m_fitsNow m_someNow m_everyNow m_otherIn m_askLeft rt_seats rt_slack rt_saw rt_quarrel rt_people rt_pairs rt_forks rt_unsures rt_trieds rt_fed rt_seat rt_one rt_other rt_years rt_kind rt_unsure rt_may rt_tried rt_name)) C G fX12_80 (wR_at0) rfl rfl (Nat.le_of_ble_eq_true rfl) wR_set_m_place dX12_goesOn_40 (fun H locs G => ?_)
      refine lv_aload_n hx hb dX12_goesOn_43 rfl (lv_at hl 0 rfl) ?_
      refine lv_iconst (v := 0) hx hb dX12_goesOn_44 (by decide) ?_
      refine x_put (ws' := (wR E ad m_thrown m_trouble m_where m_tv m_tape m_taped m_size x3 (0 : Int32) x3 m_number m_fault m_wrongAt m_word m_v m_x m_past m_kept m_acts m_images m_matchNow m_slopsNow m_matchesNow m_slopped m_seatBest m_fedBest m_slopsBest m_sawBest m_leastNow m_stableNow m_fitsNow m_someNow m_everyNow m_otherIn m_askLeft rt_seats rt_slack rt_saw rt_quarrel rt_people rt_pairs rt_forks rt_unsures rt_trieds rt_fed rt_seat rt_one rt_other rt_years rt_kind rt_unsure rt_may rt_tried rt_name)) C G fX12_71 (wR_at0) rfl rfl (Nat.le_of_ble_eq_true rfl) wR_set_m_sort dX12_goesOn_45 (fun H locs G => ?_)
      refine lv_aload_n hx hb dX12_goesOn_48 rfl (lv_at hl 0 rfl) ?_
      refine lv_aload_n hx hb dX12_goesOn_49 rfl (lv_at hl 0 rfl) ?_
      refine x_get C G fX12_74.g (wR_at0) rfl dX12_goesOn_50 ?_
      obtain ⟨x4, hc, hf⟩ := bd_go hf
      refine xI_V C G (c_M_byteAt_m_R hc) mX12_byteAt kX12_77 (wR_at0) rfl ⟨Nat.le_of_ble_eq_true rfl, Nat.le_of_ble_eq_true rfl⟩ rfl hl.1 rfl (Nat.le_of_ble_eq_true rfl) ⟨Nat.le_refl _, Nat.le_refl _⟩ dX12_goesOn_53 (fun hz H locs G => ?_)
      refine lv_istore_n (lv' := [(1, .int x4), (0, .ref (ad 0))]) hx hb dX12_goesOn_56 rfl hl (by decide) rfl (fun ls hl => ?_)
      refine lv_iconst (v := 0) hx hb dX12_goesOn_57 (by decide) ?_
      refine lv_istore_n (lv' := [(2, .int (0 : Int32)), (1, .int x4), (0, .ref (ad 0))]) hx hb dX12_goesOn_58 rfl hl (by decide) rfl (fun ls hl => ?_)
      refine lv_iload_n hx hb dX12_goesOn_59 rfl (lv_at hl 1 rfl) ?_
      refine lv_iconst (v := -1) hx hb dX12_goesOn_60 (by decide) ?_
      refine lv_icmp_ne (tgt := 72) hx hb dX12_goesOn_61 (by decide) (fun h => ?_) (fun h => ?_)
      · have hf := it_f h hf
        refine lv_iload_n hx hb dX12_goesOn_72 rfl (lv_at hl 1 rfl) ?_
        obtain ⟨x5, hc, hf⟩ := bd_go hf
        refine xI_S C G (c_M_isLetter_any hc) mX12_isLetter kX12_83 ⟨Nat.le_of_ble_eq_true rfl, Nat.le_of_ble_eq_true rfl⟩ rfl hl.1 rfl (Nat.le_of_ble_eq_true rfl) ⟨Nat.le_refl _, Nat.le_refl _⟩ dX12_goesOn_73 (fun hz5 H locs G => ?_)
        refine lv_if_eq (tgt := 161) hx hb dX12_goesOn_76 (by decide) (fun h => ?_) (fun h => ?_)
        · have hf := it_t h hf
          refine lv_iload_n hx hb dX12_goesOn_161 rfl (lv_at hl 1 rfl) ?_
          obtain ⟨x6, hc, hf⟩ := bd_go hf
          refine xI_S C G (c_M_isDigit_any hc) mX12_isDigit kX12_91 ⟨Nat.le_of_ble_eq_true rfl, Nat.le_of_ble_eq_true rfl⟩ rfl hl.1 rfl (Nat.le_of_ble_eq_true rfl) ⟨Nat.le_refl _, Nat.le_refl _⟩ dX12_goesOn_162 (fun hz6 H locs G => ?_)
          refine lv_if_eq (tgt := 244) hx hb dX12_goesOn_165 (by decide) (fun h => ?_) (fun h => ?_)
          · have hf := it_t h hf
            refine lv_iload_n hx hb dX12_goesOn_244 rfl (lv_at hl 1 rfl) ?_
            refine lv_bipush (v := 59) hx hb dX12_goesOn_245 (by decide) ?_
            refine lv_icmp_ne (tgt := 265) hx hb dX12_goesOn_247 (by decide) (fun h => ?_) (fun h => ?_)
            · have hf := it_f h hf
              obtain rfl := Option.some.inj hf
              exact xV_ret C G dX12_goesOn_265
            · have hf := it_t h hf
              refine lv_aload_n hx hb dX12_goesOn_250 rfl (lv_at hl 2 rfl) ?_
              refine lv_iconst (v := 4) hx hb dX12_goesOn_251 (by decide) ?_
              refine x_put (ws' := (wR E ad m_thrown m_trouble m_where m_tv m_tape m_taped m_size x3 (4 : Int32) x3 m_number m_fault m_wrongAt m_word m_v m_x m_past m_kept m_acts m_images m_matchNow m_slopsNow m_matchesNow m_slopped m_seatBest m_fedBest m_slopsBest m_sawBest m_leastNow m_stableNow m_fitsNow m_someNow m_everyNow m_otherIn m_askLeft rt_seats rt_slack rt_saw rt_quarrel rt_people rt_pairs rt_forks rt_unsures rt_trieds rt_fed rt_seat rt_one rt_other rt_years rt_kind rt_unsure rt_may rt_tried rt_name)) C G fX12_71 (wR_at0) rfl rfl (Nat.le_of_ble_eq_true rfl) wR_set_m_sort dX12_goesOn_252 (fun H locs G => ?_)
              refine lv_aload_n hx hb dX12_goesOn_255 rfl (lv_at hl 2 rfl) ?_
              refine lv_dup hx hb dX12_goesOn_256 rfl ?_
              refine x_get C G fX12_74.g (wR_at0) rfl dX12_goesOn_257 ?_
              refine lv_iconst (v := 1) hx hb dX12_goesOn_260 (by decide) ?_
              refine lv_iadd hx hb dX12_goesOn_261 ?_
              refine lv_topi (fun x7 ex7 => ?_)
              have hf := lt_go ex7 hf
              refine x_put (ws' := (wR E ad m_thrown m_trouble m_where m_tv m_tape m_taped m_size x7 (4 : Int32) x3 m_number m_fault m_wrongAt m_word m_v m_x m_past m_kept m_acts m_images m_matchNow m_slopsNow m_matchesNow m_slopped m_seatBest m_fedBest m_slopsBest m_sawBest m_leastNow m_stableNow m_fitsNow m_someNow m_everyNow m_otherIn m_askLeft rt_seats rt_slack rt_saw rt_quarrel rt_people rt_pairs rt_forks rt_unsures rt_trieds rt_fed rt_seat rt_one rt_other rt_years rt_kind rt_unsure rt_may rt_tried rt_name)) C G fX12_74 (wR_at0) rfl rfl (Nat.le_of_ble_eq_true rfl) wR_set_m_spot dX12_goesOn_262 (fun H locs G => ?_)
              obtain rfl := Option.some.inj hf
              exact xV_ret C G dX12_goesOn_265
          · have hf := it_f h hf
            refine lv_aload_n hx hb dX12_goesOn_168 rfl (lv_at hl 2 rfl) ?_
            refine lv_iconst (v := 0) hx hb dX12_goesOn_169 (by decide) ?_
            refine x_put (ws' := (wR E ad m_thrown m_trouble m_where m_tv m_tape m_taped m_size x3 (0 : Int32) x3 (0 : Int32) m_fault m_wrongAt m_word m_v m_x m_past m_kept m_acts m_images m_matchNow m_slopsNow m_matchesNow m_slopped m_seatBest m_fedBest m_slopsBest m_sawBest m_leastNow m_stableNow m_fitsNow m_someNow m_everyNow m_otherIn m_askLeft rt_seats rt_slack rt_saw rt_quarrel rt_people rt_pairs rt_forks rt_unsures rt_trieds rt_fed rt_seat rt_one rt_other rt_years rt_kind rt_unsure rt_may rt_tried rt_name)) C G fX12_94 (wR_at0) rfl rfl (Nat.le_of_ble_eq_true rfl) wR_set_m_number dX12_goesOn_170 (fun H locs G => ?_)
            obtain ⟨x15, hr, hf⟩ := bd_go hf
            have Jx15 : ∀ (H : Heap) (locs : List Loc) (ls : Array Slot), xG s E A (wR E ad m_thrown m_trouble m_where m_tv m_tape m_taped m_size x15.2.1 (0 : Int32) x3 x15.2.2 m_fault m_wrongAt m_word m_v m_x m_past m_kept m_acts m_images m_matchNow m_slopsNow m_matchesNow m_slopped m_seatBest m_fedBest m_slopsBest m_sawBest m_leastNow m_stableNow m_fitsNow m_someNow m_everyNow m_otherIn m_askLeft rt_seats rt_slack rt_saw rt_quarrel rt_people rt_pairs rt_forks rt_unsures rt_trieds rt_fed rt_seat rt_one rt_other rt_years rt_kind rt_unsure rt_may rt_tried rt_name) H locs → lv_has ls 3 [(0, .ref (ad 0)), (2, .int x15.1)] → W p l e (xR 1 21) s m args below meth c H locs 0 0 (MQ below (xqV E A (wR E ad m_thrown m_trouble m_where m_tv m_tape m_taped m_size R0.1 R0.2.1 R0.2.2.1 R0.2.2.2.1 m_fault m_wrongAt R0.2.2.2.2 m_v m_x m_past m_kept m_acts m_images m_matchNow m_slopsNow m_matchesNow m_slopped m_seatBest m_fedBest m_slopsBest m_sawBest m_leastNow m_stableNow m_fitsNow m_someNow m_everyNow m_otherIn m_askLeft rt_seats rt_slack rt_saw rt_quarrel rt_people rt_pairs rt_forks rt_unsures rt_trieds rt_fed rt_seat rt_one rt_other rt_years rt_kind rt_unsure rt_may rt_tried rt_name)) args s 0 0 A) (F0 m 231 ls []) := by
              intro H locs ls G hl
              refine lv_iload_n hx hb dX12_goesOn_231 rfl (lv_at hl 1 rfl) ?_
              refine lv_iconst (v := 3) hx hb dX12_goesOn_232 (by decide) ?_
              refine lv_icmp_gt (tgt := 265) hx hb dX12_goesOn_233 (by decide) (fun h => ?_) (fun h => ?_)
              · have hf := it_t h hf
                obtain rfl := Option.some.inj hf
                exact xV_ret C G dX12_goesOn_265
              · have hf := it_f h hf
                refine lv_aload_n hx hb dX12_goesOn_236 rfl (lv_at hl 0 rfl) ?_
                refine lv_iconst (v := 3) hx hb dX12_goesOn_237 (by decide) ?_
                refine x_put (ws' := (wR E ad m_thrown m_trouble m_where m_tv m_tape m_taped m_size x15.2.1 (3 : Int32) x3 x15.2.2 m_fault m_wrongAt m_word m_v m_x m_past m_kept m_acts m_images m_matchNow m_slopsNow m_matchesNow m_slopped m_seatBest m_fedBest m_slopsBest m_sawBest m_leastNow m_stableNow m_fitsNow m_someNow m_everyNow m_otherIn m_askLeft rt_seats rt_slack rt_saw rt_quarrel rt_people rt_pairs rt_forks rt_unsures rt_trieds rt_fed rt_seat rt_one rt_other rt_years rt_kind rt_unsure rt_may rt_tried rt_name)) C G fX12_71 (wR_at0) rfl rfl (Nat.le_of_ble_eq_true rfl) wR_set_m_sort dX12_goesOn_238 (fun H locs G => ?_)
                refine lv_goto (tgt := 265) hx hb dX12_goesOn_241 (by decide) ?_
                obtain rfl := Option.some.inj hf
                exact xV_ret C G dX12_goesOn_265
            exact w_M_goesOn_m_R_L173 C Jx15 fu _ _ _ _ _ _ G (lv_sub hl [2, 0] rfl) hr
        · have hf := it_f h hf
          refine lv_aload_n hx hb dX12_goesOn_79 rfl (lv_at hl 2 rfl) ?_
          refine lv_lconst (v := 0) hx hb dX12_goesOn_80 (by decide) ?_
          refine x_put (ws' := (wR E ad m_thrown m_trouble m_where m_tv m_tape m_taped m_size x3 (0 : Int32) x3 m_number m_fault m_wrongAt (0 : Int64) m_v m_x m_past m_kept m_acts m_images m_matchNow m_slopsNow m_matchesNow m_slopped m_seatBest m_fedBest m_slopsBest m_sawBest m_leastNow m_stableNow m_fitsNow m_someNow m_everyNow m_otherIn m_askLeft rt_seats rt_slack rt_saw rt_quarrel rt_people rt_pairs rt_forks rt_unsures rt_trieds rt_fed rt_seat rt_one rt_other rt_years rt_kind rt_unsure rt_may rt_tried rt_name)) C G fX12_87 (wR_at0) rfl rfl (Nat.le_of_ble_eq_true rfl) wR_set_m_word dX12_goesOn_81 (fun H locs G => ?_)
          obtain ⟨x23, hr, hf⟩ := bd_go hf
          have Jx23 : ∀ (H : Heap) (locs : List Loc) (ls : Array Slot), xG s E A (wR E ad m_thrown m_trouble m_where m_tv m_tape m_taped m_size x23.2.1 (0 : Int32) x3 m_number m_fault m_wrongAt x23.2.2 m_v m_x m_past m_kept m_acts m_images m_matchNow m_slopsNow m_matchesNow m_slopped m_seatBest m_fedBest m_slopsBest m_sawBest m_leastNow m_stableNow m_fitsNow m_someNow m_everyNow m_otherIn m_askLeft rt_seats rt_slack rt_saw rt_quarrel rt_people rt_pairs rt_forks rt_unsures rt_trieds rt_fed rt_seat rt_one rt_other rt_years rt_kind rt_unsure rt_may rt_tried rt_name) H locs → lv_has ls 3 [(0, .ref (ad 0)), (2, .int x23.1)] → W p l e (xR 1 21) s m args below meth c H locs 0 0 (MQ below (xqV E A (wR E ad m_thrown m_trouble m_where m_tv m_tape m_taped m_size R0.1 R0.2.1 R0.2.2.1 R0.2.2.2.1 m_fault m_wrongAt R0.2.2.2.2 m_v m_x m_past m_kept m_acts m_images m_matchNow m_slopsNow m_matchesNow m_slopped m_seatBest m_fedBest m_slopsBest m_sawBest m_leastNow m_stableNow m_fitsNow m_someNow m_everyNow m_otherIn m_askLeft rt_seats rt_slack rt_saw rt_quarrel rt_people rt_pairs rt_forks rt_unsures rt_trieds rt_fed rt_seat rt_one rt_other rt_years rt_kind rt_unsure rt_may rt_tried rt_name)) args s 0 0 A) (F0 m 147 ls []) := by
            intro H locs ls G hl
            refine lv_iload_n hx hb dX12_goesOn_147 rfl (lv_at hl 1 rfl) ?_
            refine lv_bipush (v := 8) hx hb dX12_goesOn_148 (by decide) ?_
            refine lv_icmp_gt (tgt := 265) hx hb dX12_goesOn_150 (by decide) (fun h => ?_) (fun h => ?_)
            · have hf := it_t h hf
              obtain rfl := Option.some.inj hf
              exact xV_ret C G dX12_goesOn_265
            · have hf := it_f h hf
              refine lv_aload_n hx hb dX12_goesOn_153 rfl (lv_at hl 0 rfl) ?_
              refine lv_iconst (v := 2) hx hb dX12_goesOn_154 (by decide) ?_
              refine x_put (ws' := (wR E ad m_thrown m_trouble m_where m_tv m_tape m_taped m_size x23.2.1 (2 : Int32) x3 m_number m_fault m_wrongAt x23.2.2 m_v m_x m_past m_kept m_acts m_images m_matchNow m_slopsNow m_matchesNow m_slopped m_seatBest m_fedBest m_slopsBest m_sawBest m_leastNow m_stableNow m_fitsNow m_someNow m_everyNow m_otherIn m_askLeft rt_seats rt_slack rt_saw rt_quarrel rt_people rt_pairs rt_forks rt_unsures rt_trieds rt_fed rt_seat rt_one rt_other rt_years rt_kind rt_unsure rt_may rt_tried rt_name)) C G fX12_71 (wR_at0) rfl rfl (Nat.le_of_ble_eq_true rfl) wR_set_m_sort dX12_goesOn_155 (fun H locs G => ?_)
              refine lv_goto (tgt := 265) hx hb dX12_goesOn_158 (by decide) ?_
              obtain rfl := Option.some.inj hf
              exact xV_ret C G dX12_goesOn_265
          exact w_M_goesOn_m_R_L84 C Jx23 fu _ _ _ _ _ _ G (lv_sub hl [2, 0] rfl) hr
      · have hf := it_t h hf
        refine lv_aload_n hx hb dX12_goesOn_64 rfl (lv_at hl 2 rfl) ?_
        refine lv_iconst (v := 1) hx hb dX12_goesOn_65 (by decide) ?_
        refine x_put (ws' := (wR E ad m_thrown m_trouble m_where m_tv m_tape m_taped m_size x3 (1 : Int32) x3 m_number m_fault m_wrongAt m_word m_v m_x m_past m_kept m_acts m_images m_matchNow m_slopsNow m_matchesNow m_slopped m_seatBest m_fedBest m_slopsBest m_sawBest m_leastNow m_stableNow m_fitsNow m_someNow m_everyNow m_otherIn m_askLeft rt_seats rt_slack rt_saw rt_quarrel rt_people rt_pairs rt_forks rt_unsures rt_trieds rt_fed rt_seat rt_one rt_other rt_years rt_kind rt_unsure rt_may rt_tried rt_name)) C G fX12_71 (wR_at0) rfl rfl (Nat.le_of_ble_eq_true rfl) wR_set_m_sort dX12_goesOn_66 (fun H locs G => ?_)
        refine lv_goto (tgt := 265) hx hb dX12_goesOn_69 (by decide) ?_
        obtain rfl := Option.some.inj hf
        exact xV_ret C G dX12_goesOn_265
    exact w_M_goesOn_m_R_L9 C Jx3 fu _ _ _ _ G (lv_sub hl [0] rfl) hr
  · have hf := it_t h hf
    obtain rfl := Option.some.inj hf
    exact xV_ret C G dX12_goesOn_8
set_option maxHeartbeats 4000000 in
set_option maxRecDepth 100000 in
theorem c_M_isWord_m_table_R {l : Launch} {E : xE} {ad : Nat → Nat} {m_thrown m_trouble m_where m_taped m_size m_spot m_sort m_place m_number m_fault m_wrongAt m_acts m_images m_matchNow m_slopsNow m_matchesNow m_fedBest m_slopsBest m_sawBest m_leastNow m_stableNow m_fitsNow m_someNow m_everyNow m_askLeft rt_seats rt_slack rt_saw rt_quarrel rt_people rt_pairs rt_forks rt_unsures rt_trieds rt_fed : Int32} {m_tv : Value} {m_tape m_v m_x m_past m_kept m_slopped m_seatBest m_otherIn rt_seat rt_one rt_other rt_years rt_kind rt_unsure rt_may rt_tried : Nat → Int32} {m_word : Int64} {rt_name : Nat → Int64} {R0 : Int32} (hf : f_M_isWord (21006725 : Int64) m_sort m_word = some R0) : xI l E yX12_isWord cX12_isWord 2 (some .boolean) 6 143 [.ref (ad 0), .ref (E.2.2.1 0)] (wR E ad m_thrown m_trouble m_where m_tv m_tape m_taped m_size m_spot m_sort m_place m_number m_fault m_wrongAt m_word m_v m_x m_past m_kept m_acts m_images m_matchNow m_slopsNow m_matchesNow m_slopped m_seatBest m_fedBest m_slopsBest m_sawBest m_leastNow m_stableNow m_fitsNow m_someNow m_everyNow m_otherIn m_askLeft rt_seats rt_slack rt_saw rt_quarrel rt_people rt_pairs rt_forks rt_unsures rt_trieds rt_fed rt_seat rt_one rt_other rt_years rt_kind rt_unsure rt_may rt_tried rt_name) (wR E ad m_thrown m_trouble m_where m_tv m_tape m_taped m_size m_spot m_sort m_place m_number m_fault m_wrongAt m_word m_v m_x m_past m_kept m_acts m_images m_matchNow m_slopsNow m_matchesNow m_slopped m_seatBest m_fedBest m_slopsBest m_sawBest m_leastNow m_stableNow m_fitsNow m_someNow m_everyNow m_otherIn m_askLeft rt_seats rt_slack rt_saw rt_quarrel rt_people rt_pairs rt_forks rt_unsures rt_trieds rt_fed rt_seat rt_one rt_other rt_years rt_kind rt_unsure rt_may rt_tried rt_name) R0 := by
  refine xI_of (by decide) (Nat.le_of_ble_eq_true rfl) (fun p e s m args below meth c A C ls hl G => ?_)
  have hx := C.1
  have hb := C.2.1
  have hl : lv_has ls 2 [(0, .ref (ad 0)), (1, .ref (E.2.2.1 0))] := hl
  unfold f_M_isWord at hf
  refine lv_aload_n hx hb dX12_isWord_0 rfl (lv_at hl 0 rfl) ?_
  refine x_get C G fX12_71.g (wR_at0) rfl dX12_isWord_1 ?_
  refine lv_iconst (v := 2) hx hb dX12_isWord_4 (by decide) ?_
  obtain ⟨b1, hr, hf⟩ := bd_go hf
  cases b1 with
  | true =>
    have hf := it_t rfl hf
    have J : ∀ (H : Heap) (locs : List Loc), xG s E A (wR E ad m_thrown m_trouble m_where m_tv m_tape m_taped m_size m_spot m_sort m_place m_number m_fault m_wrongAt m_word m_v m_x m_past m_kept m_acts m_images m_matchNow m_slopsNow m_matchesNow m_slopped m_seatBest m_fedBest m_slopsBest m_sawBest m_leastNow m_stableNow m_fitsNow m_someNow m_everyNow m_otherIn m_askLeft rt_seats rt_slack rt_saw rt_quarrel rt_people rt_pairs rt_forks rt_unsures rt_trieds rt_fed rt_seat rt_one rt_other rt_years rt_kind rt_unsure rt_may rt_tried rt_name) H locs → W p l e (xR 6 143) s m args below meth c H locs 0 0 (MQ below (xqI E A (wR E ad m_thrown m_trouble m_where m_tv m_tape m_taped m_size m_spot m_sort m_place m_number m_fault m_wrongAt m_word m_v m_x m_past m_kept m_acts m_images m_matchNow m_slopsNow m_matchesNow m_slopped m_seatBest m_fedBest m_slopsBest m_sawBest m_leastNow m_stableNow m_fitsNow m_someNow m_everyNow m_otherIn m_askLeft rt_seats rt_slack rt_saw rt_quarrel rt_people rt_pairs rt_forks rt_unsures rt_trieds rt_fed rt_seat rt_one rt_other rt_years rt_kind rt_unsure rt_may rt_tried rt_name) (some .boolean) R0) args s 0 0 A) (F0 m 24 ls []) := by
      intro H locs G
      refine lv_iconst (v := 0) hx hb dX12_isWord_24 (by decide) ?_
      obtain rfl := Option.some.inj hf
      exact xI_ret (r := (0 : Int32)) C G rfl dX12_isWord_25
    have hf := hr
    clear hr
    refine lv_icmp_ne (tgt := 24) hx hb dX12_isWord_5 (by decide) (fun h => ?_) (fun h => ?_)
    · have hf := it_f h hf
      exact J _ _ G
    · have hf := it_t h hf
      refine lv_aload_n hx hb dX12_isWord_8 rfl (lv_at hl 0 rfl) ?_
      refine x_get C G fX12_87.g (wR_at0) rfl dX12_isWord_9 ?_
      refine lv_aload_n hx hb dX12_isWord_12 rfl (lv_at hl 1 rfl) ?_
      refine xL_S C G (c_M_packed 0 (by decide) (21006725 : Int64) (by decide +kernel)) mX12_packed kX12_103 ⟨Nat.le_of_ble_eq_true rfl, Nat.le_of_ble_eq_true rfl⟩ rfl hl.1 rfl (Nat.le_of_ble_eq_true rfl) ⟨Nat.le_refl _, Nat.le_refl _⟩ dX12_isWord_13 (fun H locs G => ?_)
      refine W.lcmp hx hb dX12_isWord_16 ?_
      refine lv_if_ne (tgt := 24) hx hb dX12_isWord_17 (by decide) (fun h => ?_) (fun h => ?_)
      · have hf := it_f h hf
        exact J _ _ G
      · have hf := it_t h hf
        exact absurd (Option.some.inj hf) (by decide)
  | false =>
    have hf := it_f (by decide) hf
    have J : ∀ (H : Heap) (locs : List Loc), xG s E A (wR E ad m_thrown m_trouble m_where m_tv m_tape m_taped m_size m_spot m_sort m_place m_number m_fault m_wrongAt m_word m_v m_x m_past m_kept m_acts m_images m_matchNow m_slopsNow m_matchesNow m_slopped m_seatBest m_fedBest m_slopsBest m_sawBest m_leastNow m_stableNow m_fitsNow m_someNow m_everyNow m_otherIn m_askLeft rt_seats rt_slack rt_saw rt_quarrel rt_people rt_pairs rt_forks rt_unsures rt_trieds rt_fed rt_seat rt_one rt_other rt_years rt_kind rt_unsure rt_may rt_tried rt_name) H locs → W p l e (xR 6 143) s m args below meth c H locs 0 0 (MQ below (xqI E A (wR E ad m_thrown m_trouble m_where m_tv m_tape m_taped m_size m_spot m_sort m_place m_number m_fault m_wrongAt m_word m_v m_x m_past m_kept m_acts m_images m_matchNow m_slopsNow m_matchesNow m_slopped m_seatBest m_fedBest m_slopsBest m_sawBest m_leastNow m_stableNow m_fitsNow m_someNow m_everyNow m_otherIn m_askLeft rt_seats rt_slack rt_saw rt_quarrel rt_people rt_pairs rt_forks rt_unsures rt_trieds rt_fed rt_seat rt_one rt_other rt_years rt_kind rt_unsure rt_may rt_tried rt_name) (some .boolean) R0) args s 0 0 A) (F0 m 20 ls []) := by
      intro H locs G
      refine lv_iconst (v := 1) hx hb dX12_isWord_20 (by decide) ?_
      refine lv_goto (tgt := 25) hx hb dX12_isWord_21 (by decide) ?_
      obtain rfl := Option.some.inj hf
      exact xI_ret (r := (1 : Int32)) C G rfl dX12_isWord_25
    have hf := hr
    clear hr
    refine lv_icmp_ne (tgt := 24) hx hb dX12_isWord_5 (by decide) (fun h => ?_) (fun h => ?_)
    · have hf := it_f h hf
      exact absurd (Option.some.inj hf) (by decide)
    · have hf := it_t h hf
      refine lv_aload_n hx hb dX12_isWord_8 rfl (lv_at hl 0 rfl) ?_
      refine x_get C G fX12_87.g (wR_at0) rfl dX12_isWord_9 ?_
      refine lv_aload_n hx hb dX12_isWord_12 rfl (lv_at hl 1 rfl) ?_
      refine xL_S C G (c_M_packed 0 (by decide) (21006725 : Int64) (by decide +kernel)) mX12_packed kX12_103 ⟨Nat.le_of_ble_eq_true rfl, Nat.le_of_ble_eq_true rfl⟩ rfl hl.1 rfl (Nat.le_of_ble_eq_true rfl) ⟨Nat.le_refl _, Nat.le_refl _⟩ dX12_isWord_13 (fun H locs G => ?_)
      refine W.lcmp hx hb dX12_isWord_16 ?_
      refine lv_if_ne (tgt := 24) hx hb dX12_isWord_17 (by decide) (fun h => ?_) (fun h => ?_)
      · have hf := it_f h hf
        exact absurd (Option.some.inj hf) (by decide)
      · have hf := it_t h hf
        exact J _ _ G
set_option maxHeartbeats 4000000 in
set_option maxRecDepth 100000 in
theorem c_M_isWord_m_person_R {l : Launch} {E : xE} {ad : Nat → Nat} {m_thrown m_trouble m_where m_taped m_size m_spot m_sort m_place m_number m_fault m_wrongAt m_acts m_images m_matchNow m_slopsNow m_matchesNow m_fedBest m_slopsBest m_sawBest m_leastNow m_stableNow m_fitsNow m_someNow m_everyNow m_askLeft rt_seats rt_slack rt_saw rt_quarrel rt_people rt_pairs rt_forks rt_unsures rt_trieds rt_fed : Int32} {m_tv : Value} {m_tape m_v m_x m_past m_kept m_slopped m_seatBest m_otherIn rt_seat rt_one rt_other rt_years rt_kind rt_unsure rt_may rt_tried : Nat → Int32} {m_word : Int64} {rt_name : Nat → Int64} {R0 : Int32} (hf : f_M_isWord (542723566 : Int64) m_sort m_word = some R0) : xI l E yX12_isWord cX12_isWord 2 (some .boolean) 6 143 [.ref (ad 0), .ref (E.2.2.1 5)] (wR E ad m_thrown m_trouble m_where m_tv m_tape m_taped m_size m_spot m_sort m_place m_number m_fault m_wrongAt m_word m_v m_x m_past m_kept m_acts m_images m_matchNow m_slopsNow m_matchesNow m_slopped m_seatBest m_fedBest m_slopsBest m_sawBest m_leastNow m_stableNow m_fitsNow m_someNow m_everyNow m_otherIn m_askLeft rt_seats rt_slack rt_saw rt_quarrel rt_people rt_pairs rt_forks rt_unsures rt_trieds rt_fed rt_seat rt_one rt_other rt_years rt_kind rt_unsure rt_may rt_tried rt_name) (wR E ad m_thrown m_trouble m_where m_tv m_tape m_taped m_size m_spot m_sort m_place m_number m_fault m_wrongAt m_word m_v m_x m_past m_kept m_acts m_images m_matchNow m_slopsNow m_matchesNow m_slopped m_seatBest m_fedBest m_slopsBest m_sawBest m_leastNow m_stableNow m_fitsNow m_someNow m_everyNow m_otherIn m_askLeft rt_seats rt_slack rt_saw rt_quarrel rt_people rt_pairs rt_forks rt_unsures rt_trieds rt_fed rt_seat rt_one rt_other rt_years rt_kind rt_unsure rt_may rt_tried rt_name) R0 := by
  refine xI_of (by decide) (Nat.le_of_ble_eq_true rfl) (fun p e s m args below meth c A C ls hl G => ?_)
  have hx := C.1
  have hb := C.2.1
  have hl : lv_has ls 2 [(0, .ref (ad 0)), (1, .ref (E.2.2.1 5))] := hl
  unfold f_M_isWord at hf
  refine lv_aload_n hx hb dX12_isWord_0 rfl (lv_at hl 0 rfl) ?_
  refine x_get C G fX12_71.g (wR_at0) rfl dX12_isWord_1 ?_
  refine lv_iconst (v := 2) hx hb dX12_isWord_4 (by decide) ?_
  obtain ⟨b1, hr, hf⟩ := bd_go hf
  cases b1 with
  | true =>
    have hf := it_t rfl hf
    have J : ∀ (H : Heap) (locs : List Loc), xG s E A (wR E ad m_thrown m_trouble m_where m_tv m_tape m_taped m_size m_spot m_sort m_place m_number m_fault m_wrongAt m_word m_v m_x m_past m_kept m_acts m_images m_matchNow m_slopsNow m_matchesNow m_slopped m_seatBest m_fedBest m_slopsBest m_sawBest m_leastNow m_stableNow m_fitsNow m_someNow m_everyNow m_otherIn m_askLeft rt_seats rt_slack rt_saw rt_quarrel rt_people rt_pairs rt_forks rt_unsures rt_trieds rt_fed rt_seat rt_one rt_other rt_years rt_kind rt_unsure rt_may rt_tried rt_name) H locs → W p l e (xR 6 143) s m args below meth c H locs 0 0 (MQ below (xqI E A (wR E ad m_thrown m_trouble m_where m_tv m_tape m_taped m_size m_spot m_sort m_place m_number m_fault m_wrongAt m_word m_v m_x m_past m_kept m_acts m_images m_matchNow m_slopsNow m_matchesNow m_slopped m_seatBest m_fedBest m_slopsBest m_sawBest m_leastNow m_stableNow m_fitsNow m_someNow m_everyNow m_otherIn m_askLeft rt_seats rt_slack rt_saw rt_quarrel rt_people rt_pairs rt_forks rt_unsures rt_trieds rt_fed rt_seat rt_one rt_other rt_years rt_kind rt_unsure rt_may rt_tried rt_name) (some .boolean) R0) args s 0 0 A) (F0 m 24 ls []) := by
      intro H locs G
      refine lv_iconst (v := 0) hx hb dX12_isWord_24 (by decide) ?_
      obtain rfl := Option.some.inj hf
      exact xI_ret (r := (0 : Int32)) C G rfl dX12_isWord_25
    have hf := hr
    clear hr
    refine lv_icmp_ne (tgt := 24) hx hb dX12_isWord_5 (by decide) (fun h => ?_) (fun h => ?_)
    · have hf := it_f h hf
      exact J _ _ G
    · have hf := it_t h hf
      refine lv_aload_n hx hb dX12_isWord_8 rfl (lv_at hl 0 rfl) ?_
      refine x_get C G fX12_87.g (wR_at0) rfl dX12_isWord_9 ?_
      refine lv_aload_n hx hb dX12_isWord_12 rfl (lv_at hl 1 rfl) ?_
      refine xL_S C G (c_M_packed 5 (by decide) (542723566 : Int64) (by decide +kernel)) mX12_packed kX12_103 ⟨Nat.le_of_ble_eq_true rfl, Nat.le_of_ble_eq_true rfl⟩ rfl hl.1 rfl (Nat.le_of_ble_eq_true rfl) ⟨Nat.le_refl _, Nat.le_refl _⟩ dX12_isWord_13 (fun H locs G => ?_)
      refine W.lcmp hx hb dX12_isWord_16 ?_
      refine lv_if_ne (tgt := 24) hx hb dX12_isWord_17 (by decide) (fun h => ?_) (fun h => ?_)
      · have hf := it_f h hf
        exact J _ _ G
      · have hf := it_t h hf
        exact absurd (Option.some.inj hf) (by decide)
  | false =>
    have hf := it_f (by decide) hf
    have J : ∀ (H : Heap) (locs : List Loc), xG s E A (wR E ad m_thrown m_trouble m_where m_tv m_tape m_taped m_size m_spot m_sort m_place m_number m_fault m_wrongAt m_word m_v m_x m_past m_kept m_acts m_images m_matchNow m_slopsNow m_matchesNow m_slopped m_seatBest m_fedBest m_slopsBest m_sawBest m_leastNow m_stableNow m_fitsNow m_someNow m_everyNow m_otherIn m_askLeft rt_seats rt_slack rt_saw rt_quarrel rt_people rt_pairs rt_forks rt_unsures rt_trieds rt_fed rt_seat rt_one rt_other rt_years rt_kind rt_unsure rt_may rt_tried rt_name) H locs → W p l e (xR 6 143) s m args below meth c H locs 0 0 (MQ below (xqI E A (wR E ad m_thrown m_trouble m_where m_tv m_tape m_taped m_size m_spot m_sort m_place m_number m_fault m_wrongAt m_word m_v m_x m_past m_kept m_acts m_images m_matchNow m_slopsNow m_matchesNow m_slopped m_seatBest m_fedBest m_slopsBest m_sawBest m_leastNow m_stableNow m_fitsNow m_someNow m_everyNow m_otherIn m_askLeft rt_seats rt_slack rt_saw rt_quarrel rt_people rt_pairs rt_forks rt_unsures rt_trieds rt_fed rt_seat rt_one rt_other rt_years rt_kind rt_unsure rt_may rt_tried rt_name) (some .boolean) R0) args s 0 0 A) (F0 m 20 ls []) := by
      intro H locs G
      refine lv_iconst (v := 1) hx hb dX12_isWord_20 (by decide) ?_
      refine lv_goto (tgt := 25) hx hb dX12_isWord_21 (by decide) ?_
      obtain rfl := Option.some.inj hf
      exact xI_ret (r := (1 : Int32)) C G rfl dX12_isWord_25
    have hf := hr
    clear hr
    refine lv_icmp_ne (tgt := 24) hx hb dX12_isWord_5 (by decide) (fun h => ?_) (fun h => ?_)
    · have hf := it_f h hf
      exact absurd (Option.some.inj hf) (by decide)
    · have hf := it_t h hf
      refine lv_aload_n hx hb dX12_isWord_8 rfl (lv_at hl 0 rfl) ?_
      refine x_get C G fX12_87.g (wR_at0) rfl dX12_isWord_9 ?_
      refine lv_aload_n hx hb dX12_isWord_12 rfl (lv_at hl 1 rfl) ?_
      refine xL_S C G (c_M_packed 5 (by decide) (542723566 : Int64) (by decide +kernel)) mX12_packed kX12_103 ⟨Nat.le_of_ble_eq_true rfl, Nat.le_of_ble_eq_true rfl⟩ rfl hl.1 rfl (Nat.le_of_ble_eq_true rfl) ⟨Nat.le_refl _, Nat.le_refl _⟩ dX12_isWord_13 (fun H locs G => ?_)
      refine W.lcmp hx hb dX12_isWord_16 ?_
      refine lv_if_ne (tgt := 24) hx hb dX12_isWord_17 (by decide) (fun h => ?_) (fun h => ?_)
      · have hf := it_f h hf
        exact absurd (Option.some.inj hf) (by decide)
      · have hf := it_t h hf
        exact J _ _ G
set_option maxHeartbeats 4000000 in
set_option maxRecDepth 100000 in
theorem c_M_isWord_m_fork_R {l : Launch} {E : xE} {ad : Nat → Nat} {m_thrown m_trouble m_where m_taped m_size m_spot m_sort m_place m_number m_fault m_wrongAt m_acts m_images m_matchNow m_slopsNow m_matchesNow m_fedBest m_slopsBest m_sawBest m_leastNow m_stableNow m_fitsNow m_someNow m_everyNow m_askLeft rt_seats rt_slack rt_saw rt_quarrel rt_people rt_pairs rt_forks rt_unsures rt_trieds rt_fed : Int32} {m_tv : Value} {m_tape m_v m_x m_past m_kept m_slopped m_seatBest m_otherIn rt_seat rt_one rt_other rt_years rt_kind rt_unsure rt_may rt_tried : Nat → Int32} {m_word : Int64} {rt_name : Nat → Int64} {R0 : Int32} (hf : f_M_isWord (212555 : Int64) m_sort m_word = some R0) : xI l E yX12_isWord cX12_isWord 2 (some .boolean) 6 143 [.ref (ad 0), .ref (E.2.2.1 6)] (wR E ad m_thrown m_trouble m_where m_tv m_tape m_taped m_size m_spot m_sort m_place m_number m_fault m_wrongAt m_word m_v m_x m_past m_kept m_acts m_images m_matchNow m_slopsNow m_matchesNow m_slopped m_seatBest m_fedBest m_slopsBest m_sawBest m_leastNow m_stableNow m_fitsNow m_someNow m_everyNow m_otherIn m_askLeft rt_seats rt_slack rt_saw rt_quarrel rt_people rt_pairs rt_forks rt_unsures rt_trieds rt_fed rt_seat rt_one rt_other rt_years rt_kind rt_unsure rt_may rt_tried rt_name) (wR E ad m_thrown m_trouble m_where m_tv m_tape m_taped m_size m_spot m_sort m_place m_number m_fault m_wrongAt m_word m_v m_x m_past m_kept m_acts m_images m_matchNow m_slopsNow m_matchesNow m_slopped m_seatBest m_fedBest m_slopsBest m_sawBest m_leastNow m_stableNow m_fitsNow m_someNow m_everyNow m_otherIn m_askLeft rt_seats rt_slack rt_saw rt_quarrel rt_people rt_pairs rt_forks rt_unsures rt_trieds rt_fed rt_seat rt_one rt_other rt_years rt_kind rt_unsure rt_may rt_tried rt_name) R0 := by
  refine xI_of (by decide) (Nat.le_of_ble_eq_true rfl) (fun p e s m args below meth c A C ls hl G => ?_)
  have hx := C.1
  have hb := C.2.1
  have hl : lv_has ls 2 [(0, .ref (ad 0)), (1, .ref (E.2.2.1 6))] := hl
  unfold f_M_isWord at hf
  refine lv_aload_n hx hb dX12_isWord_0 rfl (lv_at hl 0 rfl) ?_
  refine x_get C G fX12_71.g (wR_at0) rfl dX12_isWord_1 ?_
  refine lv_iconst (v := 2) hx hb dX12_isWord_4 (by decide) ?_
  obtain ⟨b1, hr, hf⟩ := bd_go hf
  cases b1 with
  | true =>
    have hf := it_t rfl hf
    have J : ∀ (H : Heap) (locs : List Loc), xG s E A (wR E ad m_thrown m_trouble m_where m_tv m_tape m_taped m_size m_spot m_sort m_place m_number m_fault m_wrongAt m_word m_v m_x m_past m_kept m_acts m_images m_matchNow m_slopsNow m_matchesNow m_slopped m_seatBest m_fedBest m_slopsBest m_sawBest m_leastNow m_stableNow m_fitsNow m_someNow m_everyNow m_otherIn m_askLeft rt_seats rt_slack rt_saw rt_quarrel rt_people rt_pairs rt_forks rt_unsures rt_trieds rt_fed rt_seat rt_one rt_other rt_years rt_kind rt_unsure rt_may rt_tried rt_name) H locs → W p l e (xR 6 143) s m args below meth c H locs 0 0 (MQ below (xqI E A (wR E ad m_thrown m_trouble m_where m_tv m_tape m_taped m_size m_spot m_sort m_place m_number m_fault m_wrongAt m_word m_v m_x m_past m_kept m_acts m_images m_matchNow m_slopsNow m_matchesNow m_slopped m_seatBest m_fedBest m_slopsBest m_sawBest m_leastNow m_stableNow m_fitsNow m_someNow m_everyNow m_otherIn m_askLeft rt_seats rt_slack rt_saw rt_quarrel rt_people rt_pairs rt_forks rt_unsures rt_trieds rt_fed rt_seat rt_one rt_other rt_years rt_kind rt_unsure rt_may rt_tried rt_name) (some .boolean) R0) args s 0 0 A) (F0 m 24 ls []) := by
      intro H locs G
      refine lv_iconst (v := 0) hx hb dX12_isWord_24 (by decide) ?_
      obtain rfl := Option.some.inj hf
      exact xI_ret (r := (0 : Int32)) C G rfl dX12_isWord_25
    have hf := hr
    clear hr
    refine lv_icmp_ne (tgt := 24) hx hb dX12_isWord_5 (by decide) (fun h => ?_) (fun h => ?_)
    · have hf := it_f h hf
      exact J _ _ G
    · have hf := it_t h hf
      refine lv_aload_n hx hb dX12_isWord_8 rfl (lv_at hl 0 rfl) ?_
      refine x_get C G fX12_87.g (wR_at0) rfl dX12_isWord_9 ?_
      refine lv_aload_n hx hb dX12_isWord_12 rfl (lv_at hl 1 rfl) ?_
      refine xL_S C G (c_M_packed 6 (by decide) (212555 : Int64) (by decide +kernel)) mX12_packed kX12_103 ⟨Nat.le_of_ble_eq_true rfl, Nat.le_of_ble_eq_true rfl⟩ rfl hl.1 rfl (Nat.le_of_ble_eq_true rfl) ⟨Nat.le_refl _, Nat.le_refl _⟩ dX12_isWord_13 (fun H locs G => ?_)
      refine W.lcmp hx hb dX12_isWord_16 ?_
      refine lv_if_ne (tgt := 24) hx hb dX12_isWord_17 (by decide) (fun h => ?_) (fun h => ?_)
      · have hf := it_f h hf
        exact J _ _ G
      · have hf := it_t h hf
        exact absurd (Option.some.inj hf) (by decide)
  | false =>
    have hf := it_f (by decide) hf
    have J : ∀ (H : Heap) (locs : List Loc), xG s E A (wR E ad m_thrown m_trouble m_where m_tv m_tape m_taped m_size m_spot m_sort m_place m_number m_fault m_wrongAt m_word m_v m_x m_past m_kept m_acts m_images m_matchNow m_slopsNow m_matchesNow m_slopped m_seatBest m_fedBest m_slopsBest m_sawBest m_leastNow m_stableNow m_fitsNow m_someNow m_everyNow m_otherIn m_askLeft rt_seats rt_slack rt_saw rt_quarrel rt_people rt_pairs rt_forks rt_unsures rt_trieds rt_fed rt_seat rt_one rt_other rt_years rt_kind rt_unsure rt_may rt_tried rt_name) H locs → W p l e (xR 6 143) s m args below meth c H locs 0 0 (MQ below (xqI E A (wR E ad m_thrown m_trouble m_where m_tv m_tape m_taped m_size m_spot m_sort m_place m_number m_fault m_wrongAt m_word m_v m_x m_past m_kept m_acts m_images m_matchNow m_slopsNow m_matchesNow m_slopped m_seatBest m_fedBest m_slopsBest m_sawBest m_leastNow m_stableNow m_fitsNow m_someNow m_everyNow m_otherIn m_askLeft rt_seats rt_slack rt_saw rt_quarrel rt_people rt_pairs rt_forks rt_unsures rt_trieds rt_fed rt_seat rt_one rt_other rt_years rt_kind rt_unsure rt_may rt_tried rt_name) (some .boolean) R0) args s 0 0 A) (F0 m 20 ls []) := by
      intro H locs G
      refine lv_iconst (v := 1) hx hb dX12_isWord_20 (by decide) ?_
      refine lv_goto (tgt := 25) hx hb dX12_isWord_21 (by decide) ?_
      obtain rfl := Option.some.inj hf
      exact xI_ret (r := (1 : Int32)) C G rfl dX12_isWord_25
    have hf := hr
    clear hr
    refine lv_icmp_ne (tgt := 24) hx hb dX12_isWord_5 (by decide) (fun h => ?_) (fun h => ?_)
    · have hf := it_f h hf
      exact absurd (Option.some.inj hf) (by decide)
    · have hf := it_t h hf
      refine lv_aload_n hx hb dX12_isWord_8 rfl (lv_at hl 0 rfl) ?_
      refine x_get C G fX12_87.g (wR_at0) rfl dX12_isWord_9 ?_
      refine lv_aload_n hx hb dX12_isWord_12 rfl (lv_at hl 1 rfl) ?_
      refine xL_S C G (c_M_packed 6 (by decide) (212555 : Int64) (by decide +kernel)) mX12_packed kX12_103 ⟨Nat.le_of_ble_eq_true rfl, Nat.le_of_ble_eq_true rfl⟩ rfl hl.1 rfl (Nat.le_of_ble_eq_true rfl) ⟨Nat.le_refl _, Nat.le_refl _⟩ dX12_isWord_13 (fun H locs G => ?_)
      refine W.lcmp hx hb dX12_isWord_16 ?_
      refine lv_if_ne (tgt := 24) hx hb dX12_isWord_17 (by decide) (fun h => ?_) (fun h => ?_)
      · have hf := it_f h hf
        exact absurd (Option.some.inj hf) (by decide)
      · have hf := it_t h hf
        exact J _ _ G
set_option maxHeartbeats 4000000 in
set_option maxRecDepth 100000 in
theorem c_M_isWord_m_known_R {l : Launch} {E : xE} {ad : Nat → Nat} {m_thrown m_trouble m_where m_taped m_size m_spot m_sort m_place m_number m_fault m_wrongAt m_acts m_images m_matchNow m_slopsNow m_matchesNow m_fedBest m_slopsBest m_sawBest m_leastNow m_stableNow m_fitsNow m_someNow m_everyNow m_askLeft rt_seats rt_slack rt_saw rt_quarrel rt_people rt_pairs rt_forks rt_unsures rt_trieds rt_fed : Int32} {m_tv : Value} {m_tape m_v m_x m_past m_kept m_slopped m_seatBest m_otherIn rt_seat rt_one rt_other rt_years rt_kind rt_unsure rt_may rt_tried : Nat → Int32} {m_word : Int64} {rt_name : Nat → Int64} {R0 : Int32} (hf : f_M_isWord (12009198 : Int64) m_sort m_word = some R0) : xI l E yX12_isWord cX12_isWord 2 (some .boolean) 6 143 [.ref (ad 0), .ref (E.2.2.1 7)] (wR E ad m_thrown m_trouble m_where m_tv m_tape m_taped m_size m_spot m_sort m_place m_number m_fault m_wrongAt m_word m_v m_x m_past m_kept m_acts m_images m_matchNow m_slopsNow m_matchesNow m_slopped m_seatBest m_fedBest m_slopsBest m_sawBest m_leastNow m_stableNow m_fitsNow m_someNow m_everyNow m_otherIn m_askLeft rt_seats rt_slack rt_saw rt_quarrel rt_people rt_pairs rt_forks rt_unsures rt_trieds rt_fed rt_seat rt_one rt_other rt_years rt_kind rt_unsure rt_may rt_tried rt_name) (wR E ad m_thrown m_trouble m_where m_tv m_tape m_taped m_size m_spot m_sort m_place m_number m_fault m_wrongAt m_word m_v m_x m_past m_kept m_acts m_images m_matchNow m_slopsNow m_matchesNow m_slopped m_seatBest m_fedBest m_slopsBest m_sawBest m_leastNow m_stableNow m_fitsNow m_someNow m_everyNow m_otherIn m_askLeft rt_seats rt_slack rt_saw rt_quarrel rt_people rt_pairs rt_forks rt_unsures rt_trieds rt_fed rt_seat rt_one rt_other rt_years rt_kind rt_unsure rt_may rt_tried rt_name) R0 := by
  refine xI_of (by decide) (Nat.le_of_ble_eq_true rfl) (fun p e s m args below meth c A C ls hl G => ?_)
  have hx := C.1
  have hb := C.2.1
  have hl : lv_has ls 2 [(0, .ref (ad 0)), (1, .ref (E.2.2.1 7))] := hl
  unfold f_M_isWord at hf
  refine lv_aload_n hx hb dX12_isWord_0 rfl (lv_at hl 0 rfl) ?_
  refine x_get C G fX12_71.g (wR_at0) rfl dX12_isWord_1 ?_
  refine lv_iconst (v := 2) hx hb dX12_isWord_4 (by decide) ?_
  obtain ⟨b1, hr, hf⟩ := bd_go hf
  cases b1 with
  | true =>
    have hf := it_t rfl hf
    have J : ∀ (H : Heap) (locs : List Loc), xG s E A (wR E ad m_thrown m_trouble m_where m_tv m_tape m_taped m_size m_spot m_sort m_place m_number m_fault m_wrongAt m_word m_v m_x m_past m_kept m_acts m_images m_matchNow m_slopsNow m_matchesNow m_slopped m_seatBest m_fedBest m_slopsBest m_sawBest m_leastNow m_stableNow m_fitsNow m_someNow m_everyNow m_otherIn m_askLeft rt_seats rt_slack rt_saw rt_quarrel rt_people rt_pairs rt_forks rt_unsures rt_trieds rt_fed rt_seat rt_one rt_other rt_years rt_kind rt_unsure rt_may rt_tried rt_name) H locs → W p l e (xR 6 143) s m args below meth c H locs 0 0 (MQ below (xqI E A (wR E ad m_thrown m_trouble m_where m_tv m_tape m_taped m_size m_spot m_sort m_place m_number m_fault m_wrongAt m_word m_v m_x m_past m_kept m_acts m_images m_matchNow m_slopsNow m_matchesNow m_slopped m_seatBest m_fedBest m_slopsBest m_sawBest m_leastNow m_stableNow m_fitsNow m_someNow m_everyNow m_otherIn m_askLeft rt_seats rt_slack rt_saw rt_quarrel rt_people rt_pairs rt_forks rt_unsures rt_trieds rt_fed rt_seat rt_one rt_other rt_years rt_kind rt_unsure rt_may rt_tried rt_name) (some .boolean) R0) args s 0 0 A) (F0 m 24 ls []) := by
      intro H locs G
      refine lv_iconst (v := 0) hx hb dX12_isWord_24 (by decide) ?_
      obtain rfl := Option.some.inj hf
      exact xI_ret (r := (0 : Int32)) C G rfl dX12_isWord_25
    have hf := hr
    clear hr
    refine lv_icmp_ne (tgt := 24) hx hb dX12_isWord_5 (by decide) (fun h => ?_) (fun h => ?_)
    · have hf := it_f h hf
      exact J _ _ G
    · have hf := it_t h hf
      refine lv_aload_n hx hb dX12_isWord_8 rfl (lv_at hl 0 rfl) ?_
      refine x_get C G fX12_87.g (wR_at0) rfl dX12_isWord_9 ?_
      refine lv_aload_n hx hb dX12_isWord_12 rfl (lv_at hl 1 rfl) ?_
      refine xL_S C G (c_M_packed 7 (by decide) (12009198 : Int64) (by decide +kernel)) mX12_packed kX12_103 ⟨Nat.le_of_ble_eq_true rfl, Nat.le_of_ble_eq_true rfl⟩ rfl hl.1 rfl (Nat.le_of_ble_eq_true rfl) ⟨Nat.le_refl _, Nat.le_refl _⟩ dX12_isWord_13 (fun H locs G => ?_)
      refine W.lcmp hx hb dX12_isWord_16 ?_
      refine lv_if_ne (tgt := 24) hx hb dX12_isWord_17 (by decide) (fun h => ?_) (fun h => ?_)
      · have hf := it_f h hf
        exact J _ _ G
      · have hf := it_t h hf
        exact absurd (Option.some.inj hf) (by decide)
  | false =>
    have hf := it_f (by decide) hf
    have J : ∀ (H : Heap) (locs : List Loc), xG s E A (wR E ad m_thrown m_trouble m_where m_tv m_tape m_taped m_size m_spot m_sort m_place m_number m_fault m_wrongAt m_word m_v m_x m_past m_kept m_acts m_images m_matchNow m_slopsNow m_matchesNow m_slopped m_seatBest m_fedBest m_slopsBest m_sawBest m_leastNow m_stableNow m_fitsNow m_someNow m_everyNow m_otherIn m_askLeft rt_seats rt_slack rt_saw rt_quarrel rt_people rt_pairs rt_forks rt_unsures rt_trieds rt_fed rt_seat rt_one rt_other rt_years rt_kind rt_unsure rt_may rt_tried rt_name) H locs → W p l e (xR 6 143) s m args below meth c H locs 0 0 (MQ below (xqI E A (wR E ad m_thrown m_trouble m_where m_tv m_tape m_taped m_size m_spot m_sort m_place m_number m_fault m_wrongAt m_word m_v m_x m_past m_kept m_acts m_images m_matchNow m_slopsNow m_matchesNow m_slopped m_seatBest m_fedBest m_slopsBest m_sawBest m_leastNow m_stableNow m_fitsNow m_someNow m_everyNow m_otherIn m_askLeft rt_seats rt_slack rt_saw rt_quarrel rt_people rt_pairs rt_forks rt_unsures rt_trieds rt_fed rt_seat rt_one rt_other rt_years rt_kind rt_unsure rt_may rt_tried rt_name) (some .boolean) R0) args s 0 0 A) (F0 m 20 ls []) := by
      intro H locs G
      refine lv_iconst (v := 1) hx hb dX12_isWord_20 (by decide) ?_
      refine lv_goto (tgt := 25) hx hb dX12_isWord_21 (by decide) ?_
      obtain rfl := Option.some.inj hf
      exact xI_ret (r := (1 : Int32)) C G rfl dX12_isWord_25
    have hf := hr
    clear hr
    refine lv_icmp_ne (tgt := 24) hx hb dX12_isWord_5 (by decide) (fun h => ?_) (fun h => ?_)
    · have hf := it_f h hf
      exact absurd (Option.some.inj hf) (by decide)
    · have hf := it_t h hf
      refine lv_aload_n hx hb dX12_isWord_8 rfl (lv_at hl 0 rfl) ?_
      refine x_get C G fX12_87.g (wR_at0) rfl dX12_isWord_9 ?_
      refine lv_aload_n hx hb dX12_isWord_12 rfl (lv_at hl 1 rfl) ?_
      refine xL_S C G (c_M_packed 7 (by decide) (12009198 : Int64) (by decide +kernel)) mX12_packed kX12_103 ⟨Nat.le_of_ble_eq_true rfl, Nat.le_of_ble_eq_true rfl⟩ rfl hl.1 rfl (Nat.le_of_ble_eq_true rfl) ⟨Nat.le_refl _, Nat.le_refl _⟩ dX12_isWord_13 (fun H locs G => ?_)
      refine W.lcmp hx hb dX12_isWord_16 ?_
      refine lv_if_ne (tgt := 24) hx hb dX12_isWord_17 (by decide) (fun h => ?_) (fun h => ?_)
      · have hf := it_f h hf
        exact absurd (Option.some.inj hf) (by decide)
      · have hf := it_t h hf
        exact J _ _ G
set_option maxHeartbeats 4000000 in
set_option maxRecDepth 100000 in
theorem c_M_isWord_m_unsure_R {l : Launch} {E : xE} {ad : Nat → Nat} {m_thrown m_trouble m_where m_taped m_size m_spot m_sort m_place m_number m_fault m_wrongAt m_acts m_images m_matchNow m_slopsNow m_matchesNow m_fedBest m_slopsBest m_sawBest m_leastNow m_stableNow m_fitsNow m_someNow m_everyNow m_askLeft rt_seats rt_slack rt_saw rt_quarrel rt_people rt_pairs rt_forks rt_unsures rt_trieds rt_fed : Int32} {m_tv : Value} {m_tape m_v m_x m_past m_kept m_slopped m_seatBest m_otherIn rt_seat rt_one rt_other rt_years rt_kind rt_unsure rt_may rt_tried : Nat → Int32} {m_word : Int64} {rt_name : Nat → Int64} {R0 : Int32} (hf : f_M_isWord (719967813 : Int64) m_sort m_word = some R0) : xI l E yX12_isWord cX12_isWord 2 (some .boolean) 6 143 [.ref (ad 0), .ref (E.2.2.1 8)] (wR E ad m_thrown m_trouble m_where m_tv m_tape m_taped m_size m_spot m_sort m_place m_number m_fault m_wrongAt m_word m_v m_x m_past m_kept m_acts m_images m_matchNow m_slopsNow m_matchesNow m_slopped m_seatBest m_fedBest m_slopsBest m_sawBest m_leastNow m_stableNow m_fitsNow m_someNow m_everyNow m_otherIn m_askLeft rt_seats rt_slack rt_saw rt_quarrel rt_people rt_pairs rt_forks rt_unsures rt_trieds rt_fed rt_seat rt_one rt_other rt_years rt_kind rt_unsure rt_may rt_tried rt_name) (wR E ad m_thrown m_trouble m_where m_tv m_tape m_taped m_size m_spot m_sort m_place m_number m_fault m_wrongAt m_word m_v m_x m_past m_kept m_acts m_images m_matchNow m_slopsNow m_matchesNow m_slopped m_seatBest m_fedBest m_slopsBest m_sawBest m_leastNow m_stableNow m_fitsNow m_someNow m_everyNow m_otherIn m_askLeft rt_seats rt_slack rt_saw rt_quarrel rt_people rt_pairs rt_forks rt_unsures rt_trieds rt_fed rt_seat rt_one rt_other rt_years rt_kind rt_unsure rt_may rt_tried rt_name) R0 := by
  refine xI_of (by decide) (Nat.le_of_ble_eq_true rfl) (fun p e s m args below meth c A C ls hl G => ?_)
  have hx := C.1
  have hb := C.2.1
  have hl : lv_has ls 2 [(0, .ref (ad 0)), (1, .ref (E.2.2.1 8))] := hl
  unfold f_M_isWord at hf
  refine lv_aload_n hx hb dX12_isWord_0 rfl (lv_at hl 0 rfl) ?_
  refine x_get C G fX12_71.g (wR_at0) rfl dX12_isWord_1 ?_
  refine lv_iconst (v := 2) hx hb dX12_isWord_4 (by decide) ?_
  obtain ⟨b1, hr, hf⟩ := bd_go hf
  cases b1 with
  | true =>
    have hf := it_t rfl hf
    have J : ∀ (H : Heap) (locs : List Loc), xG s E A (wR E ad m_thrown m_trouble m_where m_tv m_tape m_taped m_size m_spot m_sort m_place m_number m_fault m_wrongAt m_word m_v m_x m_past m_kept m_acts m_images m_matchNow m_slopsNow m_matchesNow m_slopped m_seatBest m_fedBest m_slopsBest m_sawBest m_leastNow m_stableNow m_fitsNow m_someNow m_everyNow m_otherIn m_askLeft rt_seats rt_slack rt_saw rt_quarrel rt_people rt_pairs rt_forks rt_unsures rt_trieds rt_fed rt_seat rt_one rt_other rt_years rt_kind rt_unsure rt_may rt_tried rt_name) H locs → W p l e (xR 6 143) s m args below meth c H locs 0 0 (MQ below (xqI E A (wR E ad m_thrown m_trouble m_where m_tv m_tape m_taped m_size m_spot m_sort m_place m_number m_fault m_wrongAt m_word m_v m_x m_past m_kept m_acts m_images m_matchNow m_slopsNow m_matchesNow m_slopped m_seatBest m_fedBest m_slopsBest m_sawBest m_leastNow m_stableNow m_fitsNow m_someNow m_everyNow m_otherIn m_askLeft rt_seats rt_slack rt_saw rt_quarrel rt_people rt_pairs rt_forks rt_unsures rt_trieds rt_fed rt_seat rt_one rt_other rt_years rt_kind rt_unsure rt_may rt_tried rt_name) (some .boolean) R0) args s 0 0 A) (F0 m 24 ls []) := by
      intro H locs G
      refine lv_iconst (v := 0) hx hb dX12_isWord_24 (by decide) ?_
      obtain rfl := Option.some.inj hf
      exact xI_ret (r := (0 : Int32)) C G rfl dX12_isWord_25
    have hf := hr
    clear hr
    refine lv_icmp_ne (tgt := 24) hx hb dX12_isWord_5 (by decide) (fun h => ?_) (fun h => ?_)
    · have hf := it_f h hf
      exact J _ _ G
    · have hf := it_t h hf
      refine lv_aload_n hx hb dX12_isWord_8 rfl (lv_at hl 0 rfl) ?_
      refine x_get C G fX12_87.g (wR_at0) rfl dX12_isWord_9 ?_
      refine lv_aload_n hx hb dX12_isWord_12 rfl (lv_at hl 1 rfl) ?_
      refine xL_S C G (c_M_packed 8 (by decide) (719967813 : Int64) (by decide +kernel)) mX12_packed kX12_103 ⟨Nat.le_of_ble_eq_true rfl, Nat.le_of_ble_eq_true rfl⟩ rfl hl.1 rfl (Nat.le_of_ble_eq_true rfl) ⟨Nat.le_refl _, Nat.le_refl _⟩ dX12_isWord_13 (fun H locs G => ?_)
      refine W.lcmp hx hb dX12_isWord_16 ?_
      refine lv_if_ne (tgt := 24) hx hb dX12_isWord_17 (by decide) (fun h => ?_) (fun h => ?_)
      · have hf := it_f h hf
        exact J _ _ G
      · have hf := it_t h hf
        exact absurd (Option.some.inj hf) (by decide)
  | false =>
    have hf := it_f (by decide) hf
    have J : ∀ (H : Heap) (locs : List Loc), xG s E A (wR E ad m_thrown m_trouble m_where m_tv m_tape m_taped m_size m_spot m_sort m_place m_number m_fault m_wrongAt m_word m_v m_x m_past m_kept m_acts m_images m_matchNow m_slopsNow m_matchesNow m_slopped m_seatBest m_fedBest m_slopsBest m_sawBest m_leastNow m_stableNow m_fitsNow m_someNow m_everyNow m_otherIn m_askLeft rt_seats rt_slack rt_saw rt_quarrel rt_people rt_pairs rt_forks rt_unsures rt_trieds rt_fed rt_seat rt_one rt_other rt_years rt_kind rt_unsure rt_may rt_tried rt_name) H locs → W p l e (xR 6 143) s m args below meth c H locs 0 0 (MQ below (xqI E A (wR E ad m_thrown m_trouble m_where m_tv m_tape m_taped m_size m_spot m_sort m_place m_number m_fault m_wrongAt m_word m_v m_x m_past m_kept m_acts m_images m_matchNow m_slopsNow m_matchesNow m_slopped m_seatBest m_fedBest m_slopsBest m_sawBest m_leastNow m_stableNow m_fitsNow m_someNow m_everyNow m_otherIn m_askLeft rt_seats rt_slack rt_saw rt_quarrel rt_people rt_pairs rt_forks rt_unsures rt_trieds rt_fed rt_seat rt_one rt_other rt_years rt_kind rt_unsure rt_may rt_tried rt_name) (some .boolean) R0) args s 0 0 A) (F0 m 20 ls []) := by
      intro H locs G
      refine lv_iconst (v := 1) hx hb dX12_isWord_20 (by decide) ?_
      refine lv_goto (tgt := 25) hx hb dX12_isWord_21 (by decide) ?_
      obtain rfl := Option.some.inj hf
      exact xI_ret (r := (1 : Int32)) C G rfl dX12_isWord_25
    have hf := hr
    clear hr
    refine lv_icmp_ne (tgt := 24) hx hb dX12_isWord_5 (by decide) (fun h => ?_) (fun h => ?_)
    · have hf := it_f h hf
      exact absurd (Option.some.inj hf) (by decide)
    · have hf := it_t h hf
      refine lv_aload_n hx hb dX12_isWord_8 rfl (lv_at hl 0 rfl) ?_
      refine x_get C G fX12_87.g (wR_at0) rfl dX12_isWord_9 ?_
      refine lv_aload_n hx hb dX12_isWord_12 rfl (lv_at hl 1 rfl) ?_
      refine xL_S C G (c_M_packed 8 (by decide) (719967813 : Int64) (by decide +kernel)) mX12_packed kX12_103 ⟨Nat.le_of_ble_eq_true rfl, Nat.le_of_ble_eq_true rfl⟩ rfl hl.1 rfl (Nat.le_of_ble_eq_true rfl) ⟨Nat.le_refl _, Nat.le_refl _⟩ dX12_isWord_13 (fun H locs G => ?_)
      refine W.lcmp hx hb dX12_isWord_16 ?_
      refine lv_if_ne (tgt := 24) hx hb dX12_isWord_17 (by decide) (fun h => ?_) (fun h => ?_)
      · have hf := it_f h hf
        exact absurd (Option.some.inj hf) (by decide)
      · have hf := it_t h hf
        exact J _ _ G
set_option maxHeartbeats 4000000 in
set_option maxRecDepth 100000 in
theorem c_M_isWord_m_tried_R {l : Launch} {E : xE} {ad : Nat → Nat} {m_thrown m_trouble m_where m_taped m_size m_spot m_sort m_place m_number m_fault m_wrongAt m_acts m_images m_matchNow m_slopsNow m_matchesNow m_fedBest m_slopsBest m_sawBest m_leastNow m_stableNow m_fitsNow m_someNow m_everyNow m_askLeft rt_seats rt_slack rt_saw rt_quarrel rt_people rt_pairs rt_forks rt_unsures rt_trieds rt_fed : Int32} {m_tv : Value} {m_tape m_v m_x m_past m_kept m_slopped m_seatBest m_otherIn rt_seat rt_one rt_other rt_years rt_kind rt_unsure rt_may rt_tried : Nat → Int32} {m_word : Int64} {rt_name : Nat → Int64} {R0 : Int32} (hf : f_M_isWord (21570724 : Int64) m_sort m_word = some R0) : xI l E yX12_isWord cX12_isWord 2 (some .boolean) 6 143 [.ref (ad 0), .ref (E.2.2.1 9)] (wR E ad m_thrown m_trouble m_where m_tv m_tape m_taped m_size m_spot m_sort m_place m_number m_fault m_wrongAt m_word m_v m_x m_past m_kept m_acts m_images m_matchNow m_slopsNow m_matchesNow m_slopped m_seatBest m_fedBest m_slopsBest m_sawBest m_leastNow m_stableNow m_fitsNow m_someNow m_everyNow m_otherIn m_askLeft rt_seats rt_slack rt_saw rt_quarrel rt_people rt_pairs rt_forks rt_unsures rt_trieds rt_fed rt_seat rt_one rt_other rt_years rt_kind rt_unsure rt_may rt_tried rt_name) (wR E ad m_thrown m_trouble m_where m_tv m_tape m_taped m_size m_spot m_sort m_place m_number m_fault m_wrongAt m_word m_v m_x m_past m_kept m_acts m_images m_matchNow m_slopsNow m_matchesNow m_slopped m_seatBest m_fedBest m_slopsBest m_sawBest m_leastNow m_stableNow m_fitsNow m_someNow m_everyNow m_otherIn m_askLeft rt_seats rt_slack rt_saw rt_quarrel rt_people rt_pairs rt_forks rt_unsures rt_trieds rt_fed rt_seat rt_one rt_other rt_years rt_kind rt_unsure rt_may rt_tried rt_name) R0 := by
  refine xI_of (by decide) (Nat.le_of_ble_eq_true rfl) (fun p e s m args below meth c A C ls hl G => ?_)
  have hx := C.1
  have hb := C.2.1
  have hl : lv_has ls 2 [(0, .ref (ad 0)), (1, .ref (E.2.2.1 9))] := hl
  unfold f_M_isWord at hf
  refine lv_aload_n hx hb dX12_isWord_0 rfl (lv_at hl 0 rfl) ?_
  refine x_get C G fX12_71.g (wR_at0) rfl dX12_isWord_1 ?_
  refine lv_iconst (v := 2) hx hb dX12_isWord_4 (by decide) ?_
  obtain ⟨b1, hr, hf⟩ := bd_go hf
  cases b1 with
  | true =>
    have hf := it_t rfl hf
    have J : ∀ (H : Heap) (locs : List Loc), xG s E A (wR E ad m_thrown m_trouble m_where m_tv m_tape m_taped m_size m_spot m_sort m_place m_number m_fault m_wrongAt m_word m_v m_x m_past m_kept m_acts m_images m_matchNow m_slopsNow m_matchesNow m_slopped m_seatBest m_fedBest m_slopsBest m_sawBest m_leastNow m_stableNow m_fitsNow m_someNow m_everyNow m_otherIn m_askLeft rt_seats rt_slack rt_saw rt_quarrel rt_people rt_pairs rt_forks rt_unsures rt_trieds rt_fed rt_seat rt_one rt_other rt_years rt_kind rt_unsure rt_may rt_tried rt_name) H locs → W p l e (xR 6 143) s m args below meth c H locs 0 0 (MQ below (xqI E A (wR E ad m_thrown m_trouble m_where m_tv m_tape m_taped m_size m_spot m_sort m_place m_number m_fault m_wrongAt m_word m_v m_x m_past m_kept m_acts m_images m_matchNow m_slopsNow m_matchesNow m_slopped m_seatBest m_fedBest m_slopsBest m_sawBest m_leastNow m_stableNow m_fitsNow m_someNow m_everyNow m_otherIn m_askLeft rt_seats rt_slack rt_saw rt_quarrel rt_people rt_pairs rt_forks rt_unsures rt_trieds rt_fed rt_seat rt_one rt_other rt_years rt_kind rt_unsure rt_may rt_tried rt_name) (some .boolean) R0) args s 0 0 A) (F0 m 24 ls []) := by
      intro H locs G
      refine lv_iconst (v := 0) hx hb dX12_isWord_24 (by decide) ?_
      obtain rfl := Option.some.inj hf
      exact xI_ret (r := (0 : Int32)) C G rfl dX12_isWord_25
    have hf := hr
    clear hr
    refine lv_icmp_ne (tgt := 24) hx hb dX12_isWord_5 (by decide) (fun h => ?_) (fun h => ?_)
    · have hf := it_f h hf
      exact J _ _ G
    · have hf := it_t h hf
      refine lv_aload_n hx hb dX12_isWord_8 rfl (lv_at hl 0 rfl) ?_
      refine x_get C G fX12_87.g (wR_at0) rfl dX12_isWord_9 ?_
      refine lv_aload_n hx hb dX12_isWord_12 rfl (lv_at hl 1 rfl) ?_
      refine xL_S C G (c_M_packed 9 (by decide) (21570724 : Int64) (by decide +kernel)) mX12_packed kX12_103 ⟨Nat.le_of_ble_eq_true rfl, Nat.le_of_ble_eq_true rfl⟩ rfl hl.1 rfl (Nat.le_of_ble_eq_true rfl) ⟨Nat.le_refl _, Nat.le_refl _⟩ dX12_isWord_13 (fun H locs G => ?_)
      refine W.lcmp hx hb dX12_isWord_16 ?_
      refine lv_if_ne (tgt := 24) hx hb dX12_isWord_17 (by decide) (fun h => ?_) (fun h => ?_)
      · have hf := it_f h hf
        exact J _ _ G
      · have hf := it_t h hf
        exact absurd (Option.some.inj hf) (by decide)
  | false =>
    have hf := it_f (by decide) hf
    have J : ∀ (H : Heap) (locs : List Loc), xG s E A (wR E ad m_thrown m_trouble m_where m_tv m_tape m_taped m_size m_spot m_sort m_place m_number m_fault m_wrongAt m_word m_v m_x m_past m_kept m_acts m_images m_matchNow m_slopsNow m_matchesNow m_slopped m_seatBest m_fedBest m_slopsBest m_sawBest m_leastNow m_stableNow m_fitsNow m_someNow m_everyNow m_otherIn m_askLeft rt_seats rt_slack rt_saw rt_quarrel rt_people rt_pairs rt_forks rt_unsures rt_trieds rt_fed rt_seat rt_one rt_other rt_years rt_kind rt_unsure rt_may rt_tried rt_name) H locs → W p l e (xR 6 143) s m args below meth c H locs 0 0 (MQ below (xqI E A (wR E ad m_thrown m_trouble m_where m_tv m_tape m_taped m_size m_spot m_sort m_place m_number m_fault m_wrongAt m_word m_v m_x m_past m_kept m_acts m_images m_matchNow m_slopsNow m_matchesNow m_slopped m_seatBest m_fedBest m_slopsBest m_sawBest m_leastNow m_stableNow m_fitsNow m_someNow m_everyNow m_otherIn m_askLeft rt_seats rt_slack rt_saw rt_quarrel rt_people rt_pairs rt_forks rt_unsures rt_trieds rt_fed rt_seat rt_one rt_other rt_years rt_kind rt_unsure rt_may rt_tried rt_name) (some .boolean) R0) args s 0 0 A) (F0 m 20 ls []) := by
      intro H locs G
      refine lv_iconst (v := 1) hx hb dX12_isWord_20 (by decide) ?_
      refine lv_goto (tgt := 25) hx hb dX12_isWord_21 (by decide) ?_
      obtain rfl := Option.some.inj hf
      exact xI_ret (r := (1 : Int32)) C G rfl dX12_isWord_25
    have hf := hr
    clear hr
    refine lv_icmp_ne (tgt := 24) hx hb dX12_isWord_5 (by decide) (fun h => ?_) (fun h => ?_)
    · have hf := it_f h hf
      exact absurd (Option.some.inj hf) (by decide)
    · have hf := it_t h hf
      refine lv_aload_n hx hb dX12_isWord_8 rfl (lv_at hl 0 rfl) ?_
      refine x_get C G fX12_87.g (wR_at0) rfl dX12_isWord_9 ?_
      refine lv_aload_n hx hb dX12_isWord_12 rfl (lv_at hl 1 rfl) ?_
      refine xL_S C G (c_M_packed 9 (by decide) (21570724 : Int64) (by decide +kernel)) mX12_packed kX12_103 ⟨Nat.le_of_ble_eq_true rfl, Nat.le_of_ble_eq_true rfl⟩ rfl hl.1 rfl (Nat.le_of_ble_eq_true rfl) ⟨Nat.le_refl _, Nat.le_refl _⟩ dX12_isWord_13 (fun H locs G => ?_)
      refine W.lcmp hx hb dX12_isWord_16 ?_
      refine lv_if_ne (tgt := 24) hx hb dX12_isWord_17 (by decide) (fun h => ?_) (fun h => ?_)
      · have hf := it_f h hf
        exact absurd (Option.some.inj hf) (by decide)
      · have hf := it_t h hf
        exact J _ _ G
set_option maxHeartbeats 4000000 in
set_option maxRecDepth 100000 in
theorem c_M_flaw_m_R {l : Launch} {E : xE} {ad : Nat → Nat} {m_thrown m_trouble m_where m_taped m_size m_spot m_sort m_place m_number m_fault m_wrongAt m_acts m_images m_matchNow m_slopsNow m_matchesNow m_fedBest m_slopsBest m_sawBest m_leastNow m_stableNow m_fitsNow m_someNow m_everyNow m_askLeft rt_seats rt_slack rt_saw rt_quarrel rt_people rt_pairs rt_forks rt_unsures rt_trieds rt_fed : Int32} {m_tv : Value} {m_tape m_v m_x m_past m_kept m_slopped m_seatBest m_otherIn rt_seat rt_one rt_other rt_years rt_kind rt_unsure rt_may rt_tried : Nat → Int32} {m_word : Int64} {rt_name : Nat → Int64} {l1 : Int32} {R0 : Int32 × Int32 × Int32} (hf : f_M_flaw l1 m_sort m_place m_fault m_wrongAt = some R0) : xV l E yX12_flaw cX12_flaw 2 none 0 0 [.ref (ad 0), .int l1] (wR E ad m_thrown m_trouble m_where m_tv m_tape m_taped m_size m_spot m_sort m_place m_number m_fault m_wrongAt m_word m_v m_x m_past m_kept m_acts m_images m_matchNow m_slopsNow m_matchesNow m_slopped m_seatBest m_fedBest m_slopsBest m_sawBest m_leastNow m_stableNow m_fitsNow m_someNow m_everyNow m_otherIn m_askLeft rt_seats rt_slack rt_saw rt_quarrel rt_people rt_pairs rt_forks rt_unsures rt_trieds rt_fed rt_seat rt_one rt_other rt_years rt_kind rt_unsure rt_may rt_tried rt_name) (wR E ad m_thrown m_trouble m_where m_tv m_tape m_taped m_size m_spot R0.1 m_place m_number R0.2.1 R0.2.2 m_word m_v m_x m_past m_kept m_acts m_images m_matchNow m_slopsNow m_matchesNow m_slopped m_seatBest m_fedBest m_slopsBest m_sawBest m_leastNow m_stableNow m_fitsNow m_someNow m_everyNow m_otherIn m_askLeft rt_seats rt_slack rt_saw rt_quarrel rt_people rt_pairs rt_forks rt_unsures rt_trieds rt_fed rt_seat rt_one rt_other rt_years rt_kind rt_unsure rt_may rt_tried rt_name) := by
  refine xV_of (by decide) (Nat.le_of_ble_eq_true rfl) (fun p e s m args below meth c A C ls hl G => ?_)
  have hx := C.1
  have hb := C.2.1
  have hl : lv_has ls 2 [(0, .ref (ad 0)), (1, .int l1)] := hl
  unfold f_M_flaw at hf
  refine lv_aload_n hx hb dX12_flaw_0 rfl (lv_at hl 0 rfl) ?_
  refine x_get C G fX12_71.g (wR_at0) rfl dX12_flaw_1 ?_
  refine lv_iconst (v := 5) hx hb dX12_flaw_4 (by decide) ?_
  refine lv_icmp_ne (tgt := 9) hx hb dX12_flaw_5 (by decide) (fun h => ?_) (fun h => ?_)
  · have hf := it_f h hf
    refine lv_aload_n hx hb dX12_flaw_9 rfl (lv_at hl 0 rfl) ?_
    refine lv_iload_n hx hb dX12_flaw_10 rfl (lv_at hl 1 rfl) ?_
    refine x_put (ws' := (wR E ad m_thrown m_trouble m_where m_tv m_tape m_taped m_size m_spot m_sort m_place m_number l1 m_wrongAt m_word m_v m_x m_past m_kept m_acts m_images m_matchNow m_slopsNow m_matchesNow m_slopped m_seatBest m_fedBest m_slopsBest m_sawBest m_leastNow m_stableNow m_fitsNow m_someNow m_everyNow m_otherIn m_askLeft rt_seats rt_slack rt_saw rt_quarrel rt_people rt_pairs rt_forks rt_unsures rt_trieds rt_fed rt_seat rt_one rt_other rt_years rt_kind rt_unsure rt_may rt_tried rt_name)) C G fX12_97 (wR_at0) rfl rfl (Nat.le_of_ble_eq_true rfl) wR_set_m_fault dX12_flaw_11 (fun H locs G => ?_)
    refine lv_aload_n hx hb dX12_flaw_14 rfl (lv_at hl 0 rfl) ?_
    refine lv_aload_n hx hb dX12_flaw_15 rfl (lv_at hl 0 rfl) ?_
    refine x_get C G fX12_80.g (wR_at0) rfl dX12_flaw_16 ?_
    refine x_put (ws' := (wR E ad m_thrown m_trouble m_where m_tv m_tape m_taped m_size m_spot m_sort m_place m_number l1 m_place m_word m_v m_x m_past m_kept m_acts m_images m_matchNow m_slopsNow m_matchesNow m_slopped m_seatBest m_fedBest m_slopsBest m_sawBest m_leastNow m_stableNow m_fitsNow m_someNow m_everyNow m_otherIn m_askLeft rt_seats rt_slack rt_saw rt_quarrel rt_people rt_pairs rt_forks rt_unsures rt_trieds rt_fed rt_seat rt_one rt_other rt_years rt_kind rt_unsure rt_may rt_tried rt_name)) C G fX12_100 (wR_at0) rfl rfl (Nat.le_of_ble_eq_true rfl) wR_set_m_wrongAt dX12_flaw_19 (fun H locs G => ?_)
    refine lv_aload_n hx hb dX12_flaw_22 rfl (lv_at hl 0 rfl) ?_
    refine lv_iconst (v := 5) hx hb dX12_flaw_23 (by decide) ?_
    refine x_put (ws' := (wR E ad m_thrown m_trouble m_where m_tv m_tape m_taped m_size m_spot (5 : Int32) m_place m_number l1 m_place m_word m_v m_x m_past m_kept m_acts m_images m_matchNow m_slopsNow m_matchesNow m_slopped m_seatBest m_fedBest m_slopsBest m_sawBest m_leastNow m_stableNow m_fitsNow m_someNow m_everyNow m_otherIn m_askLeft rt_seats rt_slack rt_saw rt_quarrel rt_people rt_pairs rt_forks rt_unsures rt_trieds rt_fed rt_seat rt_one rt_other rt_years rt_kind rt_unsure rt_may rt_tried rt_name)) C G fX12_71 (wR_at0) rfl rfl (Nat.le_of_ble_eq_true rfl) wR_set_m_sort dX12_flaw_24 (fun H locs G => ?_)
    obtain rfl := Option.some.inj hf
    exact xV_ret C G dX12_flaw_27
  · have hf := it_t h hf
    obtain rfl := Option.some.inj hf
    exact xV_ret C G dX12_flaw_8
set_option maxHeartbeats 4000000 in
set_option maxRecDepth 100000 in
theorem c_M_lineBegins_m_R {l : Launch} {E : xE} {ad : Nat → Nat} {m_thrown m_trouble m_where m_taped m_size m_spot m_sort m_place m_number m_fault m_wrongAt m_acts m_images m_matchNow m_slopsNow m_matchesNow m_fedBest m_slopsBest m_sawBest m_leastNow m_stableNow m_fitsNow m_someNow m_everyNow m_askLeft rt_seats rt_slack rt_saw rt_quarrel rt_people rt_pairs rt_forks rt_unsures rt_trieds rt_fed : Int32} {m_tv : Value} {m_tape m_v m_x m_past m_kept m_slopped m_seatBest m_otherIn rt_seat rt_one rt_other rt_years rt_kind rt_unsure rt_may rt_tried : Nat → Int32} {m_word : Int64} {rt_name : Nat → Int64} {l1 : Int32} {l2 : Int32} {R0 : Int32 × Int32 × Int32 × Int32 × Int32 × Int32 × Int64} (hf : f_M_lineBegins l1 l2 m_tape m_size m_spot m_sort m_place m_number m_fault m_wrongAt m_word rt_seats = some R0) : xV l E yX12_lineBegins cX12_lineBegins 3 none 2 43 [.ref (ad 0), .int l1, .int l2] (wR E ad m_thrown m_trouble m_where m_tv m_tape m_taped m_size m_spot m_sort m_place m_number m_fault m_wrongAt m_word m_v m_x m_past m_kept m_acts m_images m_matchNow m_slopsNow m_matchesNow m_slopped m_seatBest m_fedBest m_slopsBest m_sawBest m_leastNow m_stableNow m_fitsNow m_someNow m_everyNow m_otherIn m_askLeft rt_seats rt_slack rt_saw rt_quarrel rt_people rt_pairs rt_forks rt_unsures rt_trieds rt_fed rt_seat rt_one rt_other rt_years rt_kind rt_unsure rt_may rt_tried rt_name) (wR E ad m_thrown m_trouble m_where m_tv m_tape m_taped m_size R0.1 R0.2.1 R0.2.2.1 R0.2.2.2.1 R0.2.2.2.2.1 R0.2.2.2.2.2.1 R0.2.2.2.2.2.2 m_v m_x m_past m_kept m_acts m_images m_matchNow m_slopsNow m_matchesNow m_slopped m_seatBest m_fedBest m_slopsBest m_sawBest m_leastNow m_stableNow m_fitsNow m_someNow m_everyNow m_otherIn m_askLeft rt_seats rt_slack rt_saw rt_quarrel rt_people rt_pairs rt_forks rt_unsures rt_trieds rt_fed rt_seat rt_one rt_other rt_years rt_kind rt_unsure rt_may rt_tried rt_name) := by
  refine xV_of (by decide) (Nat.le_of_ble_eq_true rfl) (fun p e s m args below meth c A C ls hl G => ?_)
  have hx := C.1
  have hb := C.2.1
  have hl : lv_has ls 3 [(0, .ref (ad 0)), (1, .int l1), (2, .int l2)] := hl
  unfold f_M_lineBegins at hf
  refine lv_iload_n hx hb dX12_lineBegins_0 rfl (lv_at hl 1 rfl) ?_
  refine lv_iload_n hx hb dX12_lineBegins_1 rfl (lv_at hl 2 rfl) ?_
  obtain ⟨x1, hrx1, hf⟩ := bd_go hf
  have Jx1 : ∀ (H : Heap) (locs : List Loc) (ls : Array Slot), xG s E A (wR E ad m_thrown m_trouble m_where m_tv m_tape m_taped m_size m_spot x1.1 m_place m_number x1.2.1 x1.2.2 m_word m_v m_x m_past m_kept m_acts m_images m_matchNow m_slopsNow m_matchesNow m_slopped m_seatBest m_fedBest m_slopsBest m_sawBest m_leastNow m_stableNow m_fitsNow m_someNow m_everyNow m_otherIn m_askLeft rt_seats rt_slack rt_saw rt_quarrel rt_people rt_pairs rt_forks rt_unsures rt_trieds rt_fed rt_seat rt_one rt_other rt_years rt_kind rt_unsure rt_may rt_tried rt_name) H locs → lv_has ls 3 [(0, .ref (ad 0))] → W p l e (xR 2 43) s m args below meth c H locs 0 0 (MQ below (xqV E A (wR E ad m_thrown m_trouble m_where m_tv m_tape m_taped m_size R0.1 R0.2.1 R0.2.2.1 R0.2.2.2.1 R0.2.2.2.2.1 R0.2.2.2.2.2.1 R0.2.2.2.2.2.2 m_v m_x m_past m_kept m_acts m_images m_matchNow m_slopsNow m_matchesNow m_slopped m_seatBest m_fedBest m_slopsBest m_sawBest m_leastNow m_stableNow m_fitsNow m_someNow m_everyNow m_otherIn m_askLeft rt_seats rt_slack rt_saw rt_quarrel rt_people rt_pairs rt_forks rt_unsures rt_trieds rt_fed rt_seat rt_one rt_other rt_years rt_kind rt_unsure rt_may rt_tried rt_name)) args s 0 0 A) (F0 m 10 ls []) := by
    intro H locs ls G hl
    refine lv_aload_n hx hb dX12_lineBegins_10 rfl (lv_at hl 0 rfl) ?_
    refine x_get C G fX12_145.g (wR_at0) rfl dX12_lineBegins_11 ?_
    refine x_get C G fX12_149.g (wR_at9) rfl dX12_lineBegins_14 ?_
    obtain ⟨x2, hrx2, hf⟩ := bd_go hf
    have Jx2 : ∀ (H : Heap) (locs : List Loc) (ls : Array Slot), xG s E A (wR E ad m_thrown m_trouble m_where m_tv m_tape m_taped m_size m_spot x2.1 m_place m_number x2.2.1 x2.2.2 m_word m_v m_x m_past m_kept m_acts m_images m_matchNow m_slopsNow m_matchesNow m_slopped m_seatBest m_fedBest m_slopsBest m_sawBest m_leastNow m_stableNow m_fitsNow m_someNow m_everyNow m_otherIn m_askLeft rt_seats rt_slack rt_saw rt_quarrel rt_people rt_pairs rt_forks rt_unsures rt_trieds rt_fed rt_seat rt_one rt_other rt_years rt_kind rt_unsure rt_may rt_tried rt_name) H locs → lv_has ls 3 [(0, .ref (ad 0))] → W p l e (xR 2 43) s m args below meth c H locs 0 0 (MQ below (xqV E A (wR E ad m_thrown m_trouble m_where m_tv m_tape m_taped m_size R0.1 R0.2.1 R0.2.2.1 R0.2.2.2.1 R0.2.2.2.2.1 R0.2.2.2.2.2.1 R0.2.2.2.2.2.2 m_v m_x m_past m_kept m_acts m_images m_matchNow m_slopsNow m_matchesNow m_slopped m_seatBest m_fedBest m_slopsBest m_sawBest m_leastNow m_stableNow m_fitsNow m_someNow m_everyNow m_otherIn m_askLeft rt_seats rt_slack rt_saw rt_quarrel rt_people rt_pairs rt_forks rt_unsures rt_trieds rt_fed rt_seat rt_one rt_other rt_years rt_kind rt_unsure rt_may rt_tried rt_name)) args s 0 0 A) (F0 m 26 ls []) := by
      intro H locs ls G hl
      refine lv_aload_n hx hb dX12_lineBegins_26 rfl (lv_at hl 0 rfl) ?_
      obtain ⟨x3, hc, hf⟩ := bd_go hf
      refine xV_V C G (c_M_goesOn_m_R hc) mX12_goesOn kX12_107 (wR_at0) rfl ⟨Nat.le_of_ble_eq_true rfl, Nat.le_of_ble_eq_true rfl⟩ rfl hl.1 rfl (Nat.le_of_ble_eq_true rfl) ⟨Nat.le_refl _, Nat.le_refl _⟩ dX12_lineBegins_27 (fun H locs G => ?_)
      obtain rfl := Option.some.inj hf
      exact xV_ret C G dX12_lineBegins_30
    have hf := hrx2
    refine lv_if_ne (tgt := 26) hx hb dX12_lineBegins_17 (by decide) (fun h => ?_) (fun h => ?_)
    · have hf := it_f h hf
      obtain rfl := Option.some.inj hf
      exact Jx2 _ _ _ G (lv_sub hl [0] rfl)
    · have hf := it_t h hf
      refine lv_aload_n hx hb dX12_lineBegins_20 rfl (lv_at hl 0 rfl) ?_
      refine lv_bipush (v := 6) hx hb dX12_lineBegins_21 (by decide) ?_
      obtain ⟨x4, hc, hf⟩ := bd_go hf
      refine xV_V C G (c_M_flaw_m_R hc) mX12_flaw kX12_114 (wR_at0) rfl ⟨Nat.le_of_ble_eq_true rfl, Nat.le_of_ble_eq_true rfl⟩ rfl hl.1 rfl (Nat.le_of_ble_eq_true rfl) ⟨Nat.le_refl _, Nat.le_refl _⟩ dX12_lineBegins_23 (fun H locs G => ?_)
      obtain rfl := Option.some.inj hf
      exact Jx2 _ _ _ G (lv_sub hl [0] rfl)
  have hf := hrx1
  refine lv_icmp_ne (tgt := 10) hx hb dX12_lineBegins_2 (by decide) (fun h => ?_) (fun h => ?_)
  · have hf := it_f h hf
    obtain rfl := Option.some.inj hf
    exact Jx1 _ _ _ G (lv_sub hl [0] rfl)
  · have hf := it_t h hf
    refine lv_aload_n hx hb dX12_lineBegins_5 rfl (lv_at hl 0 rfl) ?_
    refine lv_iconst (v := 5) hx hb dX12_lineBegins_6 (by decide) ?_
    obtain ⟨x5, hc, hf⟩ := bd_go hf
    refine xV_V C G (c_M_flaw_m_R hc) mX12_flaw kX12_114 (wR_at0) rfl ⟨Nat.le_of_ble_eq_true rfl, Nat.le_of_ble_eq_true rfl⟩ rfl hl.1 rfl (Nat.le_of_ble_eq_true rfl) ⟨Nat.le_refl _, Nat.le_refl _⟩ dX12_lineBegins_7 (fun H locs G => ?_)
    obtain rfl := Option.some.inj hf
    exact Jx1 _ _ _ G (lv_sub hl [0] rfl)
set_option maxHeartbeats 4000000 in
set_option maxRecDepth 100000 in
theorem c_M_isName_m_R {l : Launch} {E : xE} {ad : Nat → Nat} {m_thrown m_trouble m_where m_taped m_size m_spot m_sort m_place m_number m_fault m_wrongAt m_acts m_images m_matchNow m_slopsNow m_matchesNow m_fedBest m_slopsBest m_sawBest m_leastNow m_stableNow m_fitsNow m_someNow m_everyNow m_askLeft rt_seats rt_slack rt_saw rt_quarrel rt_people rt_pairs rt_forks rt_unsures rt_trieds rt_fed : Int32} {m_tv : Value} {m_tape m_v m_x m_past m_kept m_slopped m_seatBest m_otherIn rt_seat rt_one rt_other rt_years rt_kind rt_unsure rt_may rt_tried : Nat → Int32} {m_word : Int64} {rt_name : Nat → Int64} {R0 : Int32} (hf : f_M_isName m_sort m_word = some R0) : xI l E yX12_isName cX12_isName 1 (some .boolean) 7 164 [.ref (ad 0)] (wR E ad m_thrown m_trouble m_where m_tv m_tape m_taped m_size m_spot m_sort m_place m_number m_fault m_wrongAt m_word m_v m_x m_past m_kept m_acts m_images m_matchNow m_slopsNow m_matchesNow m_slopped m_seatBest m_fedBest m_slopsBest m_sawBest m_leastNow m_stableNow m_fitsNow m_someNow m_everyNow m_otherIn m_askLeft rt_seats rt_slack rt_saw rt_quarrel rt_people rt_pairs rt_forks rt_unsures rt_trieds rt_fed rt_seat rt_one rt_other rt_years rt_kind rt_unsure rt_may rt_tried rt_name) (wR E ad m_thrown m_trouble m_where m_tv m_tape m_taped m_size m_spot m_sort m_place m_number m_fault m_wrongAt m_word m_v m_x m_past m_kept m_acts m_images m_matchNow m_slopsNow m_matchesNow m_slopped m_seatBest m_fedBest m_slopsBest m_sawBest m_leastNow m_stableNow m_fitsNow m_someNow m_everyNow m_otherIn m_askLeft rt_seats rt_slack rt_saw rt_quarrel rt_people rt_pairs rt_forks rt_unsures rt_trieds rt_fed rt_seat rt_one rt_other rt_years rt_kind rt_unsure rt_may rt_tried rt_name) R0 := by
  refine xI_of (by decide) (Nat.le_of_ble_eq_true rfl) (fun p e s m args below meth c A C ls hl G => ?_)
  have hx := C.1
  have hb := C.2.1
  have hl : lv_has ls 1 [(0, .ref (ad 0))] := hl
  unfold f_M_isName at hf
  refine lv_aload_n hx hb dX12_isName_0 rfl (lv_at hl 0 rfl) ?_
  refine x_get C G fX12_71.g (wR_at0) rfl dX12_isName_1 ?_
  refine lv_iconst (v := 2) hx hb dX12_isName_4 (by decide) ?_
  obtain ⟨b1, hr, hf⟩ := bd_go hf
  cases b1 with
  | true =>
    have hf := it_t rfl hf
    have J : ∀ (H : Heap) (locs : List Loc), xG s E A (wR E ad m_thrown m_trouble m_where m_tv m_tape m_taped m_size m_spot m_sort m_place m_number m_fault m_wrongAt m_word m_v m_x m_past m_kept m_acts m_images m_matchNow m_slopsNow m_matchesNow m_slopped m_seatBest m_fedBest m_slopsBest m_sawBest m_leastNow m_stableNow m_fitsNow m_someNow m_everyNow m_otherIn m_askLeft rt_seats rt_slack rt_saw rt_quarrel rt_people rt_pairs rt_forks rt_unsures rt_trieds rt_fed rt_seat rt_one rt_other rt_years rt_kind rt_unsure rt_may rt_tried rt_name) H locs → W p l e (xR 7 164) s m args below meth c H locs 0 0 (MQ below (xqI E A (wR E ad m_thrown m_trouble m_where m_tv m_tape m_taped m_size m_spot m_sort m_place m_number m_fault m_wrongAt m_word m_v m_x m_past m_kept m_acts m_images m_matchNow m_slopsNow m_matchesNow m_slopped m_seatBest m_fedBest m_slopsBest m_sawBest m_leastNow m_stableNow m_fitsNow m_someNow m_everyNow m_otherIn m_askLeft rt_seats rt_slack rt_saw rt_quarrel rt_people rt_pairs rt_forks rt_unsures rt_trieds rt_fed rt_seat rt_one rt_other rt_years rt_kind rt_unsure rt_may rt_tried rt_name) (some .boolean) R0) args s 0 0 A) (F0 m 35 ls []) := by
      intro H locs G
      refine lv_iconst (v := 0) hx hb dX12_isName_35 (by decide) ?_
      obtain rfl := Option.some.inj hf
      exact xI_ret (r := (0 : Int32)) C G rfl dX12_isName_36
    have hf := hr
    clear hr
    refine lv_icmp_ne (tgt := 35) hx hb dX12_isName_5 (by decide) (fun h => ?_) (fun h => ?_)
    · have hf := it_f h hf
      exact J _ _ G
    · have hf := it_t h hf
      refine lv_aload_n hx hb dX12_isName_8 rfl (lv_at hl 0 rfl) ?_
      refine va_ldcS hx hb C.2.2.2.1 (C.2.2.2.2.2.2.2.2.2.2.1 0 (by decide)) dX12_isName_9 ?_
      obtain ⟨x2, hc, hf⟩ := bd_go hf
      refine xI_V C G (c_M_isWord_m_table_R hc) mX12_isWord kX12_110 (wR_at0) rfl ⟨Nat.le_of_ble_eq_true rfl, Nat.le_of_ble_eq_true rfl⟩ rfl hl.1 rfl (Nat.le_of_ble_eq_true rfl) ⟨Nat.le_refl _, Nat.le_refl _⟩ dX12_isName_11 (fun hz2 H locs G => ?_)
      refine lv_if_ne (tgt := 35) hx hb dX12_isName_14 (by decide) (fun h => ?_) (fun h => ?_)
      · have hf := it_f h hf
        exact J _ _ G
      · have hf := it_t h hf
        refine lv_aload_n hx hb dX12_isName_17 rfl (lv_at hl 0 rfl) ?_
        refine va_ldcS hx hb C.2.2.2.1 (C.2.2.2.2.2.2.2.2.2.2.1 5 (by decide)) dX12_isName_18 ?_
        obtain ⟨x3, hc, hf⟩ := bd_go hf
        refine xI_V C G (c_M_isWord_m_person_R hc) mX12_isWord kX12_110 (wR_at0) rfl ⟨Nat.le_of_ble_eq_true rfl, Nat.le_of_ble_eq_true rfl⟩ rfl hl.1 rfl (Nat.le_of_ble_eq_true rfl) ⟨Nat.le_refl _, Nat.le_refl _⟩ dX12_isName_20 (fun hz3 H locs G => ?_)
        refine lv_if_ne (tgt := 35) hx hb dX12_isName_23 (by decide) (fun h => ?_) (fun h => ?_)
        · have hf := it_f h hf
          exact J _ _ G
        · have hf := it_t h hf
          refine lv_aload_n hx hb dX12_isName_26 rfl (lv_at hl 0 rfl) ?_
          refine va_ldcS hx hb C.2.2.2.1 (C.2.2.2.2.2.2.2.2.2.2.1 6 (by decide)) dX12_isName_27 ?_
          obtain ⟨x4, hc, hf⟩ := bd_go hf
          refine xI_V C G (c_M_isWord_m_fork_R hc) mX12_isWord kX12_110 (wR_at0) rfl ⟨Nat.le_of_ble_eq_true rfl, Nat.le_of_ble_eq_true rfl⟩ rfl hl.1 rfl (Nat.le_of_ble_eq_true rfl) ⟨Nat.le_refl _, Nat.le_refl _⟩ dX12_isName_29 (fun hz4 H locs G => ?_)
          refine lv_if_eq (tgt := 37) hx hb dX12_isName_32 (by decide) (fun h => ?_) (fun h => ?_)
          · have hf := it_t h hf
            exact absurd (Option.some.inj hf) (by decide)
          · have hf := it_f h hf
            exact J _ _ G
  | false =>
    have hf := it_f (by decide) hf
    have J : ∀ (H : Heap) (locs : List Loc), xG s E A (wR E ad m_thrown m_trouble m_where m_tv m_tape m_taped m_size m_spot m_sort m_place m_number m_fault m_wrongAt m_word m_v m_x m_past m_kept m_acts m_images m_matchNow m_slopsNow m_matchesNow m_slopped m_seatBest m_fedBest m_slopsBest m_sawBest m_leastNow m_stableNow m_fitsNow m_someNow m_everyNow m_otherIn m_askLeft rt_seats rt_slack rt_saw rt_quarrel rt_people rt_pairs rt_forks rt_unsures rt_trieds rt_fed rt_seat rt_one rt_other rt_years rt_kind rt_unsure rt_may rt_tried rt_name) H locs → W p l e (xR 7 164) s m args below meth c H locs 0 0 (MQ below (xqI E A (wR E ad m_thrown m_trouble m_where m_tv m_tape m_taped m_size m_spot m_sort m_place m_number m_fault m_wrongAt m_word m_v m_x m_past m_kept m_acts m_images m_matchNow m_slopsNow m_matchesNow m_slopped m_seatBest m_fedBest m_slopsBest m_sawBest m_leastNow m_stableNow m_fitsNow m_someNow m_everyNow m_otherIn m_askLeft rt_seats rt_slack rt_saw rt_quarrel rt_people rt_pairs rt_forks rt_unsures rt_trieds rt_fed rt_seat rt_one rt_other rt_years rt_kind rt_unsure rt_may rt_tried rt_name) (some .boolean) R0) args s 0 0 A) (F0 m 37 ls []) := by
      intro H locs G
      refine lv_aload_n hx hb dX12_isName_37 rfl (lv_at hl 0 rfl) ?_
      refine va_ldcS hx hb C.2.2.2.1 (C.2.2.2.2.2.2.2.2.2.2.1 7 (by decide)) dX12_isName_38 ?_
      obtain ⟨x5, hc, hf⟩ := bd_go hf
      refine xI_V C G (c_M_isWord_m_known_R hc) mX12_isWord kX12_110 (wR_at0) rfl ⟨Nat.le_of_ble_eq_true rfl, Nat.le_of_ble_eq_true rfl⟩ rfl hl.1 rfl (Nat.le_of_ble_eq_true rfl) ⟨Nat.le_refl _, Nat.le_refl _⟩ dX12_isName_40 (fun hz5 H locs G => ?_)
      obtain ⟨b6, hr, hf⟩ := bd_go hf
      cases b6 with
      | true =>
        have hf := it_t rfl hf
        have J : ∀ (H : Heap) (locs : List Loc), xG s E A (wR E ad m_thrown m_trouble m_where m_tv m_tape m_taped m_size m_spot m_sort m_place m_number m_fault m_wrongAt m_word m_v m_x m_past m_kept m_acts m_images m_matchNow m_slopsNow m_matchesNow m_slopped m_seatBest m_fedBest m_slopsBest m_sawBest m_leastNow m_stableNow m_fitsNow m_someNow m_everyNow m_otherIn m_askLeft rt_seats rt_slack rt_saw rt_quarrel rt_people rt_pairs rt_forks rt_unsures rt_trieds rt_fed rt_seat rt_one rt_other rt_years rt_kind rt_unsure rt_may rt_tried rt_name) H locs → W p l e (xR 7 164) s m args below meth c H locs 0 0 (MQ below (xqI E A (wR E ad m_thrown m_trouble m_where m_tv m_tape m_taped m_size m_spot m_sort m_place m_number m_fault m_wrongAt m_word m_v m_x m_past m_kept m_acts m_images m_matchNow m_slopsNow m_matchesNow m_slopped m_seatBest m_fedBest m_slopsBest m_sawBest m_leastNow m_stableNow m_fitsNow m_someNow m_everyNow m_otherIn m_askLeft rt_seats rt_slack rt_saw rt_quarrel rt_people rt_pairs rt_forks rt_unsures rt_trieds rt_fed rt_seat rt_one rt_other rt_years rt_kind rt_unsure rt_may rt_tried rt_name) (some .boolean) R0) args s 0 0 A) (F0 m 68 ls []) := by
          intro H locs G
          refine lv_iconst (v := 0) hx hb dX12_isName_68 (by decide) ?_
          obtain rfl := Option.some.inj hf
          exact xI_ret (r := (0 : Int32)) C G rfl dX12_isName_69
        have hf := hr
        clear hr
        refine lv_if_ne (tgt := 68) hx hb dX12_isName_43 (by decide) (fun h => ?_) (fun h => ?_)
        · have hf := it_f h hf
          exact J _ _ G
        · have hf := it_t h hf
          refine lv_aload_n hx hb dX12_isName_46 rfl (lv_at hl 0 rfl) ?_
          refine va_ldcS hx hb C.2.2.2.1 (C.2.2.2.2.2.2.2.2.2.2.1 8 (by decide)) dX12_isName_47 ?_
          obtain ⟨x7, hc, hf⟩ := bd_go hf
          refine xI_V C G (c_M_isWord_m_unsure_R hc) mX12_isWord kX12_110 (wR_at0) rfl ⟨Nat.le_of_ble_eq_true rfl, Nat.le_of_ble_eq_true rfl⟩ rfl hl.1 rfl (Nat.le_of_ble_eq_true rfl) ⟨Nat.le_refl _, Nat.le_refl _⟩ dX12_isName_49 (fun hz7 H locs G => ?_)
          refine lv_if_ne (tgt := 68) hx hb dX12_isName_52 (by decide) (fun h => ?_) (fun h => ?_)
          · have hf := it_f h hf
            exact J _ _ G
          · have hf := it_t h hf
            refine lv_aload_n hx hb dX12_isName_55 rfl (lv_at hl 0 rfl) ?_
            refine va_ldcS hx hb C.2.2.2.1 (C.2.2.2.2.2.2.2.2.2.2.1 9 (by decide)) dX12_isName_56 ?_
            obtain ⟨x8, hc, hf⟩ := bd_go hf
            refine xI_V C G (c_M_isWord_m_tried_R hc) mX12_isWord kX12_110 (wR_at0) rfl ⟨Nat.le_of_ble_eq_true rfl, Nat.le_of_ble_eq_true rfl⟩ rfl hl.1 rfl (Nat.le_of_ble_eq_true rfl) ⟨Nat.le_refl _, Nat.le_refl _⟩ dX12_isName_58 (fun hz8 H locs G => ?_)
            refine lv_if_ne (tgt := 68) hx hb dX12_isName_61 (by decide) (fun h => ?_) (fun h => ?_)
            · have hf := it_f h hf
              exact J _ _ G
            · have hf := it_t h hf
              exact absurd (Option.some.inj hf) (by decide)
      | false =>
        have hf := it_f (by decide) hf
        have J : ∀ (H : Heap) (locs : List Loc), xG s E A (wR E ad m_thrown m_trouble m_where m_tv m_tape m_taped m_size m_spot m_sort m_place m_number m_fault m_wrongAt m_word m_v m_x m_past m_kept m_acts m_images m_matchNow m_slopsNow m_matchesNow m_slopped m_seatBest m_fedBest m_slopsBest m_sawBest m_leastNow m_stableNow m_fitsNow m_someNow m_everyNow m_otherIn m_askLeft rt_seats rt_slack rt_saw rt_quarrel rt_people rt_pairs rt_forks rt_unsures rt_trieds rt_fed rt_seat rt_one rt_other rt_years rt_kind rt_unsure rt_may rt_tried rt_name) H locs → W p l e (xR 7 164) s m args below meth c H locs 0 0 (MQ below (xqI E A (wR E ad m_thrown m_trouble m_where m_tv m_tape m_taped m_size m_spot m_sort m_place m_number m_fault m_wrongAt m_word m_v m_x m_past m_kept m_acts m_images m_matchNow m_slopsNow m_matchesNow m_slopped m_seatBest m_fedBest m_slopsBest m_sawBest m_leastNow m_stableNow m_fitsNow m_someNow m_everyNow m_otherIn m_askLeft rt_seats rt_slack rt_saw rt_quarrel rt_people rt_pairs rt_forks rt_unsures rt_trieds rt_fed rt_seat rt_one rt_other rt_years rt_kind rt_unsure rt_may rt_tried rt_name) (some .boolean) R0) args s 0 0 A) (F0 m 64 ls []) := by
          intro H locs G
          refine lv_iconst (v := 1) hx hb dX12_isName_64 (by decide) ?_
          refine lv_goto (tgt := 69) hx hb dX12_isName_65 (by decide) ?_
          obtain rfl := Option.some.inj hf
          exact xI_ret (r := (1 : Int32)) C G rfl dX12_isName_69
        have hf := hr
        clear hr
        refine lv_if_ne (tgt := 68) hx hb dX12_isName_43 (by decide) (fun h => ?_) (fun h => ?_)
        · have hf := it_f h hf
          exact absurd (Option.some.inj hf) (by decide)
        · have hf := it_t h hf
          refine lv_aload_n hx hb dX12_isName_46 rfl (lv_at hl 0 rfl) ?_
          refine va_ldcS hx hb C.2.2.2.1 (C.2.2.2.2.2.2.2.2.2.2.1 8 (by decide)) dX12_isName_47 ?_
          obtain ⟨x9, hc, hf⟩ := bd_go hf
          refine xI_V C G (c_M_isWord_m_unsure_R hc) mX12_isWord kX12_110 (wR_at0) rfl ⟨Nat.le_of_ble_eq_true rfl, Nat.le_of_ble_eq_true rfl⟩ rfl hl.1 rfl (Nat.le_of_ble_eq_true rfl) ⟨Nat.le_refl _, Nat.le_refl _⟩ dX12_isName_49 (fun hz9 H locs G => ?_)
          refine lv_if_ne (tgt := 68) hx hb dX12_isName_52 (by decide) (fun h => ?_) (fun h => ?_)
          · have hf := it_f h hf
            exact absurd (Option.some.inj hf) (by decide)
          · have hf := it_t h hf
            refine lv_aload_n hx hb dX12_isName_55 rfl (lv_at hl 0 rfl) ?_
            refine va_ldcS hx hb C.2.2.2.1 (C.2.2.2.2.2.2.2.2.2.2.1 9 (by decide)) dX12_isName_56 ?_
            obtain ⟨x10, hc, hf⟩ := bd_go hf
            refine xI_V C G (c_M_isWord_m_tried_R hc) mX12_isWord kX12_110 (wR_at0) rfl ⟨Nat.le_of_ble_eq_true rfl, Nat.le_of_ble_eq_true rfl⟩ rfl hl.1 rfl (Nat.le_of_ble_eq_true rfl) ⟨Nat.le_refl _, Nat.le_refl _⟩ dX12_isName_58 (fun hz10 H locs G => ?_)
            refine lv_if_ne (tgt := 68) hx hb dX12_isName_61 (by decide) (fun h => ?_) (fun h => ?_)
            · have hf := it_f h hf
              exact absurd (Option.some.inj hf) (by decide)
            · have hf := it_t h hf
              exact J _ _ G
    have hf := hr
    clear hr
    refine lv_icmp_ne (tgt := 35) hx hb dX12_isName_5 (by decide) (fun h => ?_) (fun h => ?_)
    · have hf := it_f h hf
      exact absurd (Option.some.inj hf) (by decide)
    · have hf := it_t h hf
      refine lv_aload_n hx hb dX12_isName_8 rfl (lv_at hl 0 rfl) ?_
      refine va_ldcS hx hb C.2.2.2.1 (C.2.2.2.2.2.2.2.2.2.2.1 0 (by decide)) dX12_isName_9 ?_
      obtain ⟨x11, hc, hf⟩ := bd_go hf
      refine xI_V C G (c_M_isWord_m_table_R hc) mX12_isWord kX12_110 (wR_at0) rfl ⟨Nat.le_of_ble_eq_true rfl, Nat.le_of_ble_eq_true rfl⟩ rfl hl.1 rfl (Nat.le_of_ble_eq_true rfl) ⟨Nat.le_refl _, Nat.le_refl _⟩ dX12_isName_11 (fun hz11 H locs G => ?_)
      refine lv_if_ne (tgt := 35) hx hb dX12_isName_14 (by decide) (fun h => ?_) (fun h => ?_)
      · have hf := it_f h hf
        exact absurd (Option.some.inj hf) (by decide)
      · have hf := it_t h hf
        refine lv_aload_n hx hb dX12_isName_17 rfl (lv_at hl 0 rfl) ?_
        refine va_ldcS hx hb C.2.2.2.1 (C.2.2.2.2.2.2.2.2.2.2.1 5 (by decide)) dX12_isName_18 ?_
        obtain ⟨x12, hc, hf⟩ := bd_go hf
        refine xI_V C G (c_M_isWord_m_person_R hc) mX12_isWord kX12_110 (wR_at0) rfl ⟨Nat.le_of_ble_eq_true rfl, Nat.le_of_ble_eq_true rfl⟩ rfl hl.1 rfl (Nat.le_of_ble_eq_true rfl) ⟨Nat.le_refl _, Nat.le_refl _⟩ dX12_isName_20 (fun hz12 H locs G => ?_)
        refine lv_if_ne (tgt := 35) hx hb dX12_isName_23 (by decide) (fun h => ?_) (fun h => ?_)
        · have hf := it_f h hf
          exact absurd (Option.some.inj hf) (by decide)
        · have hf := it_t h hf
          refine lv_aload_n hx hb dX12_isName_26 rfl (lv_at hl 0 rfl) ?_
          refine va_ldcS hx hb C.2.2.2.1 (C.2.2.2.2.2.2.2.2.2.2.1 6 (by decide)) dX12_isName_27 ?_
          obtain ⟨x13, hc, hf⟩ := bd_go hf
          refine xI_V C G (c_M_isWord_m_fork_R hc) mX12_isWord kX12_110 (wR_at0) rfl ⟨Nat.le_of_ble_eq_true rfl, Nat.le_of_ble_eq_true rfl⟩ rfl hl.1 rfl (Nat.le_of_ble_eq_true rfl) ⟨Nat.le_refl _, Nat.le_refl _⟩ dX12_isName_29 (fun hz13 H locs G => ?_)
          refine lv_if_eq (tgt := 37) hx hb dX12_isName_32 (by decide) (fun h => ?_) (fun h => ?_)
          · have hf := it_t h hf
            exact J _ _ G
          · have hf := it_f h hf
            exact absurd (Option.some.inj hf) (by decide)
set_option maxHeartbeats 4000000 in
set_option maxRecDepth 100000 in
theorem w_Tab_find_rt_R_L2 {p : Program} {l : Launch} {e : Env} {s : State} {m : MethodId} {args : Array Value} {below : List Frame} {meth : Method} {c : Code} {A : Nat → Prop} {E : xE} {ad : Nat → Nat} {m_thrown m_trouble m_where m_taped m_size m_spot m_sort m_place m_number m_fault m_wrongAt m_acts m_images m_matchNow m_slopsNow m_matchesNow m_fedBest m_slopsBest m_sawBest m_leastNow m_stableNow m_fitsNow m_someNow m_everyNow m_askLeft rt_seats rt_slack rt_saw rt_quarrel rt_people rt_pairs rt_forks rt_unsures rt_trieds rt_fed : Int32} {m_tv : Value} {m_tape m_v m_x m_past m_kept m_slopped m_seatBest m_otherIn rt_seat rt_one rt_other rt_years rt_kind rt_unsure rt_may rt_tried : Nat → Int32} {m_word : Int64} {rt_name : Nat → Int64} {l1 : Int64} {o : (Int32) ⊕ (Unit)} {R0 : Int32} (C : xC p s m args meth c cX11_find 4 RX11 E A (some .int)) (Jr : ∀ r, o = .inl r → r = R0) (J : ∀ t, o = .inr t → ∀ (H : Heap) (locs : List Loc) (ls : Array Slot), xG s E A (wR E ad m_thrown m_trouble m_where m_tv m_tape m_taped m_size m_spot m_sort m_place m_number m_fault m_wrongAt m_word m_v m_x m_past m_kept m_acts m_images m_matchNow m_slopsNow m_matchesNow m_slopped m_seatBest m_fedBest m_slopsBest m_sawBest m_leastNow m_stableNow m_fitsNow m_someNow m_everyNow m_otherIn m_askLeft rt_seats rt_slack rt_saw rt_quarrel rt_people rt_pairs rt_forks rt_unsures rt_trieds rt_fed rt_seat rt_one rt_other rt_years rt_kind rt_unsure rt_may rt_tried rt_name) H locs → lv_has ls 4 [] → W p l e (xR 0 0) s m args below meth c H locs 0 0 (MQ below (xqI E A (wR E ad m_thrown m_trouble m_where m_tv m_tape m_taped m_size m_spot m_sort m_place m_number m_fault m_wrongAt m_word m_v m_x m_past m_kept m_acts m_images m_matchNow m_slopsNow m_matchesNow m_slopped m_seatBest m_fedBest m_slopsBest m_sawBest m_leastNow m_stableNow m_fitsNow m_someNow m_everyNow m_otherIn m_askLeft rt_seats rt_slack rt_saw rt_quarrel rt_people rt_pairs rt_forks rt_unsures rt_trieds rt_fed rt_seat rt_one rt_other rt_years rt_kind rt_unsure rt_may rt_tried rt_name) (some .int) R0) args s 0 0 A) (F0 m 29 ls [])) :
    ∀ (n : Nat) (l3 : Int32) (H : Heap) (locs : List Loc) (ls : Array Slot), xG s E A (wR E ad m_thrown m_trouble m_where m_tv m_tape m_taped m_size m_spot m_sort m_place m_number m_fault m_wrongAt m_word m_v m_x m_past m_kept m_acts m_images m_matchNow m_slopsNow m_matchesNow m_slopped m_seatBest m_fedBest m_slopsBest m_sawBest m_leastNow m_stableNow m_fitsNow m_someNow m_everyNow m_otherIn m_askLeft rt_seats rt_slack rt_saw rt_quarrel rt_people rt_pairs rt_forks rt_unsures rt_trieds rt_fed rt_seat rt_one rt_other rt_years rt_kind rt_unsure rt_may rt_tried rt_name) H locs → lv_has ls 4 [(0, .ref (ad 9)), (1, .long l1), (3, .int l3)] → f_Tab_find_L2 l1 rt_people rt_name n l3 = some o → W p l e (xR 0 0) s m args below meth c H locs 0 0 (MQ below (xqI E A (wR E ad m_thrown m_trouble m_where m_tv m_tape m_taped m_size m_spot m_sort m_place m_number m_fault m_wrongAt m_word m_v m_x m_past m_kept m_acts m_images m_matchNow m_slopsNow m_matchesNow m_slopped m_seatBest m_fedBest m_slopsBest m_sawBest m_leastNow m_stableNow m_fitsNow m_someNow m_everyNow m_otherIn m_askLeft rt_seats rt_slack rt_saw rt_quarrel rt_people rt_pairs rt_forks rt_unsures rt_trieds rt_fed rt_seat rt_one rt_other rt_years rt_kind rt_unsure rt_may rt_tried rt_name) (some .int) R0) args s 0 0 A) (F0 m 2 ls []) := by
  have hx := C.1
  have hb := C.2.1
  intro n
  induction n with
  | zero =>
    intro l3 H locs ls G hl hf
    exact nomatch (show (none : Option ((Int32) ⊕ (Unit))) = some o from hf)
  | succ n ih =>
    intro l3 H locs ls G hl hf
    rw [f_Tab_find_L2] at hf
    refine lv_iload_n hx hb dX11_find_2 rfl (lv_at hl 2 rfl) ?_
    refine lv_aload_n hx hb dX11_find_3 rfl (lv_at hl 0 rfl) ?_
    refine x_get C G fX11_40.g (wR_at9) rfl dX11_find_4 ?_
    refine lv_icmp_ge (tgt := 29) hx hb dX11_find_7 (by decide) (fun h => ?_) (fun h => ?_)
    · have hf := it_t h hf
      exact J _ (Option.some.inj hf).symm _ _ _ G (lv_sub hl [] rfl)
    · have hf := it_f h hf
      refine lv_aload_n hx hb dX11_find_10 rfl (lv_at hl 0 rfl) ?_
      refine x_get C G fX11_36 (wR_at9) rfl dX11_find_11 ?_
      refine lv_iload_n hx hb dX11_find_14 rfl (lv_at hl 2 rfl) ?_
      have hi := ck_in hf
      have hf := ck_go hf
      refine x_lald C G (wR_at18) hi dX11_find_15 ?_
      refine lv_lload_n hx hb dX11_find_16 rfl (lv_at hl 1 rfl) ?_
      refine W.lcmp hx hb dX11_find_17 ?_
      refine lv_if_ne (tgt := 23) hx hb dX11_find_18 (by decide) (fun h => ?_) (fun h => ?_)
      · have hf := it_f h hf
        obtain ⟨x1, ex1⟩ : ∃ z : Int32, z = l3 + (1 : Int32) := ⟨_, rfl⟩
        have hf := lt_go ex1 hf
        refine lv_iinc (v := x1) (lv' := [(3, .int x1), (0, .ref (ad 9)), (1, .long l1)]) hx hb dX11_find_23 hl (k := 2) rfl (by rw [ex1]; rfl) (by decide) rfl (fun ls hl => ?_)
        refine lv_goto (tgt := 2) hx hb dX11_find_26 (by decide) ?_
        exact ih x1 _ _ _ G (lv_sub hl [1, 2, 0] rfl) hf
      · have hf := it_t h hf
        refine lv_iload_n hx hb dX11_find_21 rfl (lv_at hl 2 rfl) ?_
        obtain rfl := Jr _ (Option.some.inj hf).symm
        exact xI_ret C G rfl dX11_find_22
set_option maxHeartbeats 4000000 in
set_option maxRecDepth 100000 in
theorem c_Tab_find_rt_R {l : Launch} {E : xE} {ad : Nat → Nat} {m_thrown m_trouble m_where m_taped m_size m_spot m_sort m_place m_number m_fault m_wrongAt m_acts m_images m_matchNow m_slopsNow m_matchesNow m_fedBest m_slopsBest m_sawBest m_leastNow m_stableNow m_fitsNow m_someNow m_everyNow m_askLeft rt_seats rt_slack rt_saw rt_quarrel rt_people rt_pairs rt_forks rt_unsures rt_trieds rt_fed : Int32} {m_tv : Value} {m_tape m_v m_x m_past m_kept m_slopped m_seatBest m_otherIn rt_seat rt_one rt_other rt_years rt_kind rt_unsure rt_may rt_tried : Nat → Int32} {m_word : Int64} {rt_name : Nat → Int64} {l1 : Int64} {R0 : Int32} (hf : f_Tab_find l1 rt_people rt_name = some R0) : xI l E yX11_find cX11_find 4 (some .int) 0 0 [.ref (ad 9), .long l1] (wR E ad m_thrown m_trouble m_where m_tv m_tape m_taped m_size m_spot m_sort m_place m_number m_fault m_wrongAt m_word m_v m_x m_past m_kept m_acts m_images m_matchNow m_slopsNow m_matchesNow m_slopped m_seatBest m_fedBest m_slopsBest m_sawBest m_leastNow m_stableNow m_fitsNow m_someNow m_everyNow m_otherIn m_askLeft rt_seats rt_slack rt_saw rt_quarrel rt_people rt_pairs rt_forks rt_unsures rt_trieds rt_fed rt_seat rt_one rt_other rt_years rt_kind rt_unsure rt_may rt_tried rt_name) (wR E ad m_thrown m_trouble m_where m_tv m_tape m_taped m_size m_spot m_sort m_place m_number m_fault m_wrongAt m_word m_v m_x m_past m_kept m_acts m_images m_matchNow m_slopsNow m_matchesNow m_slopped m_seatBest m_fedBest m_slopsBest m_sawBest m_leastNow m_stableNow m_fitsNow m_someNow m_everyNow m_otherIn m_askLeft rt_seats rt_slack rt_saw rt_quarrel rt_people rt_pairs rt_forks rt_unsures rt_trieds rt_fed rt_seat rt_one rt_other rt_years rt_kind rt_unsure rt_may rt_tried rt_name) R0 := by
  refine xI_of (by decide) (Nat.le_of_ble_eq_true rfl) (fun p e s m args below meth c A C ls hl G => ?_)
  have hx := C.1
  have hb := C.2.1
  have hl : lv_has ls 4 [(0, .ref (ad 9)), (1, .long l1)] := hl
  unfold f_Tab_find at hf
  refine lv_iconst (v := 0) hx hb dX11_find_0 (by decide) ?_
  refine lv_istore_n (lv' := [(3, .int (0 : Int32)), (0, .ref (ad 9)), (1, .long l1)]) hx hb dX11_find_1 rfl hl (by decide) rfl (fun ls hl => ?_)
  obtain ⟨ox2, hr, hf⟩ := bd_go hf
  have Jx2 : ∀ x2, ox2 = .inr x2 → ∀ (H : Heap) (locs : List Loc) (ls : Array Slot), xG s E A (wR E ad m_thrown m_trouble m_where m_tv m_tape m_taped m_size m_spot m_sort m_place m_number m_fault m_wrongAt m_word m_v m_x m_past m_kept m_acts m_images m_matchNow m_slopsNow m_matchesNow m_slopped m_seatBest m_fedBest m_slopsBest m_sawBest m_leastNow m_stableNow m_fitsNow m_someNow m_everyNow m_otherIn m_askLeft rt_seats rt_slack rt_saw rt_quarrel rt_people rt_pairs rt_forks rt_unsures rt_trieds rt_fed rt_seat rt_one rt_other rt_years rt_kind rt_unsure rt_may rt_tried rt_name) H locs → lv_has ls 4 [] → W p l e (xR 0 0) s m args below meth c H locs 0 0 (MQ below (xqI E A (wR E ad m_thrown m_trouble m_where m_tv m_tape m_taped m_size m_spot m_sort m_place m_number m_fault m_wrongAt m_word m_v m_x m_past m_kept m_acts m_images m_matchNow m_slopsNow m_matchesNow m_slopped m_seatBest m_fedBest m_slopsBest m_sawBest m_leastNow m_stableNow m_fitsNow m_someNow m_everyNow m_otherIn m_askLeft rt_seats rt_slack rt_saw rt_quarrel rt_people rt_pairs rt_forks rt_unsures rt_trieds rt_fed rt_seat rt_one rt_other rt_years rt_kind rt_unsure rt_may rt_tried rt_name) (some .int) R0) args s 0 0 A) (F0 m 29 ls []) := by
    intro x2 hq H locs ls G hl
    subst hq
    have hf := sm_r hf
    refine lv_iconst (v := -1) hx hb dX11_find_29 (by decide) ?_
    obtain rfl := Option.some.inj hf
    exact xI_ret C G rfl dX11_find_30
  have Jrx2 : ∀ r, ox2 = .inl r → r = R0 := by
    intro r hq
    subst hq
    exact Option.some.inj hf
  exact w_Tab_find_rt_R_L2 C Jrx2 Jx2 fu _ _ _ _ G (lv_sub hl [1, 2, 0] rfl) hr
set_option maxHeartbeats 4000000 in
set_option maxRecDepth 100000 in
theorem c_M_personAt_m_R {l : Launch} {E : xE} {ad : Nat → Nat} {m_thrown m_trouble m_where m_taped m_size m_spot m_sort m_place m_number m_fault m_wrongAt m_acts m_images m_matchNow m_slopsNow m_matchesNow m_fedBest m_slopsBest m_sawBest m_leastNow m_stableNow m_fitsNow m_someNow m_everyNow m_askLeft rt_seats rt_slack rt_saw rt_quarrel rt_people rt_pairs rt_forks rt_unsures rt_trieds rt_fed : Int32} {m_tv : Value} {m_tape m_v m_x m_past m_kept m_slopped m_seatBest m_otherIn rt_seat rt_one rt_other rt_years rt_kind rt_unsure rt_may rt_tried : Nat → Int32} {m_word : Int64} {rt_name : Nat → Int64} {R0 : Int32 × Int32 × Int32 × Int32} (hf : f_M_personAt m_sort m_place m_fault m_wrongAt m_word rt_people rt_name = some R0) : xI l E yX12_personAt cX12_personAt 2 (some .int) 8 184 [.ref (ad 0)] (wR E ad m_thrown m_trouble m_where m_tv m_tape m_taped m_size m_spot m_sort m_place m_number m_fault m_wrongAt m_word m_v m_x m_past m_kept m_acts m_images m_matchNow m_slopsNow m_matchesNow m_slopped m_seatBest m_fedBest m_slopsBest m_sawBest m_leastNow m_stableNow m_fitsNow m_someNow m_everyNow m_otherIn m_askLeft rt_seats rt_slack rt_saw rt_quarrel rt_people rt_pairs rt_forks rt_unsures rt_trieds rt_fed rt_seat rt_one rt_other rt_years rt_kind rt_unsure rt_may rt_tried rt_name) (wR E ad m_thrown m_trouble m_where m_tv m_tape m_taped m_size m_spot R0.2.1 m_place m_number R0.2.2.1 R0.2.2.2 m_word m_v m_x m_past m_kept m_acts m_images m_matchNow m_slopsNow m_matchesNow m_slopped m_seatBest m_fedBest m_slopsBest m_sawBest m_leastNow m_stableNow m_fitsNow m_someNow m_everyNow m_otherIn m_askLeft rt_seats rt_slack rt_saw rt_quarrel rt_people rt_pairs rt_forks rt_unsures rt_trieds rt_fed rt_seat rt_one rt_other rt_years rt_kind rt_unsure rt_may rt_tried rt_name) R0.1 := by
  refine xI_of (by decide) (Nat.le_of_ble_eq_true rfl) (fun p e s m args below meth c A C ls hl G => ?_)
  have hx := C.1
  have hb := C.2.1
  have hl : lv_has ls 2 [(0, .ref (ad 0))] := hl
  unfold f_M_personAt at hf
  refine lv_aload_n hx hb dX12_personAt_0 rfl (lv_at hl 0 rfl) ?_
  obtain ⟨x1, hc, hf⟩ := bd_go hf
  refine xI_V C G (c_M_isName_m_R hc) mX12_isName kX12_154 (wR_at0) rfl ⟨Nat.le_of_ble_eq_true rfl, Nat.le_of_ble_eq_true rfl⟩ rfl hl.1 rfl (Nat.le_of_ble_eq_true rfl) ⟨Nat.le_refl _, Nat.le_refl _⟩ dX12_personAt_1 (fun hz1 H locs G => ?_)
  obtain ⟨x2, hrx2, hf⟩ := bd_go hf
  have Jx2 : ∀ (H : Heap) (locs : List Loc) (ls : Array Slot), xG s E A (wR E ad m_thrown m_trouble m_where m_tv m_tape m_taped m_size m_spot x2.1 m_place m_number x2.2.1 x2.2.2 m_word m_v m_x m_past m_kept m_acts m_images m_matchNow m_slopsNow m_matchesNow m_slopped m_seatBest m_fedBest m_slopsBest m_sawBest m_leastNow m_stableNow m_fitsNow m_someNow m_everyNow m_otherIn m_askLeft rt_seats rt_slack rt_saw rt_quarrel rt_people rt_pairs rt_forks rt_unsures rt_trieds rt_fed rt_seat rt_one rt_other rt_years rt_kind rt_unsure rt_may rt_tried rt_name) H locs → lv_has ls 2 [(0, .ref (ad 0))] → W p l e (xR 8 184) s m args below meth c H locs 0 0 (MQ below (xqI E A (wR E ad m_thrown m_trouble m_where m_tv m_tape m_taped m_size m_spot R0.2.1 m_place m_number R0.2.2.1 R0.2.2.2 m_word m_v m_x m_past m_kept m_acts m_images m_matchNow m_slopsNow m_matchesNow m_slopped m_seatBest m_fedBest m_slopsBest m_sawBest m_leastNow m_stableNow m_fitsNow m_someNow m_everyNow m_otherIn m_askLeft rt_seats rt_slack rt_saw rt_quarrel rt_people rt_pairs rt_forks rt_unsures rt_trieds rt_fed rt_seat rt_one rt_other rt_years rt_kind rt_unsure rt_may rt_tried rt_name) (some .int) R0.1) args s 0 0 A) (F0 m 12 ls []) := by
    intro H locs ls G hl
    refine lv_aload_n hx hb dX12_personAt_12 rfl (lv_at hl 0 rfl) ?_
    refine x_get C G fX12_145.g (wR_at0) rfl dX12_personAt_13 ?_
    refine lv_aload_n hx hb dX12_personAt_16 rfl (lv_at hl 0 rfl) ?_
    refine x_get C G fX12_87.g (wR_at0) rfl dX12_personAt_17 ?_
    obtain ⟨x3, hc, hf⟩ := bd_go hf
    refine xI_V C G (c_Tab_find_rt_R hc) mX11_find kX12_158 (wR_at9) rfl ⟨Nat.le_of_ble_eq_true rfl, Nat.le_of_ble_eq_true rfl⟩ rfl hl.1 rfl (Nat.le_of_ble_eq_true rfl) ⟨Nat.le_refl _, Nat.le_refl _⟩ dX12_personAt_20 (fun hz H locs G => ?_)
    refine lv_istore_n (lv' := [(1, .int x3), (0, .ref (ad 0))]) hx hb dX12_personAt_23 rfl hl (by decide) rfl (fun ls hl => ?_)
    refine lv_iload_n hx hb dX12_personAt_24 rfl (lv_at hl 0 rfl) ?_
    refine lv_iconst (v := -1) hx hb dX12_personAt_25 (by decide) ?_
    obtain ⟨x4, hrx4, hf⟩ := bd_go hf
    have Jx4 : ∀ (H : Heap) (locs : List Loc) (ls : Array Slot), xG s E A (wR E ad m_thrown m_trouble m_where m_tv m_tape m_taped m_size m_spot x4.1 m_place m_number x4.2.1 x4.2.2 m_word m_v m_x m_past m_kept m_acts m_images m_matchNow m_slopsNow m_matchesNow m_slopped m_seatBest m_fedBest m_slopsBest m_sawBest m_leastNow m_stableNow m_fitsNow m_someNow m_everyNow m_otherIn m_askLeft rt_seats rt_slack rt_saw rt_quarrel rt_people rt_pairs rt_forks rt_unsures rt_trieds rt_fed rt_seat rt_one rt_other rt_years rt_kind rt_unsure rt_may rt_tried rt_name) H locs → lv_has ls 2 [(0, .ref (ad 0)), (1, .int x3)] → W p l e (xR 8 184) s m args below meth c H locs 0 0 (MQ below (xqI E A (wR E ad m_thrown m_trouble m_where m_tv m_tape m_taped m_size m_spot R0.2.1 m_place m_number R0.2.2.1 R0.2.2.2 m_word m_v m_x m_past m_kept m_acts m_images m_matchNow m_slopsNow m_matchesNow m_slopped m_seatBest m_fedBest m_slopsBest m_sawBest m_leastNow m_stableNow m_fitsNow m_someNow m_everyNow m_otherIn m_askLeft rt_seats rt_slack rt_saw rt_quarrel rt_people rt_pairs rt_forks rt_unsures rt_trieds rt_fed rt_seat rt_one rt_other rt_years rt_kind rt_unsure rt_may rt_tried rt_name) (some .int) R0.1) args s 0 0 A) (F0 m 34 ls []) := by
      intro H locs ls G hl
      refine lv_aload_n hx hb dX12_personAt_34 rfl (lv_at hl 0 rfl) ?_
      refine x_get C G fX12_71.g (wR_at0) rfl dX12_personAt_35 ?_
      refine lv_iconst (v := 5) hx hb dX12_personAt_38 (by decide) ?_
      refine lv_icmp_ne (tgt := 46) hx hb dX12_personAt_39 (by decide) (fun h => ?_) (fun h => ?_)
      · have hf := it_f h hf
        refine lv_iload_n hx hb dX12_personAt_46 rfl (lv_at hl 1 rfl) ?_
        obtain rfl := Option.some.inj hf
        exact xI_ret C G rfl dX12_personAt_47
      · have hf := it_t h hf
        refine lv_iconst (v := 0) hx hb dX12_personAt_42 (by decide) ?_
        refine lv_goto (tgt := 47) hx hb dX12_personAt_43 (by decide) ?_
        obtain rfl := Option.some.inj hf
        exact xI_ret C G rfl dX12_personAt_47
    have hf := hrx4
    refine lv_icmp_ne (tgt := 34) hx hb dX12_personAt_26 (by decide) (fun h => ?_) (fun h => ?_)
    · have hf := it_f h hf
      obtain rfl := Option.some.inj hf
      exact Jx4 _ _ _ G (lv_sub hl [1, 0] rfl)
    · have hf := it_t h hf
      refine lv_aload_n hx hb dX12_personAt_29 rfl (lv_at hl 1 rfl) ?_
      refine lv_iconst (v := 2) hx hb dX12_personAt_30 (by decide) ?_
      obtain ⟨x5, hc, hf⟩ := bd_go hf
      refine xV_V C G (c_M_flaw_m_R hc) mX12_flaw kX12_114 (wR_at0) rfl ⟨Nat.le_of_ble_eq_true rfl, Nat.le_of_ble_eq_true rfl⟩ rfl hl.1 rfl (Nat.le_of_ble_eq_true rfl) ⟨Nat.le_refl _, Nat.le_refl _⟩ dX12_personAt_31 (fun H locs G => ?_)
      obtain rfl := Option.some.inj hf
      exact Jx4 _ _ _ G (lv_sub hl [1, 0] rfl)
  have hf := hrx2
  refine lv_if_ne (tgt := 12) hx hb dX12_personAt_4 (by decide) (fun h => ?_) (fun h => ?_)
  · have hf := it_f h hf
    obtain rfl := Option.some.inj hf
    exact Jx2 _ _ _ G (lv_sub hl [0] rfl)
  · have hf := it_t h hf
    refine lv_aload_n hx hb dX12_personAt_7 rfl (lv_at hl 0 rfl) ?_
    refine lv_iconst (v := 1) hx hb dX12_personAt_8 (by decide) ?_
    obtain ⟨x6, hc, hf⟩ := bd_go hf
    refine xV_V C G (c_M_flaw_m_R hc) mX12_flaw kX12_114 (wR_at0) rfl ⟨Nat.le_of_ble_eq_true rfl, Nat.le_of_ble_eq_true rfl⟩ rfl hl.1 rfl (Nat.le_of_ble_eq_true rfl) ⟨Nat.le_refl _, Nat.le_refl _⟩ dX12_personAt_9 (fun H locs G => ?_)
    obtain rfl := Option.some.inj hf
    exact Jx2 _ _ _ G (lv_sub hl [0] rfl)
set_option maxHeartbeats 4000000 in
set_option maxRecDepth 100000 in
theorem c_M_readPerson_m_R {l : Launch} {E : xE} {ad : Nat → Nat} {m_thrown m_trouble m_where m_taped m_size m_spot m_sort m_place m_number m_fault m_wrongAt m_acts m_images m_matchNow m_slopsNow m_matchesNow m_fedBest m_slopsBest m_sawBest m_leastNow m_stableNow m_fitsNow m_someNow m_everyNow m_askLeft rt_seats rt_slack rt_saw rt_quarrel rt_people rt_pairs rt_forks rt_unsures rt_trieds rt_fed : Int32} {m_tv : Value} {m_tape m_v m_x m_past m_kept m_slopped m_seatBest m_otherIn rt_seat rt_one rt_other rt_years rt_kind rt_unsure rt_may rt_tried : Nat → Int32} {m_word : Int64} {rt_name : Nat → Int64} {R0 : Int32 × Int32 × Int32 × Int32 × Int32 × Int32 × Int32 × Int64} (hf : f_M_readPerson m_tape m_size m_spot m_sort m_place m_number m_fault m_wrongAt m_word rt_people rt_name = some R0) : xI l E yX12_readPerson cX12_readPerson 2 (some .int) 9 205 [.ref (ad 0)] (wR E ad m_thrown m_trouble m_where m_tv m_tape m_taped m_size m_spot m_sort m_place m_number m_fault m_wrongAt m_word m_v m_x m_past m_kept m_acts m_images m_matchNow m_slopsNow m_matchesNow m_slopped m_seatBest m_fedBest m_slopsBest m_sawBest m_leastNow m_stableNow m_fitsNow m_someNow m_everyNow m_otherIn m_askLeft rt_seats rt_slack rt_saw rt_quarrel rt_people rt_pairs rt_forks rt_unsures rt_trieds rt_fed rt_seat rt_one rt_other rt_years rt_kind rt_unsure rt_may rt_tried rt_name) (wR E ad m_thrown m_trouble m_where m_tv m_tape m_taped m_size R0.2.1 R0.2.2.1 R0.2.2.2.1 R0.2.2.2.2.1 R0.2.2.2.2.2.1 R0.2.2.2.2.2.2.1 R0.2.2.2.2.2.2.2 m_v m_x m_past m_kept m_acts m_images m_matchNow m_slopsNow m_matchesNow m_slopped m_seatBest m_fedBest m_slopsBest m_sawBest m_leastNow m_stableNow m_fitsNow m_someNow m_everyNow m_otherIn m_askLeft rt_seats rt_slack rt_saw rt_quarrel rt_people rt_pairs rt_forks rt_unsures rt_trieds rt_fed rt_seat rt_one rt_other rt_years rt_kind rt_unsure rt_may rt_tried rt_name) R0.1 := by
  refine xI_of (by decide) (Nat.le_of_ble_eq_true rfl) (fun p e s m args below meth c A C ls hl G => ?_)
  have hx := C.1
  have hb := C.2.1
  have hl : lv_has ls 2 [(0, .ref (ad 0))] := hl
  unfold f_M_readPerson at hf
  refine lv_aload_n hx hb dX12_readPerson_0 rfl (lv_at hl 0 rfl) ?_
  obtain ⟨x1, hc, hf⟩ := bd_go hf
  refine xI_V C G (c_M_personAt_m_R hc) mX12_personAt kX12_162 (wR_at0) rfl ⟨Nat.le_of_ble_eq_true rfl, Nat.le_of_ble_eq_true rfl⟩ rfl hl.1 rfl (Nat.le_of_ble_eq_true rfl) ⟨Nat.le_refl _, Nat.le_refl _⟩ dX12_readPerson_1 (fun hz H locs G => ?_)
  refine lv_istore_n (lv' := [(1, .int x1.1), (0, .ref (ad 0))]) hx hb dX12_readPerson_4 rfl hl (by decide) rfl (fun ls hl => ?_)
  refine lv_aload_n hx hb dX12_readPerson_5 rfl (lv_at hl 1 rfl) ?_
  obtain ⟨x2, hc, hf⟩ := bd_go hf
  refine xV_V C G (c_M_goesOn_m_R hc) mX12_goesOn kX12_107 (wR_at0) rfl ⟨Nat.le_of_ble_eq_true rfl, Nat.le_of_ble_eq_true rfl⟩ rfl hl.1 rfl (Nat.le_of_ble_eq_true rfl) ⟨Nat.le_refl _, Nat.le_refl _⟩ dX12_readPerson_6 (fun H locs G => ?_)
  refine lv_iload_n hx hb dX12_readPerson_9 rfl (lv_at hl 0 rfl) ?_
  obtain rfl := Option.some.inj hf
  exact xI_ret C G rfl dX12_readPerson_10
set_option maxHeartbeats 4000000 in
set_option maxRecDepth 100000 in
theorem w_Tab_pairOf_rt_R_L2 {p : Program} {l : Launch} {e : Env} {s : State} {m : MethodId} {args : Array Value} {below : List Frame} {meth : Method} {c : Code} {A : Nat → Prop} {E : xE} {ad : Nat → Nat} {m_thrown m_trouble m_where m_taped m_size m_spot m_sort m_place m_number m_fault m_wrongAt m_acts m_images m_matchNow m_slopsNow m_matchesNow m_fedBest m_slopsBest m_sawBest m_leastNow m_stableNow m_fitsNow m_someNow m_everyNow m_askLeft rt_seats rt_slack rt_saw rt_quarrel rt_people rt_pairs rt_forks rt_unsures rt_trieds rt_fed : Int32} {m_tv : Value} {m_tape m_v m_x m_past m_kept m_slopped m_seatBest m_otherIn rt_seat rt_one rt_other rt_years rt_kind rt_unsure rt_may rt_tried : Nat → Int32} {m_word : Int64} {rt_name : Nat → Int64} {l1 : Int32} {l2 : Int32} {o : (Int32) ⊕ (Unit)} {R0 : Int32} (C : xC p s m args meth c cX11_pairOf 4 RX11 E A (some .int)) (Jr : ∀ r, o = .inl r → r = R0) (J : ∀ t, o = .inr t → ∀ (H : Heap) (locs : List Loc) (ls : Array Slot), xG s E A (wR E ad m_thrown m_trouble m_where m_tv m_tape m_taped m_size m_spot m_sort m_place m_number m_fault m_wrongAt m_word m_v m_x m_past m_kept m_acts m_images m_matchNow m_slopsNow m_matchesNow m_slopped m_seatBest m_fedBest m_slopsBest m_sawBest m_leastNow m_stableNow m_fitsNow m_someNow m_everyNow m_otherIn m_askLeft rt_seats rt_slack rt_saw rt_quarrel rt_people rt_pairs rt_forks rt_unsures rt_trieds rt_fed rt_seat rt_one rt_other rt_years rt_kind rt_unsure rt_may rt_tried rt_name) H locs → lv_has ls 4 [] → W p l e (xR 0 0) s m args below meth c H locs 0 0 (MQ below (xqI E A (wR E ad m_thrown m_trouble m_where m_tv m_tape m_taped m_size m_spot m_sort m_place m_number m_fault m_wrongAt m_word m_v m_x m_past m_kept m_acts m_images m_matchNow m_slopsNow m_matchesNow m_slopped m_seatBest m_fedBest m_slopsBest m_sawBest m_leastNow m_stableNow m_fitsNow m_someNow m_everyNow m_otherIn m_askLeft rt_seats rt_slack rt_saw rt_quarrel rt_people rt_pairs rt_forks rt_unsures rt_trieds rt_fed rt_seat rt_one rt_other rt_years rt_kind rt_unsure rt_may rt_tried rt_name) (some .int) R0) args s 0 0 A) (F0 m 58 ls [])) :
    ∀ (n : Nat) (l3 : Int32) (H : Heap) (locs : List Loc) (ls : Array Slot), xG s E A (wR E ad m_thrown m_trouble m_where m_tv m_tape m_taped m_size m_spot m_sort m_place m_number m_fault m_wrongAt m_word m_v m_x m_past m_kept m_acts m_images m_matchNow m_slopsNow m_matchesNow m_slopped m_seatBest m_fedBest m_slopsBest m_sawBest m_leastNow m_stableNow m_fitsNow m_someNow m_everyNow m_otherIn m_askLeft rt_seats rt_slack rt_saw rt_quarrel rt_people rt_pairs rt_forks rt_unsures rt_trieds rt_fed rt_seat rt_one rt_other rt_years rt_kind rt_unsure rt_may rt_tried rt_name) H locs → lv_has ls 4 [(0, .ref (ad 9)), (1, .int l1), (2, .int l2), (3, .int l3)] → f_Tab_pairOf_L2 l1 l2 rt_pairs rt_one rt_other n l3 = some o → W p l e (xR 0 0) s m args below meth c H locs 0 0 (MQ below (xqI E A (wR E ad m_thrown m_trouble m_where m_tv m_tape m_taped m_size m_spot m_sort m_place m_number m_fault m_wrongAt m_word m_v m_x m_past m_kept m_acts m_images m_matchNow m_slopsNow m_matchesNow m_slopped m_seatBest m_fedBest m_slopsBest m_sawBest m_leastNow m_stableNow m_fitsNow m_someNow m_everyNow m_otherIn m_askLeft rt_seats rt_slack rt_saw rt_quarrel rt_people rt_pairs rt_forks rt_unsures rt_trieds rt_fed rt_seat rt_one rt_other rt_years rt_kind rt_unsure rt_may rt_tried rt_name) (some .int) R0) args s 0 0 A) (F0 m 2 ls []) := by
  have hx := C.1
  have hb := C.2.1
  intro n
  induction n with
  | zero =>
    intro l3 H locs ls G hl hf
    exact nomatch (show (none : Option ((Int32) ⊕ (Unit))) = some o from hf)
  | succ n ih =>
    intro l3 H locs ls G hl hf
    rw [f_Tab_pairOf_L2] at hf
    refine lv_iload_n hx hb dX11_pairOf_2 rfl (lv_at hl 3 rfl) ?_
    refine lv_aload_n hx hb dX11_pairOf_3 rfl (lv_at hl 0 rfl) ?_
    refine x_get C G fX11_44.g (wR_at9) rfl dX11_pairOf_4 ?_
    refine lv_icmp_ge (tgt := 58) hx hb dX11_pairOf_7 (by decide) (fun h => ?_) (fun h => ?_)
    · have hf := it_t h hf
      exact J _ (Option.some.inj hf).symm _ _ _ G (lv_sub hl [] rfl)
    · have hf := it_f h hf
      refine lv_aload_n hx hb dX11_pairOf_10 rfl (lv_at hl 0 rfl) ?_
      refine x_get C G fX11_15 (wR_at9) rfl dX11_pairOf_11 ?_
      refine lv_iload_n hx hb dX11_pairOf_14 rfl (lv_at hl 3 rfl) ?_
      have hi := ck_in hf
      have hf := ck_go hf
      refine x_iald C G (wR_at11) hi dX11_pairOf_15 ?_
      refine lv_iload_n hx hb dX11_pairOf_16 rfl (lv_at hl 1 rfl) ?_
      obtain ⟨b1, hr, hf⟩ := bd_go hf
      cases b1 with
      | true =>
        have hf := it_t rfl hf
        have J : ∀ (H : Heap) (locs : List Loc), xG s E A (wR E ad m_thrown m_trouble m_where m_tv m_tape m_taped m_size m_spot m_sort m_place m_number m_fault m_wrongAt m_word m_v m_x m_past m_kept m_acts m_images m_matchNow m_slopsNow m_matchesNow m_slopped m_seatBest m_fedBest m_slopsBest m_sawBest m_leastNow m_stableNow m_fitsNow m_someNow m_everyNow m_otherIn m_askLeft rt_seats rt_slack rt_saw rt_quarrel rt_people rt_pairs rt_forks rt_unsures rt_trieds rt_fed rt_seat rt_one rt_other rt_years rt_kind rt_unsure rt_may rt_tried rt_name) H locs → W p l e (xR 0 0) s m args below meth c H locs 0 0 (MQ below (xqI E A (wR E ad m_thrown m_trouble m_where m_tv m_tape m_taped m_size m_spot m_sort m_place m_number m_fault m_wrongAt m_word m_v m_x m_past m_kept m_acts m_images m_matchNow m_slopsNow m_matchesNow m_slopped m_seatBest m_fedBest m_slopsBest m_sawBest m_leastNow m_stableNow m_fitsNow m_someNow m_everyNow m_otherIn m_askLeft rt_seats rt_slack rt_saw rt_quarrel rt_people rt_pairs rt_forks rt_unsures rt_trieds rt_fed rt_seat rt_one rt_other rt_years rt_kind rt_unsure rt_may rt_tried rt_name) (some .int) R0) args s 0 0 A) (F0 m 50 ls []) := by
          intro H locs G
          refine lv_iload_n hx hb dX11_pairOf_50 rfl (lv_at hl 3 rfl) ?_
          obtain rfl := Jr _ (Option.some.inj hf).symm
          exact xI_ret C G rfl dX11_pairOf_51
        have hf := hr
        clear hr
        refine lv_icmp_ne (tgt := 30) hx hb dX11_pairOf_17 (by decide) (fun h => ?_) (fun h => ?_)
        · have hf := it_f h hf
          refine lv_aload_n hx hb dX11_pairOf_30 rfl (lv_at hl 0 rfl) ?_
          refine x_get C G fX11_15 (wR_at9) rfl dX11_pairOf_31 ?_
          refine lv_iload_n hx hb dX11_pairOf_34 rfl (lv_at hl 3 rfl) ?_
          have hi := ck_in hf
          have hf := ck_go hf
          refine x_iald C G (wR_at11) hi dX11_pairOf_35 ?_
          refine lv_iload_n hx hb dX11_pairOf_36 rfl (lv_at hl 2 rfl) ?_
          refine lv_icmp_ne (tgt := 52) hx hb dX11_pairOf_37 (by decide) (fun h => ?_) (fun h => ?_)
          · have hf := it_f h hf
            exact absurd (Option.some.inj hf) (by decide)
          · have hf := it_t h hf
            refine lv_aload_n hx hb dX11_pairOf_40 rfl (lv_at hl 0 rfl) ?_
            refine x_get C G fX11_18 (wR_at9) rfl dX11_pairOf_41 ?_
            refine lv_iload_n hx hb dX11_pairOf_44 rfl (lv_at hl 3 rfl) ?_
            have hi := ck_in hf
            have hf := ck_go hf
            refine x_iald C G (wR_at12) hi dX11_pairOf_45 ?_
            refine lv_iload_n hx hb dX11_pairOf_46 rfl (lv_at hl 1 rfl) ?_
            refine lv_icmp_ne (tgt := 52) hx hb dX11_pairOf_47 (by decide) (fun h => ?_) (fun h => ?_)
            · have hf := it_f h hf
              exact absurd (Option.some.inj hf) (by decide)
            · have hf := it_t h hf
              exact J _ _ G
        · have hf := it_t h hf
          refine lv_aload_n hx hb dX11_pairOf_20 rfl (lv_at hl 0 rfl) ?_
          refine x_get C G fX11_18 (wR_at9) rfl dX11_pairOf_21 ?_
          refine lv_iload_n hx hb dX11_pairOf_24 rfl (lv_at hl 3 rfl) ?_
          have hi := ck_in hf
          have hf := ck_go hf
          refine x_iald C G (wR_at12) hi dX11_pairOf_25 ?_
          refine lv_iload_n hx hb dX11_pairOf_26 rfl (lv_at hl 2 rfl) ?_
          refine lv_icmp_eq (tgt := 50) hx hb dX11_pairOf_27 (by decide) (fun h => ?_) (fun h => ?_)
          · have hf := it_t h hf
            exact J _ _ G
          · have hf := it_f h hf
            refine lv_aload_n hx hb dX11_pairOf_30 rfl (lv_at hl 0 rfl) ?_
            refine x_get C G fX11_15 (wR_at9) rfl dX11_pairOf_31 ?_
            refine lv_iload_n hx hb dX11_pairOf_34 rfl (lv_at hl 3 rfl) ?_
            have hi := ck_in hf
            have hf := ck_go hf
            refine x_iald C G (wR_at11) hi dX11_pairOf_35 ?_
            refine lv_iload_n hx hb dX11_pairOf_36 rfl (lv_at hl 2 rfl) ?_
            refine lv_icmp_ne (tgt := 52) hx hb dX11_pairOf_37 (by decide) (fun h => ?_) (fun h => ?_)
            · have hf := it_f h hf
              exact absurd (Option.some.inj hf) (by decide)
            · have hf := it_t h hf
              refine lv_aload_n hx hb dX11_pairOf_40 rfl (lv_at hl 0 rfl) ?_
              refine x_get C G fX11_18 (wR_at9) rfl dX11_pairOf_41 ?_
              refine lv_iload_n hx hb dX11_pairOf_44 rfl (lv_at hl 3 rfl) ?_
              have hi := ck_in hf
              have hf := ck_go hf
              refine x_iald C G (wR_at12) hi dX11_pairOf_45 ?_
              refine lv_iload_n hx hb dX11_pairOf_46 rfl (lv_at hl 1 rfl) ?_
              refine lv_icmp_ne (tgt := 52) hx hb dX11_pairOf_47 (by decide) (fun h => ?_) (fun h => ?_)
              · have hf := it_f h hf
                exact absurd (Option.some.inj hf) (by decide)
              · have hf := it_t h hf
                exact J _ _ G
      | false =>
        have hf := it_f (by decide) hf
        have J : ∀ (H : Heap) (locs : List Loc), xG s E A (wR E ad m_thrown m_trouble m_where m_tv m_tape m_taped m_size m_spot m_sort m_place m_number m_fault m_wrongAt m_word m_v m_x m_past m_kept m_acts m_images m_matchNow m_slopsNow m_matchesNow m_slopped m_seatBest m_fedBest m_slopsBest m_sawBest m_leastNow m_stableNow m_fitsNow m_someNow m_everyNow m_otherIn m_askLeft rt_seats rt_slack rt_saw rt_quarrel rt_people rt_pairs rt_forks rt_unsures rt_trieds rt_fed rt_seat rt_one rt_other rt_years rt_kind rt_unsure rt_may rt_tried rt_name) H locs → W p l e (xR 0 0) s m args below meth c H locs 0 0 (MQ below (xqI E A (wR E ad m_thrown m_trouble m_where m_tv m_tape m_taped m_size m_spot m_sort m_place m_number m_fault m_wrongAt m_word m_v m_x m_past m_kept m_acts m_images m_matchNow m_slopsNow m_matchesNow m_slopped m_seatBest m_fedBest m_slopsBest m_sawBest m_leastNow m_stableNow m_fitsNow m_someNow m_everyNow m_otherIn m_askLeft rt_seats rt_slack rt_saw rt_quarrel rt_people rt_pairs rt_forks rt_unsures rt_trieds rt_fed rt_seat rt_one rt_other rt_years rt_kind rt_unsure rt_may rt_tried rt_name) (some .int) R0) args s 0 0 A) (F0 m 52 ls []) := by
          intro H locs G
          obtain ⟨x2, ex2⟩ : ∃ z : Int32, z = l3 + (1 : Int32) := ⟨_, rfl⟩
          have hf := lt_go ex2 hf
          refine lv_iinc (v := x2) (lv' := [(3, .int x2), (0, .ref (ad 9)), (1, .int l1), (2, .int l2)]) hx hb dX11_pairOf_52 hl (k := 3) rfl (by rw [ex2]; rfl) (by decide) rfl (fun ls hl => ?_)
          refine lv_goto (tgt := 2) hx hb dX11_pairOf_55 (by decide) ?_
          exact ih x2 _ _ _ G (lv_sub hl [1, 2, 3, 0] rfl) hf
        have hf := hr
        clear hr
        refine lv_icmp_ne (tgt := 30) hx hb dX11_pairOf_17 (by decide) (fun h => ?_) (fun h => ?_)
        · have hf := it_f h hf
          refine lv_aload_n hx hb dX11_pairOf_30 rfl (lv_at hl 0 rfl) ?_
          refine x_get C G fX11_15 (wR_at9) rfl dX11_pairOf_31 ?_
          refine lv_iload_n hx hb dX11_pairOf_34 rfl (lv_at hl 3 rfl) ?_
          have hi := ck_in hf
          have hf := ck_go hf
          refine x_iald C G (wR_at11) hi dX11_pairOf_35 ?_
          refine lv_iload_n hx hb dX11_pairOf_36 rfl (lv_at hl 2 rfl) ?_
          refine lv_icmp_ne (tgt := 52) hx hb dX11_pairOf_37 (by decide) (fun h => ?_) (fun h => ?_)
          · have hf := it_f h hf
            exact J _ _ G
          · have hf := it_t h hf
            refine lv_aload_n hx hb dX11_pairOf_40 rfl (lv_at hl 0 rfl) ?_
            refine x_get C G fX11_18 (wR_at9) rfl dX11_pairOf_41 ?_
            refine lv_iload_n hx hb dX11_pairOf_44 rfl (lv_at hl 3 rfl) ?_
            have hi := ck_in hf
            have hf := ck_go hf
            refine x_iald C G (wR_at12) hi dX11_pairOf_45 ?_
            refine lv_iload_n hx hb dX11_pairOf_46 rfl (lv_at hl 1 rfl) ?_
            refine lv_icmp_ne (tgt := 52) hx hb dX11_pairOf_47 (by decide) (fun h => ?_) (fun h => ?_)
            · have hf := it_f h hf
              exact J _ _ G
            · have hf := it_t h hf
              exact absurd (Option.some.inj hf) (by decide)
        · have hf := it_t h hf
          refine lv_aload_n hx hb dX11_pairOf_20 rfl (lv_at hl 0 rfl) ?_
          refine x_get C G fX11_18 (wR_at9) rfl dX11_pairOf_21 ?_
          refine lv_iload_n hx hb dX11_pairOf_24 rfl (lv_at hl 3 rfl) ?_
          have hi := ck_in hf
          have hf := ck_go hf
          refine x_iald C G (wR_at12) hi dX11_pairOf_25 ?_
          refine lv_iload_n hx hb dX11_pairOf_26 rfl (lv_at hl 2 rfl) ?_
          refine lv_icmp_eq (tgt := 50) hx hb dX11_pairOf_27 (by decide) (fun h => ?_) (fun h => ?_)
          · have hf := it_t h hf
            exact absurd (Option.some.inj hf) (by decide)
          · have hf := it_f h hf
            refine lv_aload_n hx hb dX11_pairOf_30 rfl (lv_at hl 0 rfl) ?_
            refine x_get C G fX11_15 (wR_at9) rfl dX11_pairOf_31 ?_
            refine lv_iload_n hx hb dX11_pairOf_34 rfl (lv_at hl 3 rfl) ?_
            have hi := ck_in hf
            have hf := ck_go hf
            refine x_iald C G (wR_at11) hi dX11_pairOf_35 ?_
            refine lv_iload_n hx hb dX11_pairOf_36 rfl (lv_at hl 2 rfl) ?_
            refine lv_icmp_ne (tgt := 52) hx hb dX11_pairOf_37 (by decide) (fun h => ?_) (fun h => ?_)
            · have hf := it_f h hf
              exact J _ _ G
            · have hf := it_t h hf
              refine lv_aload_n hx hb dX11_pairOf_40 rfl (lv_at hl 0 rfl) ?_
              refine x_get C G fX11_18 (wR_at9) rfl dX11_pairOf_41 ?_
              refine lv_iload_n hx hb dX11_pairOf_44 rfl (lv_at hl 3 rfl) ?_
              have hi := ck_in hf
              have hf := ck_go hf
              refine x_iald C G (wR_at12) hi dX11_pairOf_45 ?_
              refine lv_iload_n hx hb dX11_pairOf_46 rfl (lv_at hl 1 rfl) ?_
              refine lv_icmp_ne (tgt := 52) hx hb dX11_pairOf_47 (by decide) (fun h => ?_) (fun h => ?_)
              · have hf := it_f h hf
                exact J _ _ G
              · have hf := it_t h hf
                exact absurd (Option.some.inj hf) (by decide)
set_option maxHeartbeats 4000000 in
set_option maxRecDepth 100000 in
theorem c_Tab_pairOf_rt_R {l : Launch} {E : xE} {ad : Nat → Nat} {m_thrown m_trouble m_where m_taped m_size m_spot m_sort m_place m_number m_fault m_wrongAt m_acts m_images m_matchNow m_slopsNow m_matchesNow m_fedBest m_slopsBest m_sawBest m_leastNow m_stableNow m_fitsNow m_someNow m_everyNow m_askLeft rt_seats rt_slack rt_saw rt_quarrel rt_people rt_pairs rt_forks rt_unsures rt_trieds rt_fed : Int32} {m_tv : Value} {m_tape m_v m_x m_past m_kept m_slopped m_seatBest m_otherIn rt_seat rt_one rt_other rt_years rt_kind rt_unsure rt_may rt_tried : Nat → Int32} {m_word : Int64} {rt_name : Nat → Int64} {l1 : Int32} {l2 : Int32} {R0 : Int32} (hf : f_Tab_pairOf l1 l2 rt_pairs rt_one rt_other = some R0) : xI l E yX11_pairOf cX11_pairOf 4 (some .int) 0 0 [.ref (ad 9), .int l1, .int l2] (wR E ad m_thrown m_trouble m_where m_tv m_tape m_taped m_size m_spot m_sort m_place m_number m_fault m_wrongAt m_word m_v m_x m_past m_kept m_acts m_images m_matchNow m_slopsNow m_matchesNow m_slopped m_seatBest m_fedBest m_slopsBest m_sawBest m_leastNow m_stableNow m_fitsNow m_someNow m_everyNow m_otherIn m_askLeft rt_seats rt_slack rt_saw rt_quarrel rt_people rt_pairs rt_forks rt_unsures rt_trieds rt_fed rt_seat rt_one rt_other rt_years rt_kind rt_unsure rt_may rt_tried rt_name) (wR E ad m_thrown m_trouble m_where m_tv m_tape m_taped m_size m_spot m_sort m_place m_number m_fault m_wrongAt m_word m_v m_x m_past m_kept m_acts m_images m_matchNow m_slopsNow m_matchesNow m_slopped m_seatBest m_fedBest m_slopsBest m_sawBest m_leastNow m_stableNow m_fitsNow m_someNow m_everyNow m_otherIn m_askLeft rt_seats rt_slack rt_saw rt_quarrel rt_people rt_pairs rt_forks rt_unsures rt_trieds rt_fed rt_seat rt_one rt_other rt_years rt_kind rt_unsure rt_may rt_tried rt_name) R0 := by
  refine xI_of (by decide) (Nat.le_of_ble_eq_true rfl) (fun p e s m args below meth c A C ls hl G => ?_)
  have hx := C.1
  have hb := C.2.1
  have hl : lv_has ls 4 [(0, .ref (ad 9)), (1, .int l1), (2, .int l2)] := hl
  unfold f_Tab_pairOf at hf
  refine lv_iconst (v := 0) hx hb dX11_pairOf_0 (by decide) ?_
  refine lv_istore_n (lv' := [(3, .int (0 : Int32)), (0, .ref (ad 9)), (1, .int l1), (2, .int l2)]) hx hb dX11_pairOf_1 rfl hl (by decide) rfl (fun ls hl => ?_)
  obtain ⟨ox3, hr, hf⟩ := bd_go hf
  have Jx3 : ∀ x3, ox3 = .inr x3 → ∀ (H : Heap) (locs : List Loc) (ls : Array Slot), xG s E A (wR E ad m_thrown m_trouble m_where m_tv m_tape m_taped m_size m_spot m_sort m_place m_number m_fault m_wrongAt m_word m_v m_x m_past m_kept m_acts m_images m_matchNow m_slopsNow m_matchesNow m_slopped m_seatBest m_fedBest m_slopsBest m_sawBest m_leastNow m_stableNow m_fitsNow m_someNow m_everyNow m_otherIn m_askLeft rt_seats rt_slack rt_saw rt_quarrel rt_people rt_pairs rt_forks rt_unsures rt_trieds rt_fed rt_seat rt_one rt_other rt_years rt_kind rt_unsure rt_may rt_tried rt_name) H locs → lv_has ls 4 [] → W p l e (xR 0 0) s m args below meth c H locs 0 0 (MQ below (xqI E A (wR E ad m_thrown m_trouble m_where m_tv m_tape m_taped m_size m_spot m_sort m_place m_number m_fault m_wrongAt m_word m_v m_x m_past m_kept m_acts m_images m_matchNow m_slopsNow m_matchesNow m_slopped m_seatBest m_fedBest m_slopsBest m_sawBest m_leastNow m_stableNow m_fitsNow m_someNow m_everyNow m_otherIn m_askLeft rt_seats rt_slack rt_saw rt_quarrel rt_people rt_pairs rt_forks rt_unsures rt_trieds rt_fed rt_seat rt_one rt_other rt_years rt_kind rt_unsure rt_may rt_tried rt_name) (some .int) R0) args s 0 0 A) (F0 m 58 ls []) := by
    intro x3 hq H locs ls G hl
    subst hq
    have hf := sm_r hf
    refine lv_iconst (v := -1) hx hb dX11_pairOf_58 (by decide) ?_
    obtain rfl := Option.some.inj hf
    exact xI_ret C G rfl dX11_pairOf_59
  have Jrx3 : ∀ r, ox3 = .inl r → r = R0 := by
    intro r hq
    subst hq
    exact Option.some.inj hf
  exact w_Tab_pairOf_rt_R_L2 C Jrx3 Jx3 fu _ _ _ _ G (lv_sub hl [1, 2, 3, 0] rfl) hr
set_option maxHeartbeats 4000000 in
set_option maxRecDepth 100000 in
theorem c_M_pairAt_m_R {l : Launch} {E : xE} {ad : Nat → Nat} {m_thrown m_trouble m_where m_taped m_size m_spot m_sort m_place m_number m_fault m_wrongAt m_acts m_images m_matchNow m_slopsNow m_matchesNow m_fedBest m_slopsBest m_sawBest m_leastNow m_stableNow m_fitsNow m_someNow m_everyNow m_askLeft rt_seats rt_slack rt_saw rt_quarrel rt_people rt_pairs rt_forks rt_unsures rt_trieds rt_fed : Int32} {m_tv : Value} {m_tape m_v m_x m_past m_kept m_slopped m_seatBest m_otherIn rt_seat rt_one rt_other rt_years rt_kind rt_unsure rt_may rt_tried : Nat → Int32} {m_word : Int64} {rt_name : Nat → Int64} {R0 : Int32 × Int32 × Int32 × Int32 × Int32 × Int32 × Int32 × Int64} (hf : f_M_pairAt m_tape m_size m_spot m_sort m_place m_number m_fault m_wrongAt m_word rt_people rt_pairs rt_one rt_other rt_name = some R0) : xI l E yX12_pairAt cX12_pairAt 4 (some .int) 10 226 [.ref (ad 0)] (wR E ad m_thrown m_trouble m_where m_tv m_tape m_taped m_size m_spot m_sort m_place m_number m_fault m_wrongAt m_word m_v m_x m_past m_kept m_acts m_images m_matchNow m_slopsNow m_matchesNow m_slopped m_seatBest m_fedBest m_slopsBest m_sawBest m_leastNow m_stableNow m_fitsNow m_someNow m_everyNow m_otherIn m_askLeft rt_seats rt_slack rt_saw rt_quarrel rt_people rt_pairs rt_forks rt_unsures rt_trieds rt_fed rt_seat rt_one rt_other rt_years rt_kind rt_unsure rt_may rt_tried rt_name) (wR E ad m_thrown m_trouble m_where m_tv m_tape m_taped m_size R0.2.1 R0.2.2.1 R0.2.2.2.1 R0.2.2.2.2.1 R0.2.2.2.2.2.1 R0.2.2.2.2.2.2.1 R0.2.2.2.2.2.2.2 m_v m_x m_past m_kept m_acts m_images m_matchNow m_slopsNow m_matchesNow m_slopped m_seatBest m_fedBest m_slopsBest m_sawBest m_leastNow m_stableNow m_fitsNow m_someNow m_everyNow m_otherIn m_askLeft rt_seats rt_slack rt_saw rt_quarrel rt_people rt_pairs rt_forks rt_unsures rt_trieds rt_fed rt_seat rt_one rt_other rt_years rt_kind rt_unsure rt_may rt_tried rt_name) R0.1 := by
  refine xI_of (by decide) (Nat.le_of_ble_eq_true rfl) (fun p e s m args below meth c A C ls hl G => ?_)
  have hx := C.1
  have hb := C.2.1
  have hl : lv_has ls 4 [(0, .ref (ad 0))] := hl
  unfold f_M_pairAt at hf
  refine lv_aload_n hx hb dX12_pairAt_0 rfl (lv_at hl 0 rfl) ?_
  obtain ⟨x1, hc, hf⟩ := bd_go hf
  refine xI_V C G (c_M_readPerson_m_R hc) mX12_readPerson kX12_165 (wR_at0) rfl ⟨Nat.le_of_ble_eq_true rfl, Nat.le_of_ble_eq_true rfl⟩ rfl hl.1 rfl (Nat.le_of_ble_eq_true rfl) ⟨Nat.le_refl _, Nat.le_refl _⟩ dX12_pairAt_1 (fun hz H locs G => ?_)
  refine lv_istore_n (lv' := [(1, .int x1.1), (0, .ref (ad 0))]) hx hb dX12_pairAt_4 rfl hl (by decide) rfl (fun ls hl => ?_)
  refine lv_aload_n hx hb dX12_pairAt_5 rfl (lv_at hl 1 rfl) ?_
  obtain ⟨x2, hc, hf⟩ := bd_go hf
  refine xI_V C G (c_M_personAt_m_R hc) mX12_personAt kX12_162 (wR_at0) rfl ⟨Nat.le_of_ble_eq_true rfl, Nat.le_of_ble_eq_true rfl⟩ rfl hl.1 rfl (Nat.le_of_ble_eq_true rfl) ⟨Nat.le_refl _, Nat.le_refl _⟩ dX12_pairAt_6 (fun hz H locs G => ?_)
  refine lv_istore_n (lv' := [(2, .int x2.1), (1, .int x1.1), (0, .ref (ad 0))]) hx hb dX12_pairAt_9 rfl hl (by decide) rfl (fun ls hl => ?_)
  refine lv_aload_n hx hb dX12_pairAt_10 rfl (lv_at hl 2 rfl) ?_
  refine x_get C G fX12_71.g (wR_at0) rfl dX12_pairAt_11 ?_
  refine lv_iconst (v := 5) hx hb dX12_pairAt_14 (by decide) ?_
  obtain ⟨x3, hrx3, hf⟩ := bd_go hf
  have Jx3 : ∀ (H : Heap) (locs : List Loc) (ls : Array Slot), xG s E A (wR E ad m_thrown m_trouble m_where m_tv m_tape m_taped m_size x1.2.1 x2.2.1 x1.2.2.2.1 x1.2.2.2.2.1 x2.2.2.1 x2.2.2.2 x1.2.2.2.2.2.2.2 m_v m_x m_past m_kept m_acts m_images m_matchNow m_slopsNow m_matchesNow m_slopped m_seatBest m_fedBest m_slopsBest m_sawBest m_leastNow m_stableNow m_fitsNow m_someNow m_everyNow m_otherIn m_askLeft rt_seats rt_slack rt_saw rt_quarrel rt_people rt_pairs rt_forks rt_unsures rt_trieds rt_fed rt_seat rt_one rt_other rt_years rt_kind rt_unsure rt_may rt_tried rt_name) H locs → lv_has ls 4 [(0, .ref (ad 0))] → W p l e (xR 10 226) s m args below meth c H locs 0 0 (MQ below (xqI E A (wR E ad m_thrown m_trouble m_where m_tv m_tape m_taped m_size R0.2.1 R0.2.2.1 R0.2.2.2.1 R0.2.2.2.2.1 R0.2.2.2.2.2.1 R0.2.2.2.2.2.2.1 R0.2.2.2.2.2.2.2 m_v m_x m_past m_kept m_acts m_images m_matchNow m_slopsNow m_matchesNow m_slopped m_seatBest m_fedBest m_slopsBest m_sawBest m_leastNow m_stableNow m_fitsNow m_someNow m_everyNow m_otherIn m_askLeft rt_seats rt_slack rt_saw rt_quarrel rt_people rt_pairs rt_forks rt_unsures rt_trieds rt_fed rt_seat rt_one rt_other rt_years rt_kind rt_unsure rt_may rt_tried rt_name) (some .int) R0.1) args s 0 0 A) (F0 m 31 ls [.int x3]) := by
    intro H locs ls G hl
    refine lv_istore_n (lv' := [(3, .int x3), (0, .ref (ad 0))]) hx hb dX12_pairAt_31 rfl hl (by decide) rfl (fun ls hl => ?_)
    refine lv_iload_n hx hb dX12_pairAt_32 rfl (lv_at hl 0 rfl) ?_
    refine lv_iconst (v := -1) hx hb dX12_pairAt_33 (by decide) ?_
    obtain ⟨x4, hrx4, hf⟩ := bd_go hf
    have Jx4 : ∀ (H : Heap) (locs : List Loc) (ls : Array Slot), xG s E A (wR E ad m_thrown m_trouble m_where m_tv m_tape m_taped m_size x1.2.1 x4.1 x1.2.2.2.1 x1.2.2.2.2.1 x4.2.1 x4.2.2 x1.2.2.2.2.2.2.2 m_v m_x m_past m_kept m_acts m_images m_matchNow m_slopsNow m_matchesNow m_slopped m_seatBest m_fedBest m_slopsBest m_sawBest m_leastNow m_stableNow m_fitsNow m_someNow m_everyNow m_otherIn m_askLeft rt_seats rt_slack rt_saw rt_quarrel rt_people rt_pairs rt_forks rt_unsures rt_trieds rt_fed rt_seat rt_one rt_other rt_years rt_kind rt_unsure rt_may rt_tried rt_name) H locs → lv_has ls 4 [(0, .ref (ad 0)), (3, .int x3)] → W p l e (xR 10 226) s m args below meth c H locs 0 0 (MQ below (xqI E A (wR E ad m_thrown m_trouble m_where m_tv m_tape m_taped m_size R0.2.1 R0.2.2.1 R0.2.2.2.1 R0.2.2.2.2.1 R0.2.2.2.2.2.1 R0.2.2.2.2.2.2.1 R0.2.2.2.2.2.2.2 m_v m_x m_past m_kept m_acts m_images m_matchNow m_slopsNow m_matchesNow m_slopped m_seatBest m_fedBest m_slopsBest m_sawBest m_leastNow m_stableNow m_fitsNow m_someNow m_everyNow m_otherIn m_askLeft rt_seats rt_slack rt_saw rt_quarrel rt_people rt_pairs rt_forks rt_unsures rt_trieds rt_fed rt_seat rt_one rt_other rt_years rt_kind rt_unsure rt_may rt_tried rt_name) (some .int) R0.1) args s 0 0 A) (F0 m 42 ls []) := by
      intro H locs ls G hl
      refine lv_aload_n hx hb dX12_pairAt_42 rfl (lv_at hl 0 rfl) ?_
      refine x_get C G fX12_71.g (wR_at0) rfl dX12_pairAt_43 ?_
      refine lv_iconst (v := 5) hx hb dX12_pairAt_46 (by decide) ?_
      refine lv_icmp_ne (tgt := 54) hx hb dX12_pairAt_47 (by decide) (fun h => ?_) (fun h => ?_)
      · have hf := it_f h hf
        refine lv_iload_n hx hb dX12_pairAt_54 rfl (lv_at hl 1 rfl) ?_
        obtain rfl := Option.some.inj hf
        exact xI_ret C G rfl dX12_pairAt_55
      · have hf := it_t h hf
        refine lv_iconst (v := 0) hx hb dX12_pairAt_50 (by decide) ?_
        refine lv_goto (tgt := 55) hx hb dX12_pairAt_51 (by decide) ?_
        obtain rfl := Option.some.inj hf
        exact xI_ret C G rfl dX12_pairAt_55
    have hf := hrx4
    refine lv_icmp_ne (tgt := 42) hx hb dX12_pairAt_34 (by decide) (fun h => ?_) (fun h => ?_)
    · have hf := it_f h hf
      obtain rfl := Option.some.inj hf
      exact Jx4 _ _ _ G (lv_sub hl [1, 0] rfl)
    · have hf := it_t h hf
      refine lv_aload_n hx hb dX12_pairAt_37 rfl (lv_at hl 1 rfl) ?_
      refine lv_iconst (v := 2) hx hb dX12_pairAt_38 (by decide) ?_
      obtain ⟨x5, hc, hf⟩ := bd_go hf
      refine xV_V C G (c_M_flaw_m_R hc) mX12_flaw kX12_114 (wR_at0) rfl ⟨Nat.le_of_ble_eq_true rfl, Nat.le_of_ble_eq_true rfl⟩ rfl hl.1 rfl (Nat.le_of_ble_eq_true rfl) ⟨Nat.le_refl _, Nat.le_refl _⟩ dX12_pairAt_39 (fun H locs G => ?_)
      obtain rfl := Option.some.inj hf
      exact Jx4 _ _ _ G (lv_sub hl [1, 0] rfl)
  have hf := hrx3
  refine lv_icmp_ne (tgt := 22) hx hb dX12_pairAt_15 (by decide) (fun h => ?_) (fun h => ?_)
  · have hf := it_f h hf
    refine lv_aload_n hx hb dX12_pairAt_22 rfl (lv_at hl 2 rfl) ?_
    refine x_get C G fX12_145.g (wR_at0) rfl dX12_pairAt_23 ?_
    refine lv_iload_n hx hb dX12_pairAt_26 rfl (lv_at hl 1 rfl) ?_
    refine lv_iload_n hx hb dX12_pairAt_27 rfl (lv_at hl 0 rfl) ?_
    obtain ⟨x6, hc, hf⟩ := bd_go hf
    refine xI_V C G (c_Tab_pairOf_rt_R hc) mX11_pairOf kX12_168 (wR_at9) rfl ⟨Nat.le_of_ble_eq_true rfl, Nat.le_of_ble_eq_true rfl⟩ rfl hl.1 rfl (Nat.le_of_ble_eq_true rfl) ⟨Nat.le_refl _, Nat.le_refl _⟩ dX12_pairAt_28 (fun hz H locs G => ?_)
    obtain rfl := Option.some.inj hf
    exact Jx3 _ _ _ G (lv_sub hl [2] rfl)
  · have hf := it_t h hf
    refine lv_iconst (v := 0) hx hb dX12_pairAt_18 (by decide) ?_
    refine lv_goto (tgt := 31) hx hb dX12_pairAt_19 (by decide) ?_
    obtain rfl := Option.some.inj hf
    exact Jx3 _ _ _ G (lv_sub hl [2] rfl)
set_option maxHeartbeats 4000000 in
set_option maxRecDepth 100000 in
theorem c_M_isWord_m_fed_R {l : Launch} {E : xE} {ad : Nat → Nat} {m_thrown m_trouble m_where m_taped m_size m_spot m_sort m_place m_number m_fault m_wrongAt m_acts m_images m_matchNow m_slopsNow m_matchesNow m_fedBest m_slopsBest m_sawBest m_leastNow m_stableNow m_fitsNow m_someNow m_everyNow m_askLeft rt_seats rt_slack rt_saw rt_quarrel rt_people rt_pairs rt_forks rt_unsures rt_trieds rt_fed : Int32} {m_tv : Value} {m_tape m_v m_x m_past m_kept m_slopped m_seatBest m_otherIn rt_seat rt_one rt_other rt_years rt_kind rt_unsure rt_may rt_tried : Nat → Int32} {m_word : Int64} {rt_name : Nat → Int64} {R0 : Int32} (hf : f_M_isWord (6308 : Int64) m_sort m_word = some R0) : xI l E yX12_isWord cX12_isWord 2 (some .boolean) 6 143 [.ref (ad 0), .ref (E.2.2.1 15)] (wR E ad m_thrown m_trouble m_where m_tv m_tape m_taped m_size m_spot m_sort m_place m_number m_fault m_wrongAt m_word m_v m_x m_past m_kept m_acts m_images m_matchNow m_slopsNow m_matchesNow m_slopped m_seatBest m_fedBest m_slopsBest m_sawBest m_leastNow m_stableNow m_fitsNow m_someNow m_everyNow m_otherIn m_askLeft rt_seats rt_slack rt_saw rt_quarrel rt_people rt_pairs rt_forks rt_unsures rt_trieds rt_fed rt_seat rt_one rt_other rt_years rt_kind rt_unsure rt_may rt_tried rt_name) (wR E ad m_thrown m_trouble m_where m_tv m_tape m_taped m_size m_spot m_sort m_place m_number m_fault m_wrongAt m_word m_v m_x m_past m_kept m_acts m_images m_matchNow m_slopsNow m_matchesNow m_slopped m_seatBest m_fedBest m_slopsBest m_sawBest m_leastNow m_stableNow m_fitsNow m_someNow m_everyNow m_otherIn m_askLeft rt_seats rt_slack rt_saw rt_quarrel rt_people rt_pairs rt_forks rt_unsures rt_trieds rt_fed rt_seat rt_one rt_other rt_years rt_kind rt_unsure rt_may rt_tried rt_name) R0 := by
  refine xI_of (by decide) (Nat.le_of_ble_eq_true rfl) (fun p e s m args below meth c A C ls hl G => ?_)
  have hx := C.1
  have hb := C.2.1
  have hl : lv_has ls 2 [(0, .ref (ad 0)), (1, .ref (E.2.2.1 15))] := hl
  unfold f_M_isWord at hf
  refine lv_aload_n hx hb dX12_isWord_0 rfl (lv_at hl 0 rfl) ?_
  refine x_get C G fX12_71.g (wR_at0) rfl dX12_isWord_1 ?_
  refine lv_iconst (v := 2) hx hb dX12_isWord_4 (by decide) ?_
  obtain ⟨b1, hr, hf⟩ := bd_go hf
  cases b1 with
  | true =>
    have hf := it_t rfl hf
    have J : ∀ (H : Heap) (locs : List Loc), xG s E A (wR E ad m_thrown m_trouble m_where m_tv m_tape m_taped m_size m_spot m_sort m_place m_number m_fault m_wrongAt m_word m_v m_x m_past m_kept m_acts m_images m_matchNow m_slopsNow m_matchesNow m_slopped m_seatBest m_fedBest m_slopsBest m_sawBest m_leastNow m_stableNow m_fitsNow m_someNow m_everyNow m_otherIn m_askLeft rt_seats rt_slack rt_saw rt_quarrel rt_people rt_pairs rt_forks rt_unsures rt_trieds rt_fed rt_seat rt_one rt_other rt_years rt_kind rt_unsure rt_may rt_tried rt_name) H locs → W p l e (xR 6 143) s m args below meth c H locs 0 0 (MQ below (xqI E A (wR E ad m_thrown m_trouble m_where m_tv m_tape m_taped m_size m_spot m_sort m_place m_number m_fault m_wrongAt m_word m_v m_x m_past m_kept m_acts m_images m_matchNow m_slopsNow m_matchesNow m_slopped m_seatBest m_fedBest m_slopsBest m_sawBest m_leastNow m_stableNow m_fitsNow m_someNow m_everyNow m_otherIn m_askLeft rt_seats rt_slack rt_saw rt_quarrel rt_people rt_pairs rt_forks rt_unsures rt_trieds rt_fed rt_seat rt_one rt_other rt_years rt_kind rt_unsure rt_may rt_tried rt_name) (some .boolean) R0) args s 0 0 A) (F0 m 24 ls []) := by
      intro H locs G
      refine lv_iconst (v := 0) hx hb dX12_isWord_24 (by decide) ?_
      obtain rfl := Option.some.inj hf
      exact xI_ret (r := (0 : Int32)) C G rfl dX12_isWord_25
    have hf := hr
    clear hr
    refine lv_icmp_ne (tgt := 24) hx hb dX12_isWord_5 (by decide) (fun h => ?_) (fun h => ?_)
    · have hf := it_f h hf
      exact J _ _ G
    · have hf := it_t h hf
      refine lv_aload_n hx hb dX12_isWord_8 rfl (lv_at hl 0 rfl) ?_
      refine x_get C G fX12_87.g (wR_at0) rfl dX12_isWord_9 ?_
      refine lv_aload_n hx hb dX12_isWord_12 rfl (lv_at hl 1 rfl) ?_
      refine xL_S C G (c_M_packed 15 (by decide) (6308 : Int64) (by decide +kernel)) mX12_packed kX12_103 ⟨Nat.le_of_ble_eq_true rfl, Nat.le_of_ble_eq_true rfl⟩ rfl hl.1 rfl (Nat.le_of_ble_eq_true rfl) ⟨Nat.le_refl _, Nat.le_refl _⟩ dX12_isWord_13 (fun H locs G => ?_)
      refine W.lcmp hx hb dX12_isWord_16 ?_
      refine lv_if_ne (tgt := 24) hx hb dX12_isWord_17 (by decide) (fun h => ?_) (fun h => ?_)
      · have hf := it_f h hf
        exact J _ _ G
      · have hf := it_t h hf
        exact absurd (Option.some.inj hf) (by decide)
  | false =>
    have hf := it_f (by decide) hf
    have J : ∀ (H : Heap) (locs : List Loc), xG s E A (wR E ad m_thrown m_trouble m_where m_tv m_tape m_taped m_size m_spot m_sort m_place m_number m_fault m_wrongAt m_word m_v m_x m_past m_kept m_acts m_images m_matchNow m_slopsNow m_matchesNow m_slopped m_seatBest m_fedBest m_slopsBest m_sawBest m_leastNow m_stableNow m_fitsNow m_someNow m_everyNow m_otherIn m_askLeft rt_seats rt_slack rt_saw rt_quarrel rt_people rt_pairs rt_forks rt_unsures rt_trieds rt_fed rt_seat rt_one rt_other rt_years rt_kind rt_unsure rt_may rt_tried rt_name) H locs → W p l e (xR 6 143) s m args below meth c H locs 0 0 (MQ below (xqI E A (wR E ad m_thrown m_trouble m_where m_tv m_tape m_taped m_size m_spot m_sort m_place m_number m_fault m_wrongAt m_word m_v m_x m_past m_kept m_acts m_images m_matchNow m_slopsNow m_matchesNow m_slopped m_seatBest m_fedBest m_slopsBest m_sawBest m_leastNow m_stableNow m_fitsNow m_someNow m_everyNow m_otherIn m_askLeft rt_seats rt_slack rt_saw rt_quarrel rt_people rt_pairs rt_forks rt_unsures rt_trieds rt_fed rt_seat rt_one rt_other rt_years rt_kind rt_unsure rt_may rt_tried rt_name) (some .boolean) R0) args s 0 0 A) (F0 m 20 ls []) := by
      intro H locs G
      refine lv_iconst (v := 1) hx hb dX12_isWord_20 (by decide) ?_
      refine lv_goto (tgt := 25) hx hb dX12_isWord_21 (by decide) ?_
      obtain rfl := Option.some.inj hf
      exact xI_ret (r := (1 : Int32)) C G rfl dX12_isWord_25
    have hf := hr
    clear hr
    refine lv_icmp_ne (tgt := 24) hx hb dX12_isWord_5 (by decide) (fun h => ?_) (fun h => ?_)
    · have hf := it_f h hf
      exact absurd (Option.some.inj hf) (by decide)
    · have hf := it_t h hf
      refine lv_aload_n hx hb dX12_isWord_8 rfl (lv_at hl 0 rfl) ?_
      refine x_get C G fX12_87.g (wR_at0) rfl dX12_isWord_9 ?_
      refine lv_aload_n hx hb dX12_isWord_12 rfl (lv_at hl 1 rfl) ?_
      refine xL_S C G (c_M_packed 15 (by decide) (6308 : Int64) (by decide +kernel)) mX12_packed kX12_103 ⟨Nat.le_of_ble_eq_true rfl, Nat.le_of_ble_eq_true rfl⟩ rfl hl.1 rfl (Nat.le_of_ble_eq_true rfl) ⟨Nat.le_refl _, Nat.le_refl _⟩ dX12_isWord_13 (fun H locs G => ?_)
      refine W.lcmp hx hb dX12_isWord_16 ?_
      refine lv_if_ne (tgt := 24) hx hb dX12_isWord_17 (by decide) (fun h => ?_) (fun h => ?_)
      · have hf := it_f h hf
        exact absurd (Option.some.inj hf) (by decide)
      · have hf := it_t h hf
        exact J _ _ G
set_option maxHeartbeats 4000000 in
set_option maxRecDepth 100000 in
theorem c_M_isWord_m_starved_R {l : Launch} {E : xE} {ad : Nat → Nat} {m_thrown m_trouble m_where m_taped m_size m_spot m_sort m_place m_number m_fault m_wrongAt m_acts m_images m_matchNow m_slopsNow m_matchesNow m_fedBest m_slopsBest m_sawBest m_leastNow m_stableNow m_fitsNow m_someNow m_everyNow m_askLeft rt_seats rt_slack rt_saw rt_quarrel rt_people rt_pairs rt_forks rt_unsures rt_trieds rt_fed : Int32} {m_tv : Value} {m_tape m_v m_x m_past m_kept m_slopped m_seatBest m_otherIn rt_seat rt_one rt_other rt_years rt_kind rt_unsure rt_may rt_tried : Nat → Int32} {m_word : Int64} {rt_name : Nat → Int64} {R0 : Int32} (hf : f_M_isWord (21073844388 : Int64) m_sort m_word = some R0) : xI l E yX12_isWord cX12_isWord 2 (some .boolean) 6 143 [.ref (ad 0), .ref (E.2.2.1 16)] (wR E ad m_thrown m_trouble m_where m_tv m_tape m_taped m_size m_spot m_sort m_place m_number m_fault m_wrongAt m_word m_v m_x m_past m_kept m_acts m_images m_matchNow m_slopsNow m_matchesNow m_slopped m_seatBest m_fedBest m_slopsBest m_sawBest m_leastNow m_stableNow m_fitsNow m_someNow m_everyNow m_otherIn m_askLeft rt_seats rt_slack rt_saw rt_quarrel rt_people rt_pairs rt_forks rt_unsures rt_trieds rt_fed rt_seat rt_one rt_other rt_years rt_kind rt_unsure rt_may rt_tried rt_name) (wR E ad m_thrown m_trouble m_where m_tv m_tape m_taped m_size m_spot m_sort m_place m_number m_fault m_wrongAt m_word m_v m_x m_past m_kept m_acts m_images m_matchNow m_slopsNow m_matchesNow m_slopped m_seatBest m_fedBest m_slopsBest m_sawBest m_leastNow m_stableNow m_fitsNow m_someNow m_everyNow m_otherIn m_askLeft rt_seats rt_slack rt_saw rt_quarrel rt_people rt_pairs rt_forks rt_unsures rt_trieds rt_fed rt_seat rt_one rt_other rt_years rt_kind rt_unsure rt_may rt_tried rt_name) R0 := by
  refine xI_of (by decide) (Nat.le_of_ble_eq_true rfl) (fun p e s m args below meth c A C ls hl G => ?_)
  have hx := C.1
  have hb := C.2.1
  have hl : lv_has ls 2 [(0, .ref (ad 0)), (1, .ref (E.2.2.1 16))] := hl
  unfold f_M_isWord at hf
  refine lv_aload_n hx hb dX12_isWord_0 rfl (lv_at hl 0 rfl) ?_
  refine x_get C G fX12_71.g (wR_at0) rfl dX12_isWord_1 ?_
  refine lv_iconst (v := 2) hx hb dX12_isWord_4 (by decide) ?_
  obtain ⟨b1, hr, hf⟩ := bd_go hf
  cases b1 with
  | true =>
    have hf := it_t rfl hf
    have J : ∀ (H : Heap) (locs : List Loc), xG s E A (wR E ad m_thrown m_trouble m_where m_tv m_tape m_taped m_size m_spot m_sort m_place m_number m_fault m_wrongAt m_word m_v m_x m_past m_kept m_acts m_images m_matchNow m_slopsNow m_matchesNow m_slopped m_seatBest m_fedBest m_slopsBest m_sawBest m_leastNow m_stableNow m_fitsNow m_someNow m_everyNow m_otherIn m_askLeft rt_seats rt_slack rt_saw rt_quarrel rt_people rt_pairs rt_forks rt_unsures rt_trieds rt_fed rt_seat rt_one rt_other rt_years rt_kind rt_unsure rt_may rt_tried rt_name) H locs → W p l e (xR 6 143) s m args below meth c H locs 0 0 (MQ below (xqI E A (wR E ad m_thrown m_trouble m_where m_tv m_tape m_taped m_size m_spot m_sort m_place m_number m_fault m_wrongAt m_word m_v m_x m_past m_kept m_acts m_images m_matchNow m_slopsNow m_matchesNow m_slopped m_seatBest m_fedBest m_slopsBest m_sawBest m_leastNow m_stableNow m_fitsNow m_someNow m_everyNow m_otherIn m_askLeft rt_seats rt_slack rt_saw rt_quarrel rt_people rt_pairs rt_forks rt_unsures rt_trieds rt_fed rt_seat rt_one rt_other rt_years rt_kind rt_unsure rt_may rt_tried rt_name) (some .boolean) R0) args s 0 0 A) (F0 m 24 ls []) := by
      intro H locs G
      refine lv_iconst (v := 0) hx hb dX12_isWord_24 (by decide) ?_
      obtain rfl := Option.some.inj hf
      exact xI_ret (r := (0 : Int32)) C G rfl dX12_isWord_25
    have hf := hr
    clear hr
    refine lv_icmp_ne (tgt := 24) hx hb dX12_isWord_5 (by decide) (fun h => ?_) (fun h => ?_)
    · have hf := it_f h hf
      exact J _ _ G
    · have hf := it_t h hf
      refine lv_aload_n hx hb dX12_isWord_8 rfl (lv_at hl 0 rfl) ?_
      refine x_get C G fX12_87.g (wR_at0) rfl dX12_isWord_9 ?_
      refine lv_aload_n hx hb dX12_isWord_12 rfl (lv_at hl 1 rfl) ?_
      refine xL_S C G (c_M_packed 16 (by decide) (21073844388 : Int64) (by decide +kernel)) mX12_packed kX12_103 ⟨Nat.le_of_ble_eq_true rfl, Nat.le_of_ble_eq_true rfl⟩ rfl hl.1 rfl (Nat.le_of_ble_eq_true rfl) ⟨Nat.le_refl _, Nat.le_refl _⟩ dX12_isWord_13 (fun H locs G => ?_)
      refine W.lcmp hx hb dX12_isWord_16 ?_
      refine lv_if_ne (tgt := 24) hx hb dX12_isWord_17 (by decide) (fun h => ?_) (fun h => ?_)
      · have hf := it_f h hf
        exact J _ _ G
      · have hf := it_t h hf
        exact absurd (Option.some.inj hf) (by decide)
  | false =>
    have hf := it_f (by decide) hf
    have J : ∀ (H : Heap) (locs : List Loc), xG s E A (wR E ad m_thrown m_trouble m_where m_tv m_tape m_taped m_size m_spot m_sort m_place m_number m_fault m_wrongAt m_word m_v m_x m_past m_kept m_acts m_images m_matchNow m_slopsNow m_matchesNow m_slopped m_seatBest m_fedBest m_slopsBest m_sawBest m_leastNow m_stableNow m_fitsNow m_someNow m_everyNow m_otherIn m_askLeft rt_seats rt_slack rt_saw rt_quarrel rt_people rt_pairs rt_forks rt_unsures rt_trieds rt_fed rt_seat rt_one rt_other rt_years rt_kind rt_unsure rt_may rt_tried rt_name) H locs → W p l e (xR 6 143) s m args below meth c H locs 0 0 (MQ below (xqI E A (wR E ad m_thrown m_trouble m_where m_tv m_tape m_taped m_size m_spot m_sort m_place m_number m_fault m_wrongAt m_word m_v m_x m_past m_kept m_acts m_images m_matchNow m_slopsNow m_matchesNow m_slopped m_seatBest m_fedBest m_slopsBest m_sawBest m_leastNow m_stableNow m_fitsNow m_someNow m_everyNow m_otherIn m_askLeft rt_seats rt_slack rt_saw rt_quarrel rt_people rt_pairs rt_forks rt_unsures rt_trieds rt_fed rt_seat rt_one rt_other rt_years rt_kind rt_unsure rt_may rt_tried rt_name) (some .boolean) R0) args s 0 0 A) (F0 m 20 ls []) := by
      intro H locs G
      refine lv_iconst (v := 1) hx hb dX12_isWord_20 (by decide) ?_
      refine lv_goto (tgt := 25) hx hb dX12_isWord_21 (by decide) ?_
      obtain rfl := Option.some.inj hf
      exact xI_ret (r := (1 : Int32)) C G rfl dX12_isWord_25
    have hf := hr
    clear hr
    refine lv_icmp_ne (tgt := 24) hx hb dX12_isWord_5 (by decide) (fun h => ?_) (fun h => ?_)
    · have hf := it_f h hf
      exact absurd (Option.some.inj hf) (by decide)
    · have hf := it_t h hf
      refine lv_aload_n hx hb dX12_isWord_8 rfl (lv_at hl 0 rfl) ?_
      refine x_get C G fX12_87.g (wR_at0) rfl dX12_isWord_9 ?_
      refine lv_aload_n hx hb dX12_isWord_12 rfl (lv_at hl 1 rfl) ?_
      refine xL_S C G (c_M_packed 16 (by decide) (21073844388 : Int64) (by decide +kernel)) mX12_packed kX12_103 ⟨Nat.le_of_ble_eq_true rfl, Nat.le_of_ble_eq_true rfl⟩ rfl hl.1 rfl (Nat.le_of_ble_eq_true rfl) ⟨Nat.le_refl _, Nat.le_refl _⟩ dX12_isWord_13 (fun H locs G => ?_)
      refine W.lcmp hx hb dX12_isWord_16 ?_
      refine lv_if_ne (tgt := 24) hx hb dX12_isWord_17 (by decide) (fun h => ?_) (fun h => ?_)
      · have hf := it_f h hf
        exact absurd (Option.some.inj hf) (by decide)
      · have hf := it_t h hf
        exact J _ _ G
set_option maxHeartbeats 4000000 in
set_option maxRecDepth 100000 in
theorem w_Tab_isTried_rt_R_L2 {p : Program} {l : Launch} {e : Env} {s : State} {m : MethodId} {args : Array Value} {below : List Frame} {meth : Method} {c : Code} {A : Nat → Prop} {E : xE} {ad : Nat → Nat} {m_thrown m_trouble m_where m_taped m_size m_spot m_sort m_place m_number m_fault m_wrongAt m_acts m_images m_matchNow m_slopsNow m_matchesNow m_fedBest m_slopsBest m_sawBest m_leastNow m_stableNow m_fitsNow m_someNow m_everyNow m_askLeft rt_seats rt_slack rt_saw rt_quarrel rt_people rt_pairs rt_forks rt_unsures rt_trieds rt_fed : Int32} {m_tv : Value} {m_tape m_v m_x m_past m_kept m_slopped m_seatBest m_otherIn rt_seat rt_one rt_other rt_years rt_kind rt_unsure rt_may rt_tried : Nat → Int32} {m_word : Int64} {rt_name : Nat → Int64} {l1 : Int32} {o : (Int32) ⊕ (Unit)} {R0 : Int32} (C : xC p s m args meth c cX11_isTried 3 RX11 E A (some .boolean)) (Jr : ∀ r, o = .inl r → r = R0) (J : ∀ t, o = .inr t → ∀ (H : Heap) (locs : List Loc) (ls : Array Slot), xG s E A (wR E ad m_thrown m_trouble m_where m_tv m_tape m_taped m_size m_spot m_sort m_place m_number m_fault m_wrongAt m_word m_v m_x m_past m_kept m_acts m_images m_matchNow m_slopsNow m_matchesNow m_slopped m_seatBest m_fedBest m_slopsBest m_sawBest m_leastNow m_stableNow m_fitsNow m_someNow m_everyNow m_otherIn m_askLeft rt_seats rt_slack rt_saw rt_quarrel rt_people rt_pairs rt_forks rt_unsures rt_trieds rt_fed rt_seat rt_one rt_other rt_years rt_kind rt_unsure rt_may rt_tried rt_name) H locs → lv_has ls 3 [] → W p l e (xR 0 0) s m args below meth c H locs 0 0 (MQ below (xqI E A (wR E ad m_thrown m_trouble m_where m_tv m_tape m_taped m_size m_spot m_sort m_place m_number m_fault m_wrongAt m_word m_v m_x m_past m_kept m_acts m_images m_matchNow m_slopsNow m_matchesNow m_slopped m_seatBest m_fedBest m_slopsBest m_sawBest m_leastNow m_stableNow m_fitsNow m_someNow m_everyNow m_otherIn m_askLeft rt_seats rt_slack rt_saw rt_quarrel rt_people rt_pairs rt_forks rt_unsures rt_trieds rt_fed rt_seat rt_one rt_other rt_years rt_kind rt_unsure rt_may rt_tried rt_name) (some .boolean) R0) args s 0 0 A) (F0 m 28 ls [])) :
    ∀ (n : Nat) (l2 : Int32) (H : Heap) (locs : List Loc) (ls : Array Slot), xG s E A (wR E ad m_thrown m_trouble m_where m_tv m_tape m_taped m_size m_spot m_sort m_place m_number m_fault m_wrongAt m_word m_v m_x m_past m_kept m_acts m_images m_matchNow m_slopsNow m_matchesNow m_slopped m_seatBest m_fedBest m_slopsBest m_sawBest m_leastNow m_stableNow m_fitsNow m_someNow m_everyNow m_otherIn m_askLeft rt_seats rt_slack rt_saw rt_quarrel rt_people rt_pairs rt_forks rt_unsures rt_trieds rt_fed rt_seat rt_one rt_other rt_years rt_kind rt_unsure rt_may rt_tried rt_name) H locs → lv_has ls 3 [(0, .ref (ad 9)), (1, .int l1), (2, .int l2)] → f_Tab_isTried_L2 l1 rt_trieds rt_tried n l2 = some o → W p l e (xR 0 0) s m args below meth c H locs 0 0 (MQ below (xqI E A (wR E ad m_thrown m_trouble m_where m_tv m_tape m_taped m_size m_spot m_sort m_place m_number m_fault m_wrongAt m_word m_v m_x m_past m_kept m_acts m_images m_matchNow m_slopsNow m_matchesNow m_slopped m_seatBest m_fedBest m_slopsBest m_sawBest m_leastNow m_stableNow m_fitsNow m_someNow m_everyNow m_otherIn m_askLeft rt_seats rt_slack rt_saw rt_quarrel rt_people rt_pairs rt_forks rt_unsures rt_trieds rt_fed rt_seat rt_one rt_other rt_years rt_kind rt_unsure rt_may rt_tried rt_name) (some .boolean) R0) args s 0 0 A) (F0 m 2 ls []) := by
  have hx := C.1
  have hb := C.2.1
  intro n
  induction n with
  | zero =>
    intro l2 H locs ls G hl hf
    exact nomatch (show (none : Option ((Int32) ⊕ (Unit))) = some o from hf)
  | succ n ih =>
    intro l2 H locs ls G hl hf
    rw [f_Tab_isTried_L2] at hf
    refine lv_iload_n hx hb dX11_isTried_2 rfl (lv_at hl 2 rfl) ?_
    refine lv_aload_n hx hb dX11_isTried_3 rfl (lv_at hl 0 rfl) ?_
    refine x_get C G fX11_50.g (wR_at9) rfl dX11_isTried_4 ?_
    refine lv_icmp_ge (tgt := 28) hx hb dX11_isTried_7 (by decide) (fun h => ?_) (fun h => ?_)
    · have hf := it_t h hf
      exact J _ (Option.some.inj hf).symm _ _ _ G (lv_sub hl [] rfl)
    · have hf := it_f h hf
      refine lv_aload_n hx hb dX11_isTried_10 rfl (lv_at hl 0 rfl) ?_
      refine x_get C G fX11_33 (wR_at9) rfl dX11_isTried_11 ?_
      refine lv_iload_n hx hb dX11_isTried_14 rfl (lv_at hl 2 rfl) ?_
      have hi := ck_in hf
      have hf := ck_go hf
      refine x_iald C G (wR_at17) hi dX11_isTried_15 ?_
      refine lv_iload_n hx hb dX11_isTried_16 rfl (lv_at hl 1 rfl) ?_
      refine lv_icmp_ne (tgt := 22) hx hb dX11_isTried_17 (by decide) (fun h => ?_) (fun h => ?_)
      · have hf := it_f h hf
        obtain ⟨x1, ex1⟩ : ∃ z : Int32, z = l2 + (1 : Int32) := ⟨_, rfl⟩
        have hf := lt_go ex1 hf
        refine lv_iinc (v := x1) (lv' := [(2, .int x1), (0, .ref (ad 9)), (1, .int l1)]) hx hb dX11_isTried_22 hl (k := 2) rfl (by rw [ex1]; rfl) (by decide) rfl (fun ls hl => ?_)
        refine lv_goto (tgt := 2) hx hb dX11_isTried_25 (by decide) ?_
        exact ih x1 _ _ _ G (lv_sub hl [1, 2, 0] rfl) hf
      · have hf := it_t h hf
        refine lv_iconst (v := 1) hx hb dX11_isTried_20 (by decide) ?_
        obtain rfl := Jr _ (Option.some.inj hf).symm
        exact xI_ret (r := (1 : Int32)) C G rfl dX11_isTried_21
set_option maxHeartbeats 4000000 in
set_option maxRecDepth 100000 in
theorem c_Tab_isTried_rt_R {l : Launch} {E : xE} {ad : Nat → Nat} {m_thrown m_trouble m_where m_taped m_size m_spot m_sort m_place m_number m_fault m_wrongAt m_acts m_images m_matchNow m_slopsNow m_matchesNow m_fedBest m_slopsBest m_sawBest m_leastNow m_stableNow m_fitsNow m_someNow m_everyNow m_askLeft rt_seats rt_slack rt_saw rt_quarrel rt_people rt_pairs rt_forks rt_unsures rt_trieds rt_fed : Int32} {m_tv : Value} {m_tape m_v m_x m_past m_kept m_slopped m_seatBest m_otherIn rt_seat rt_one rt_other rt_years rt_kind rt_unsure rt_may rt_tried : Nat → Int32} {m_word : Int64} {rt_name : Nat → Int64} {l1 : Int32} {R0 : Int32} (hf : f_Tab_isTried l1 rt_trieds rt_tried = some R0) : xI l E yX11_isTried cX11_isTried 3 (some .boolean) 0 0 [.ref (ad 9), .int l1] (wR E ad m_thrown m_trouble m_where m_tv m_tape m_taped m_size m_spot m_sort m_place m_number m_fault m_wrongAt m_word m_v m_x m_past m_kept m_acts m_images m_matchNow m_slopsNow m_matchesNow m_slopped m_seatBest m_fedBest m_slopsBest m_sawBest m_leastNow m_stableNow m_fitsNow m_someNow m_everyNow m_otherIn m_askLeft rt_seats rt_slack rt_saw rt_quarrel rt_people rt_pairs rt_forks rt_unsures rt_trieds rt_fed rt_seat rt_one rt_other rt_years rt_kind rt_unsure rt_may rt_tried rt_name) (wR E ad m_thrown m_trouble m_where m_tv m_tape m_taped m_size m_spot m_sort m_place m_number m_fault m_wrongAt m_word m_v m_x m_past m_kept m_acts m_images m_matchNow m_slopsNow m_matchesNow m_slopped m_seatBest m_fedBest m_slopsBest m_sawBest m_leastNow m_stableNow m_fitsNow m_someNow m_everyNow m_otherIn m_askLeft rt_seats rt_slack rt_saw rt_quarrel rt_people rt_pairs rt_forks rt_unsures rt_trieds rt_fed rt_seat rt_one rt_other rt_years rt_kind rt_unsure rt_may rt_tried rt_name) R0 := by
  refine xI_of (by decide) (Nat.le_of_ble_eq_true rfl) (fun p e s m args below meth c A C ls hl G => ?_)
  have hx := C.1
  have hb := C.2.1
  have hl : lv_has ls 3 [(0, .ref (ad 9)), (1, .int l1)] := hl
  unfold f_Tab_isTried at hf
  refine lv_iconst (v := 0) hx hb dX11_isTried_0 (by decide) ?_
  refine lv_istore_n (lv' := [(2, .int (0 : Int32)), (0, .ref (ad 9)), (1, .int l1)]) hx hb dX11_isTried_1 rfl hl (by decide) rfl (fun ls hl => ?_)
  obtain ⟨ox2, hr, hf⟩ := bd_go hf
  have Jx2 : ∀ x2, ox2 = .inr x2 → ∀ (H : Heap) (locs : List Loc) (ls : Array Slot), xG s E A (wR E ad m_thrown m_trouble m_where m_tv m_tape m_taped m_size m_spot m_sort m_place m_number m_fault m_wrongAt m_word m_v m_x m_past m_kept m_acts m_images m_matchNow m_slopsNow m_matchesNow m_slopped m_seatBest m_fedBest m_slopsBest m_sawBest m_leastNow m_stableNow m_fitsNow m_someNow m_everyNow m_otherIn m_askLeft rt_seats rt_slack rt_saw rt_quarrel rt_people rt_pairs rt_forks rt_unsures rt_trieds rt_fed rt_seat rt_one rt_other rt_years rt_kind rt_unsure rt_may rt_tried rt_name) H locs → lv_has ls 3 [] → W p l e (xR 0 0) s m args below meth c H locs 0 0 (MQ below (xqI E A (wR E ad m_thrown m_trouble m_where m_tv m_tape m_taped m_size m_spot m_sort m_place m_number m_fault m_wrongAt m_word m_v m_x m_past m_kept m_acts m_images m_matchNow m_slopsNow m_matchesNow m_slopped m_seatBest m_fedBest m_slopsBest m_sawBest m_leastNow m_stableNow m_fitsNow m_someNow m_everyNow m_otherIn m_askLeft rt_seats rt_slack rt_saw rt_quarrel rt_people rt_pairs rt_forks rt_unsures rt_trieds rt_fed rt_seat rt_one rt_other rt_years rt_kind rt_unsure rt_may rt_tried rt_name) (some .boolean) R0) args s 0 0 A) (F0 m 28 ls []) := by
    intro x2 hq H locs ls G hl
    subst hq
    have hf := sm_r hf
    refine lv_iconst (v := 0) hx hb dX11_isTried_28 (by decide) ?_
    obtain rfl := Option.some.inj hf
    exact xI_ret (r := (0 : Int32)) C G rfl dX11_isTried_29
  have Jrx2 : ∀ r, ox2 = .inl r → r = R0 := by
    intro r hq
    subst hq
    exact Option.some.inj hf
  exact w_Tab_isTried_rt_R_L2 C Jrx2 Jx2 fu _ _ _ _ G (lv_sub hl [1, 2, 0] rfl) hr
set_option maxHeartbeats 4000000 in
set_option maxRecDepth 100000 in
theorem c_M_readTried_m_R {l : Launch} {E : xE} {ad : Nat → Nat} {m_thrown m_trouble m_where m_taped m_size m_spot m_sort m_place m_number m_fault m_wrongAt m_acts m_images m_matchNow m_slopsNow m_matchesNow m_fedBest m_slopsBest m_sawBest m_leastNow m_stableNow m_fitsNow m_someNow m_everyNow m_askLeft rt_seats rt_slack rt_saw rt_quarrel rt_people rt_pairs rt_forks rt_unsures rt_trieds rt_fed : Int32} {m_tv : Value} {m_tape m_v m_x m_past m_kept m_slopped m_seatBest m_otherIn rt_seat rt_one rt_other rt_years rt_kind rt_unsure rt_may rt_tried : Nat → Int32} {m_word : Int64} {rt_name : Nat → Int64} {R0 : Int32 × Int32 × Int32 × Int32 × Int32 × Int32 × Int64 × Int32 × Int32 × (Nat → Int32)} (hf : f_M_readTried m_tape m_size m_spot m_sort m_place m_number m_fault m_wrongAt m_word rt_seats rt_people rt_pairs rt_trieds rt_fed rt_one rt_other rt_tried rt_name = some R0) : xV l E yX12_readTried cX12_readTried 3 none 11 249 [.ref (ad 0)] (wR E ad m_thrown m_trouble m_where m_tv m_tape m_taped m_size m_spot m_sort m_place m_number m_fault m_wrongAt m_word m_v m_x m_past m_kept m_acts m_images m_matchNow m_slopsNow m_matchesNow m_slopped m_seatBest m_fedBest m_slopsBest m_sawBest m_leastNow m_stableNow m_fitsNow m_someNow m_everyNow m_otherIn m_askLeft rt_seats rt_slack rt_saw rt_quarrel rt_people rt_pairs rt_forks rt_unsures rt_trieds rt_fed rt_seat rt_one rt_other rt_years rt_kind rt_unsure rt_may rt_tried rt_name) (wR E ad m_thrown m_trouble m_where m_tv m_tape m_taped m_size R0.1 R0.2.1 R0.2.2.1 R0.2.2.2.1 R0.2.2.2.2.1 R0.2.2.2.2.2.1 R0.2.2.2.2.2.2.1 m_v m_x m_past m_kept m_acts m_images m_matchNow m_slopsNow m_matchesNow m_slopped m_seatBest m_fedBest m_slopsBest m_sawBest m_leastNow m_stableNow m_fitsNow m_someNow m_everyNow m_otherIn m_askLeft rt_seats rt_slack rt_saw rt_quarrel rt_people rt_pairs rt_forks rt_unsures R0.2.2.2.2.2.2.2.1 R0.2.2.2.2.2.2.2.2.1 rt_seat rt_one rt_other rt_years rt_kind rt_unsure rt_may R0.2.2.2.2.2.2.2.2.2 rt_name) := by
  refine xV_of (by decide) (Nat.le_of_ble_eq_true rfl) (fun p e s m args below meth c A C ls hl G => ?_)
  have hx := C.1
  have hb := C.2.1
  have hl : lv_has ls 3 [(0, .ref (ad 0))] := hl
  unfold f_M_readTried at hf
  refine lv_aload_n hx hb dX12_readTried_0 rfl (lv_at hl 0 rfl) ?_
  refine lv_aload_n hx hb dX12_readTried_1 rfl (lv_at hl 0 rfl) ?_
  refine x_get C G fX12_145.g (wR_at0) rfl dX12_readTried_2 ?_
  refine x_get C G fX12_277.g (wR_at9) rfl dX12_readTried_5 ?_
  refine lv_bipush (v := 6) hx hb dX12_readTried_8 (by decide) ?_
  obtain ⟨x1, hc, hf⟩ := bd_go hf
  refine xV_V C G (c_M_lineBegins_m_R hc) mX12_lineBegins kX12_215 (wR_at0) rfl ⟨Nat.le_of_ble_eq_true rfl, Nat.le_of_ble_eq_true rfl⟩ rfl hl.1 rfl (Nat.le_of_ble_eq_true rfl) ⟨Nat.le_refl _, Nat.le_refl _⟩ dX12_readTried_10 (fun H locs G => ?_)
  refine lv_aload_n hx hb dX12_readTried_13 rfl (lv_at hl 0 rfl) ?_
  obtain ⟨x2, hc, hf⟩ := bd_go hf
  refine xI_V C G (c_M_pairAt_m_R hc) mX12_pairAt kX12_266 (wR_at0) rfl ⟨Nat.le_of_ble_eq_true rfl, Nat.le_of_ble_eq_true rfl⟩ rfl hl.1 rfl (Nat.le_of_ble_eq_true rfl) ⟨Nat.le_refl _, Nat.le_refl _⟩ dX12_readTried_14 (fun hz H locs G => ?_)
  refine lv_istore_n (lv' := [(1, .int x2.1), (0, .ref (ad 0))]) hx hb dX12_readTried_17 rfl hl (by decide) rfl (fun ls hl => ?_)
  refine lv_aload_n hx hb dX12_readTried_18 rfl (lv_at hl 1 rfl) ?_
  refine x_get C G fX12_71.g (wR_at0) rfl dX12_readTried_19 ?_
  refine lv_iconst (v := 5) hx hb dX12_readTried_22 (by decide) ?_
  obtain ⟨x3, hrx3, hf⟩ := bd_go hf
  have Jx3 : ∀ (H : Heap) (locs : List Loc) (ls : Array Slot), xG s E A (wR E ad m_thrown m_trouble m_where m_tv m_tape m_taped m_size x2.2.1 x3.1 x2.2.2.2.1 x2.2.2.2.2.1 x3.2.1 x3.2.2 x2.2.2.2.2.2.2.2 m_v m_x m_past m_kept m_acts m_images m_matchNow m_slopsNow m_matchesNow m_slopped m_seatBest m_fedBest m_slopsBest m_sawBest m_leastNow m_stableNow m_fitsNow m_someNow m_everyNow m_otherIn m_askLeft rt_seats rt_slack rt_saw rt_quarrel rt_people rt_pairs rt_forks rt_unsures rt_trieds rt_fed rt_seat rt_one rt_other rt_years rt_kind rt_unsure rt_may rt_tried rt_name) H locs → lv_has ls 3 [(0, .ref (ad 0)), (1, .int x2.1)] → W p l e (xR 11 249) s m args below meth c H locs 0 0 (MQ below (xqV E A (wR E ad m_thrown m_trouble m_where m_tv m_tape m_taped m_size R0.1 R0.2.1 R0.2.2.1 R0.2.2.2.1 R0.2.2.2.2.1 R0.2.2.2.2.2.1 R0.2.2.2.2.2.2.1 m_v m_x m_past m_kept m_acts m_images m_matchNow m_slopsNow m_matchesNow m_slopped m_seatBest m_fedBest m_slopsBest m_sawBest m_leastNow m_stableNow m_fitsNow m_someNow m_everyNow m_otherIn m_askLeft rt_seats rt_slack rt_saw rt_quarrel rt_people rt_pairs rt_forks rt_unsures R0.2.2.2.2.2.2.2.1 R0.2.2.2.2.2.2.2.2.1 rt_seat rt_one rt_other rt_years rt_kind rt_unsure rt_may R0.2.2.2.2.2.2.2.2.2 rt_name)) args s 0 0 A) (F0 m 42 ls []) := by
    intro H locs ls G hl
    refine lv_aload_n hx hb dX12_readTried_42 rfl (lv_at hl 0 rfl) ?_
    obtain ⟨x4, hc, hf⟩ := bd_go hf
    refine xV_V C G (c_M_goesOn_m_R hc) mX12_goesOn kX12_107 (wR_at0) rfl ⟨Nat.le_of_ble_eq_true rfl, Nat.le_of_ble_eq_true rfl⟩ rfl hl.1 rfl (Nat.le_of_ble_eq_true rfl) ⟨Nat.le_refl _, Nat.le_refl _⟩ dX12_readTried_43 (fun H locs G => ?_)
    refine lv_aload_n hx hb dX12_readTried_46 rfl (lv_at hl 0 rfl) ?_
    refine x_ldcSW hx hb C.2.2.2.1 (C.2.2.2.2.2.2.2.2.2.2.1 15 (by decide)) dX12_readTried_47 ?_
    obtain ⟨x5, hc, hf⟩ := bd_go hf
    refine xI_V C G (c_M_isWord_m_fed_R hc) mX12_isWord kX12_110 (wR_at0) rfl ⟨Nat.le_of_ble_eq_true rfl, Nat.le_of_ble_eq_true rfl⟩ rfl hl.1 rfl (Nat.le_of_ble_eq_true rfl) ⟨Nat.le_refl _, Nat.le_refl _⟩ dX12_readTried_50 (fun hz5 H locs G => ?_)
    refine lv_istore_n (lv' := [(2, .int x5), (0, .ref (ad 0)), (1, .int x2.1)]) hx hb dX12_readTried_53 rfl hl (by decide) rfl (fun ls hl => ?_)
    refine lv_iload_n hx hb dX12_readTried_54 rfl (lv_at hl 0 rfl) ?_
    obtain ⟨x6, hrx6, hf⟩ := bd_go hf
    have Jx6 : ∀ (H : Heap) (locs : List Loc) (ls : Array Slot), xG s E A (wR E ad m_thrown m_trouble m_where m_tv m_tape m_taped m_size x4.1 x6.1 x4.2.2.1 x4.2.2.2.1 x6.2.1 x6.2.2 x4.2.2.2.2 m_v m_x m_past m_kept m_acts m_images m_matchNow m_slopsNow m_matchesNow m_slopped m_seatBest m_fedBest m_slopsBest m_sawBest m_leastNow m_stableNow m_fitsNow m_someNow m_everyNow m_otherIn m_askLeft rt_seats rt_slack rt_saw rt_quarrel rt_people rt_pairs rt_forks rt_unsures rt_trieds rt_fed rt_seat rt_one rt_other rt_years rt_kind rt_unsure rt_may rt_tried rt_name) H locs → lv_has ls 3 [(0, .ref (ad 0)), (1, .int x2.1), (2, .int x5)] → W p l e (xR 11 249) s m args below meth c H locs 0 0 (MQ below (xqV E A (wR E ad m_thrown m_trouble m_where m_tv m_tape m_taped m_size R0.1 R0.2.1 R0.2.2.1 R0.2.2.2.1 R0.2.2.2.2.1 R0.2.2.2.2.2.1 R0.2.2.2.2.2.2.1 m_v m_x m_past m_kept m_acts m_images m_matchNow m_slopsNow m_matchesNow m_slopped m_seatBest m_fedBest m_slopsBest m_sawBest m_leastNow m_stableNow m_fitsNow m_someNow m_everyNow m_otherIn m_askLeft rt_seats rt_slack rt_saw rt_quarrel rt_people rt_pairs rt_forks rt_unsures R0.2.2.2.2.2.2.2.1 R0.2.2.2.2.2.2.2.2.1 rt_seat rt_one rt_other rt_years rt_kind rt_unsure rt_may R0.2.2.2.2.2.2.2.2.2 rt_name)) args s 0 0 A) (F0 m 73 ls []) := by
      intro H locs ls G hl
      refine lv_aload_n hx hb dX12_readTried_73 rfl (lv_at hl 0 rfl) ?_
      obtain ⟨x7, hc, hf⟩ := bd_go hf
      refine xV_V C G (c_M_goesOn_m_R hc) mX12_goesOn kX12_107 (wR_at0) rfl ⟨Nat.le_of_ble_eq_true rfl, Nat.le_of_ble_eq_true rfl⟩ rfl hl.1 rfl (Nat.le_of_ble_eq_true rfl) ⟨Nat.le_refl _, Nat.le_refl _⟩ dX12_readTried_74 (fun H locs G => ?_)
      refine lv_aload_n hx hb dX12_readTried_77 rfl (lv_at hl 0 rfl) ?_
      refine x_get C G fX12_71.g (wR_at0) rfl dX12_readTried_78 ?_
      refine lv_iconst (v := 5) hx hb dX12_readTried_81 (by decide) ?_
      refine lv_icmp_ne (tgt := 86) hx hb dX12_readTried_82 (by decide) (fun h => ?_) (fun h => ?_)
      · have hf := it_f h hf
        refine lv_aload_n hx hb dX12_readTried_86 rfl (lv_at hl 0 rfl) ?_
        refine x_get C G fX12_145.g (wR_at0) rfl dX12_readTried_87 ?_
        refine x_get C G fX12_287 (wR_at9) rfl dX12_readTried_90 ?_
        refine lv_aload_n hx hb dX12_readTried_93 rfl (lv_at hl 0 rfl) ?_
        refine x_get C G fX12_145.g (wR_at0) rfl dX12_readTried_94 ?_
        refine x_get C G fX12_277.g (wR_at9) rfl dX12_readTried_97 ?_
        refine lv_iload_n hx hb dX12_readTried_100 rfl (lv_at hl 1 rfl) ?_
        have hi := ck_in hf
        have hf := ck_go hf
        refine x_iast (ws' := (wR E ad m_thrown m_trouble m_where m_tv m_tape m_taped m_size x7.1 x7.2.1 x7.2.2.1 x7.2.2.2.1 x6.2.1 x6.2.2 x7.2.2.2.2 m_v m_x m_past m_kept m_acts m_images m_matchNow m_slopsNow m_matchesNow m_slopped m_seatBest m_fedBest m_slopsBest m_sawBest m_leastNow m_stableNow m_fitsNow m_someNow m_everyNow m_otherIn m_askLeft rt_seats rt_slack rt_saw rt_quarrel rt_people rt_pairs rt_forks rt_unsures rt_trieds rt_fed rt_seat rt_one rt_other rt_years rt_kind rt_unsure rt_may (upd rt_tried rt_trieds.toNatClampNeg x2.1) rt_name)) C G (wR_at17) hi wR_set_rt_tried dX12_readTried_101 (fun H locs G => ?_)
        refine lv_aload_n hx hb dX12_readTried_102 rfl (lv_at hl 0 rfl) ?_
        refine x_get C G fX12_145.g (wR_at0) rfl dX12_readTried_103 ?_
        refine lv_dup hx hb dX12_readTried_106 rfl ?_
        refine x_get C G fX12_289.g (wR_at9) rfl dX12_readTried_107 ?_
        refine lv_iload_n hx hb dX12_readTried_110 rfl (lv_at hl 2 rfl) ?_
        obtain ⟨x8, hrx8, hf⟩ := bd_go hf
        have Jx8 : ∀ (H : Heap) (locs : List Loc) (ls : Array Slot), xG s E A (wR E ad m_thrown m_trouble m_where m_tv m_tape m_taped m_size x7.1 x7.2.1 x7.2.2.1 x7.2.2.2.1 x6.2.1 x6.2.2 x7.2.2.2.2 m_v m_x m_past m_kept m_acts m_images m_matchNow m_slopsNow m_matchesNow m_slopped m_seatBest m_fedBest m_slopsBest m_sawBest m_leastNow m_stableNow m_fitsNow m_someNow m_everyNow m_otherIn m_askLeft rt_seats rt_slack rt_saw rt_quarrel rt_people rt_pairs rt_forks rt_unsures rt_trieds rt_fed rt_seat rt_one rt_other rt_years rt_kind rt_unsure rt_may (upd rt_tried rt_trieds.toNatClampNeg x2.1) rt_name) H locs → lv_has ls 3 [(0, .ref (ad 0))] → W p l e (xR 11 249) s m args below meth c H locs 0 0 (MQ below (xqV E A (wR E ad m_thrown m_trouble m_where m_tv m_tape m_taped m_size R0.1 R0.2.1 R0.2.2.1 R0.2.2.2.1 R0.2.2.2.2.1 R0.2.2.2.2.2.1 R0.2.2.2.2.2.2.1 m_v m_x m_past m_kept m_acts m_images m_matchNow m_slopsNow m_matchesNow m_slopped m_seatBest m_fedBest m_slopsBest m_sawBest m_leastNow m_stableNow m_fitsNow m_someNow m_everyNow m_otherIn m_askLeft rt_seats rt_slack rt_saw rt_quarrel rt_people rt_pairs rt_forks rt_unsures R0.2.2.2.2.2.2.2.1 R0.2.2.2.2.2.2.2.2.1 rt_seat rt_one rt_other rt_years rt_kind rt_unsure rt_may R0.2.2.2.2.2.2.2.2.2 rt_name)) args s 0 0 A) (F0 m 127 ls [.int x8, .int rt_fed, .ref (ad 9)]) := by
          intro H locs ls G hl
          refine lv_ior hx hb dX12_readTried_127 ?_
          refine lv_topi (fun x9 ex9 => ?_)
          have hf := lt_go ex9 hf
          refine x_put (ws' := (wR E ad m_thrown m_trouble m_where m_tv m_tape m_taped m_size x7.1 x7.2.1 x7.2.2.1 x7.2.2.2.1 x6.2.1 x6.2.2 x7.2.2.2.2 m_v m_x m_past m_kept m_acts m_images m_matchNow m_slopsNow m_matchesNow m_slopped m_seatBest m_fedBest m_slopsBest m_sawBest m_leastNow m_stableNow m_fitsNow m_someNow m_everyNow m_otherIn m_askLeft rt_seats rt_slack rt_saw rt_quarrel rt_people rt_pairs rt_forks rt_unsures rt_trieds x9 rt_seat rt_one rt_other rt_years rt_kind rt_unsure rt_may (upd rt_tried rt_trieds.toNatClampNeg x2.1) rt_name)) C G fX12_289 (wR_at9) rfl rfl (Nat.le_of_ble_eq_true rfl) wR_set_rt_fed dX12_readTried_128 (fun H locs G => ?_)
          refine lv_aload_n hx hb dX12_readTried_131 rfl (lv_at hl 0 rfl) ?_
          refine x_get C G fX12_145.g (wR_at0) rfl dX12_readTried_132 ?_
          refine lv_dup hx hb dX12_readTried_135 rfl ?_
          refine x_get C G fX12_277.g (wR_at9) rfl dX12_readTried_136 ?_
          refine lv_iconst (v := 1) hx hb dX12_readTried_139 (by decide) ?_
          refine lv_iadd hx hb dX12_readTried_140 ?_
          refine lv_topi (fun x10 ex10 => ?_)
          have hf := lt_go ex10 hf
          refine x_put (ws' := (wR E ad m_thrown m_trouble m_where m_tv m_tape m_taped m_size x7.1 x7.2.1 x7.2.2.1 x7.2.2.2.1 x6.2.1 x6.2.2 x7.2.2.2.2 m_v m_x m_past m_kept m_acts m_images m_matchNow m_slopsNow m_matchesNow m_slopped m_seatBest m_fedBest m_slopsBest m_sawBest m_leastNow m_stableNow m_fitsNow m_someNow m_everyNow m_otherIn m_askLeft rt_seats rt_slack rt_saw rt_quarrel rt_people rt_pairs rt_forks rt_unsures x10 x9 rt_seat rt_one rt_other rt_years rt_kind rt_unsure rt_may (upd rt_tried rt_trieds.toNatClampNeg x2.1) rt_name)) C G fX12_277 (wR_at9) rfl rfl (Nat.le_of_ble_eq_true rfl) wR_set_rt_trieds dX12_readTried_141 (fun H locs G => ?_)
          obtain rfl := Option.some.inj hf
          exact xV_ret C G dX12_readTried_144
        have hf := hrx8
        refine lv_if_eq (tgt := 126) hx hb dX12_readTried_111 (by decide) (fun h => ?_) (fun h => ?_)
        · have hf := it_t h hf
          refine lv_iconst (v := 0) hx hb dX12_readTried_126 (by decide) ?_
          obtain rfl := Option.some.inj hf
          exact Jx8 _ _ _ G (lv_sub hl [0] rfl)
        · have hf := it_f h hf
          refine lv_iconst (v := 1) hx hb dX12_readTried_114 (by decide) ?_
          refine lv_aload_n hx hb dX12_readTried_115 rfl (lv_at hl 0 rfl) ?_
          refine x_get C G fX12_145.g (wR_at0) rfl dX12_readTried_116 ?_
          refine x_get C G fX12_277.g (wR_at9) rfl dX12_readTried_119 ?_
          refine lv_ishl hx hb dX12_readTried_122 ?_
          refine lv_goto (tgt := 127) hx hb dX12_readTried_123 (by decide) ?_
          obtain rfl := Option.some.inj hf
          exact Jx8 _ _ _ G (lv_sub hl [0] rfl)
      · have hf := it_t h hf
        obtain rfl := Option.some.inj hf
        exact xV_ret C G dX12_readTried_85
    have hf := hrx6
    obtain ⟨b11, hr, hf⟩ := bd_go hf
    cases b11 with
    | true =>
      have hf := it_t rfl hf
      have J : ∀ (H : Heap) (locs : List Loc), xG s E A (wR E ad m_thrown m_trouble m_where m_tv m_tape m_taped m_size x4.1 x4.2.1 x4.2.2.1 x4.2.2.2.1 x3.2.1 x3.2.2 x4.2.2.2.2 m_v m_x m_past m_kept m_acts m_images m_matchNow m_slopsNow m_matchesNow m_slopped m_seatBest m_fedBest m_slopsBest m_sawBest m_leastNow m_stableNow m_fitsNow m_someNow m_everyNow m_otherIn m_askLeft rt_seats rt_slack rt_saw rt_quarrel rt_people rt_pairs rt_forks rt_unsures rt_trieds rt_fed rt_seat rt_one rt_other rt_years rt_kind rt_unsure rt_may rt_tried rt_name) H locs → W p l e (xR 11 249) s m args below meth c H locs 0 0 (MQ below (xqV E A (wR E ad m_thrown m_trouble m_where m_tv m_tape m_taped m_size R0.1 R0.2.1 R0.2.2.1 R0.2.2.2.1 R0.2.2.2.2.1 R0.2.2.2.2.2.1 R0.2.2.2.2.2.2.1 m_v m_x m_past m_kept m_acts m_images m_matchNow m_slopsNow m_matchesNow m_slopped m_seatBest m_fedBest m_slopsBest m_sawBest m_leastNow m_stableNow m_fitsNow m_someNow m_everyNow m_otherIn m_askLeft rt_seats rt_slack rt_saw rt_quarrel rt_people rt_pairs rt_forks rt_unsures R0.2.2.2.2.2.2.2.1 R0.2.2.2.2.2.2.2.2.1 rt_seat rt_one rt_other rt_years rt_kind rt_unsure rt_may R0.2.2.2.2.2.2.2.2.2 rt_name)) args s 0 0 A) (F0 m 73 ls []) := by
        intro H locs G
        obtain rfl := Option.some.inj hf
        exact Jx6 _ _ _ G (lv_sub hl [1, 2, 0] rfl)
      have hf := hr
      clear hr
      refine lv_if_ne (tgt := 73) hx hb dX12_readTried_55 (by decide) (fun h => ?_) (fun h => ?_)
      · have hf := it_f h hf
        exact J _ _ G
      · have hf := it_t h hf
        refine lv_aload_n hx hb dX12_readTried_58 rfl (lv_at hl 1 rfl) ?_
        refine x_ldcSW hx hb C.2.2.2.1 (C.2.2.2.2.2.2.2.2.2.2.1 16 (by decide)) dX12_readTried_59 ?_
        obtain ⟨x12, hc, hf⟩ := bd_go hf
        refine xI_V C G (c_M_isWord_m_starved_R hc) mX12_isWord kX12_110 (wR_at0) rfl ⟨Nat.le_of_ble_eq_true rfl, Nat.le_of_ble_eq_true rfl⟩ rfl hl.1 rfl (Nat.le_of_ble_eq_true rfl) ⟨Nat.le_refl _, Nat.le_refl _⟩ dX12_readTried_62 (fun hz12 H locs G => ?_)
        refine lv_if_ne (tgt := 73) hx hb dX12_readTried_65 (by decide) (fun h => ?_) (fun h => ?_)
        · have hf := it_f h hf
          exact J _ _ G
        · have hf := it_t h hf
          exact absurd (Option.some.inj hf) (by decide)
    | false =>
      have hf := it_f (by decide) hf
      have J : ∀ (H : Heap) (locs : List Loc), xG s E A (wR E ad m_thrown m_trouble m_where m_tv m_tape m_taped m_size x4.1 x4.2.1 x4.2.2.1 x4.2.2.2.1 x3.2.1 x3.2.2 x4.2.2.2.2 m_v m_x m_past m_kept m_acts m_images m_matchNow m_slopsNow m_matchesNow m_slopped m_seatBest m_fedBest m_slopsBest m_sawBest m_leastNow m_stableNow m_fitsNow m_someNow m_everyNow m_otherIn m_askLeft rt_seats rt_slack rt_saw rt_quarrel rt_people rt_pairs rt_forks rt_unsures rt_trieds rt_fed rt_seat rt_one rt_other rt_years rt_kind rt_unsure rt_may rt_tried rt_name) H locs → W p l e (xR 11 249) s m args below meth c H locs 0 0 (MQ below (xqV E A (wR E ad m_thrown m_trouble m_where m_tv m_tape m_taped m_size R0.1 R0.2.1 R0.2.2.1 R0.2.2.2.1 R0.2.2.2.2.1 R0.2.2.2.2.2.1 R0.2.2.2.2.2.2.1 m_v m_x m_past m_kept m_acts m_images m_matchNow m_slopsNow m_matchesNow m_slopped m_seatBest m_fedBest m_slopsBest m_sawBest m_leastNow m_stableNow m_fitsNow m_someNow m_everyNow m_otherIn m_askLeft rt_seats rt_slack rt_saw rt_quarrel rt_people rt_pairs rt_forks rt_unsures R0.2.2.2.2.2.2.2.1 R0.2.2.2.2.2.2.2.2.1 rt_seat rt_one rt_other rt_years rt_kind rt_unsure rt_may R0.2.2.2.2.2.2.2.2.2 rt_name)) args s 0 0 A) (F0 m 68 ls []) := by
        intro H locs G
        refine lv_aload_n hx hb dX12_readTried_68 rfl (lv_at hl 1 rfl) ?_
        refine lv_iconst (v := 1) hx hb dX12_readTried_69 (by decide) ?_
        obtain ⟨x13, hc, hf⟩ := bd_go hf
        refine xV_V C G (c_M_flaw_m_R hc) mX12_flaw kX12_114 (wR_at0) rfl ⟨Nat.le_of_ble_eq_true rfl, Nat.le_of_ble_eq_true rfl⟩ rfl hl.1 rfl (Nat.le_of_ble_eq_true rfl) ⟨Nat.le_refl _, Nat.le_refl _⟩ dX12_readTried_70 (fun H locs G => ?_)
        obtain rfl := Option.some.inj hf
        exact Jx6 _ _ _ G (lv_sub hl [1, 2, 0] rfl)
      have hf := hr
      clear hr
      refine lv_if_ne (tgt := 73) hx hb dX12_readTried_55 (by decide) (fun h => ?_) (fun h => ?_)
      · have hf := it_f h hf
        exact absurd (Option.some.inj hf) (by decide)
      · have hf := it_t h hf
        refine lv_aload_n hx hb dX12_readTried_58 rfl (lv_at hl 1 rfl) ?_
        refine x_ldcSW hx hb C.2.2.2.1 (C.2.2.2.2.2.2.2.2.2.2.1 16 (by decide)) dX12_readTried_59 ?_
        obtain ⟨x14, hc, hf⟩ := bd_go hf
        refine xI_V C G (c_M_isWord_m_starved_R hc) mX12_isWord kX12_110 (wR_at0) rfl ⟨Nat.le_of_ble_eq_true rfl, Nat.le_of_ble_eq_true rfl⟩ rfl hl.1 rfl (Nat.le_of_ble_eq_true rfl) ⟨Nat.le_refl _, Nat.le_refl _⟩ dX12_readTried_62 (fun hz14 H locs G => ?_)
        refine lv_if_ne (tgt := 73) hx hb dX12_readTried_65 (by decide) (fun h => ?_) (fun h => ?_)
        · have hf := it_f h hf
          exact absurd (Option.some.inj hf) (by decide)
        · have hf := it_t h hf
          exact J _ _ G
  have hf := hrx3
  obtain ⟨b15, hr, hf⟩ := bd_go hf
  cases b15 with
  | true =>
    have hf := it_t rfl hf
    have J : ∀ (H : Heap) (locs : List Loc), xG s E A (wR E ad m_thrown m_trouble m_where m_tv m_tape m_taped m_size x2.2.1 x2.2.2.1 x2.2.2.2.1 x2.2.2.2.2.1 x2.2.2.2.2.2.1 x2.2.2.2.2.2.2.1 x2.2.2.2.2.2.2.2 m_v m_x m_past m_kept m_acts m_images m_matchNow m_slopsNow m_matchesNow m_slopped m_seatBest m_fedBest m_slopsBest m_sawBest m_leastNow m_stableNow m_fitsNow m_someNow m_everyNow m_otherIn m_askLeft rt_seats rt_slack rt_saw rt_quarrel rt_people rt_pairs rt_forks rt_unsures rt_trieds rt_fed rt_seat rt_one rt_other rt_years rt_kind rt_unsure rt_may rt_tried rt_name) H locs → W p l e (xR 11 249) s m args below meth c H locs 0 0 (MQ below (xqV E A (wR E ad m_thrown m_trouble m_where m_tv m_tape m_taped m_size R0.1 R0.2.1 R0.2.2.1 R0.2.2.2.1 R0.2.2.2.2.1 R0.2.2.2.2.2.1 R0.2.2.2.2.2.2.1 m_v m_x m_past m_kept m_acts m_images m_matchNow m_slopsNow m_matchesNow m_slopped m_seatBest m_fedBest m_slopsBest m_sawBest m_leastNow m_stableNow m_fitsNow m_someNow m_everyNow m_otherIn m_askLeft rt_seats rt_slack rt_saw rt_quarrel rt_people rt_pairs rt_forks rt_unsures R0.2.2.2.2.2.2.2.1 R0.2.2.2.2.2.2.2.2.1 rt_seat rt_one rt_other rt_years rt_kind rt_unsure rt_may R0.2.2.2.2.2.2.2.2.2 rt_name)) args s 0 0 A) (F0 m 42 ls []) := by
      intro H locs G
      obtain rfl := Option.some.inj hf
      exact Jx3 _ _ _ G (lv_sub hl [1, 0] rfl)
    have hf := hr
    clear hr
    refine lv_icmp_eq (tgt := 42) hx hb dX12_readTried_23 (by decide) (fun h => ?_) (fun h => ?_)
    · have hf := it_t h hf
      exact J _ _ G
    · have hf := it_f h hf
      refine lv_aload_n hx hb dX12_readTried_26 rfl (lv_at hl 1 rfl) ?_
      refine x_get C G fX12_145.g (wR_at0) rfl dX12_readTried_27 ?_
      refine lv_iload_n hx hb dX12_readTried_30 rfl (lv_at hl 0 rfl) ?_
      obtain ⟨x16, hc, hf⟩ := bd_go hf
      refine xI_V C G (c_Tab_isTried_rt_R hc) mX11_isTried kX12_280 (wR_at9) rfl ⟨Nat.le_of_ble_eq_true rfl, Nat.le_of_ble_eq_true rfl⟩ rfl hl.1 rfl (Nat.le_of_ble_eq_true rfl) ⟨Nat.le_refl _, Nat.le_refl _⟩ dX12_readTried_31 (fun hz16 H locs G => ?_)
      refine lv_if_eq (tgt := 42) hx hb dX12_readTried_34 (by decide) (fun h => ?_) (fun h => ?_)
      · have hf := it_t h hf
        exact J _ _ G
      · have hf := it_f h hf
        exact absurd (Option.some.inj hf) (by decide)
  | false =>
    have hf := it_f (by decide) hf
    have J : ∀ (H : Heap) (locs : List Loc), xG s E A (wR E ad m_thrown m_trouble m_where m_tv m_tape m_taped m_size x2.2.1 x2.2.2.1 x2.2.2.2.1 x2.2.2.2.2.1 x2.2.2.2.2.2.1 x2.2.2.2.2.2.2.1 x2.2.2.2.2.2.2.2 m_v m_x m_past m_kept m_acts m_images m_matchNow m_slopsNow m_matchesNow m_slopped m_seatBest m_fedBest m_slopsBest m_sawBest m_leastNow m_stableNow m_fitsNow m_someNow m_everyNow m_otherIn m_askLeft rt_seats rt_slack rt_saw rt_quarrel rt_people rt_pairs rt_forks rt_unsures rt_trieds rt_fed rt_seat rt_one rt_other rt_years rt_kind rt_unsure rt_may rt_tried rt_name) H locs → W p l e (xR 11 249) s m args below meth c H locs 0 0 (MQ below (xqV E A (wR E ad m_thrown m_trouble m_where m_tv m_tape m_taped m_size R0.1 R0.2.1 R0.2.2.1 R0.2.2.2.1 R0.2.2.2.2.1 R0.2.2.2.2.2.1 R0.2.2.2.2.2.2.1 m_v m_x m_past m_kept m_acts m_images m_matchNow m_slopsNow m_matchesNow m_slopped m_seatBest m_fedBest m_slopsBest m_sawBest m_leastNow m_stableNow m_fitsNow m_someNow m_everyNow m_otherIn m_askLeft rt_seats rt_slack rt_saw rt_quarrel rt_people rt_pairs rt_forks rt_unsures R0.2.2.2.2.2.2.2.1 R0.2.2.2.2.2.2.2.2.1 rt_seat rt_one rt_other rt_years rt_kind rt_unsure rt_may R0.2.2.2.2.2.2.2.2.2 rt_name)) args s 0 0 A) (F0 m 37 ls []) := by
      intro H locs G
      refine lv_aload_n hx hb dX12_readTried_37 rfl (lv_at hl 1 rfl) ?_
      refine lv_iconst (v := 3) hx hb dX12_readTried_38 (by decide) ?_
      obtain ⟨x17, hc, hf⟩ := bd_go hf
      refine xV_V C G (c_M_flaw_m_R hc) mX12_flaw kX12_114 (wR_at0) rfl ⟨Nat.le_of_ble_eq_true rfl, Nat.le_of_ble_eq_true rfl⟩ rfl hl.1 rfl (Nat.le_of_ble_eq_true rfl) ⟨Nat.le_refl _, Nat.le_refl _⟩ dX12_readTried_39 (fun H locs G => ?_)
      obtain rfl := Option.some.inj hf
      exact Jx3 _ _ _ G (lv_sub hl [1, 0] rfl)
    have hf := hr
    clear hr
    refine lv_icmp_eq (tgt := 42) hx hb dX12_readTried_23 (by decide) (fun h => ?_) (fun h => ?_)
    · have hf := it_t h hf
      exact absurd (Option.some.inj hf) (by decide)
    · have hf := it_f h hf
      refine lv_aload_n hx hb dX12_readTried_26 rfl (lv_at hl 1 rfl) ?_
      refine x_get C G fX12_145.g (wR_at0) rfl dX12_readTried_27 ?_
      refine lv_iload_n hx hb dX12_readTried_30 rfl (lv_at hl 0 rfl) ?_
      obtain ⟨x18, hc, hf⟩ := bd_go hf
      refine xI_V C G (c_Tab_isTried_rt_R hc) mX11_isTried kX12_280 (wR_at9) rfl ⟨Nat.le_of_ble_eq_true rfl, Nat.le_of_ble_eq_true rfl⟩ rfl hl.1 rfl (Nat.le_of_ble_eq_true rfl) ⟨Nat.le_refl _, Nat.le_refl _⟩ dX12_readTried_31 (fun hz18 H locs G => ?_)
      refine lv_if_eq (tgt := 42) hx hb dX12_readTried_34 (by decide) (fun h => ?_) (fun h => ?_)
      · have hf := it_t h hf
        exact absurd (Option.some.inj hf) (by decide)
      · have hf := it_f h hf
        exact J _ _ G
set_option maxHeartbeats 4000000 in
set_option maxRecDepth 100000 in
theorem c_M_wholeAt_m_R {l : Launch} {E : xE} {ad : Nat → Nat} {m_thrown m_trouble m_where m_taped m_size m_spot m_sort m_place m_number m_fault m_wrongAt m_acts m_images m_matchNow m_slopsNow m_matchesNow m_fedBest m_slopsBest m_sawBest m_leastNow m_stableNow m_fitsNow m_someNow m_everyNow m_askLeft rt_seats rt_slack rt_saw rt_quarrel rt_people rt_pairs rt_forks rt_unsures rt_trieds rt_fed : Int32} {m_tv : Value} {m_tape m_v m_x m_past m_kept m_slopped m_seatBest m_otherIn rt_seat rt_one rt_other rt_years rt_kind rt_unsure rt_may rt_tried : Nat → Int32} {m_word : Int64} {rt_name : Nat → Int64} {l1 : Int32} {l2 : Int32} {R0 : Int32 × Int32 × Int32 × Int32} (hf : f_M_wholeAt l1 l2 m_sort m_place m_number m_fault m_wrongAt = some R0) : xI l E yX12_wholeAt cX12_wholeAt 3 (some .int) 1 22 [.ref (ad 0), .int l1, .int l2] (wR E ad m_thrown m_trouble m_where m_tv m_tape m_taped m_size m_spot m_sort m_place m_number m_fault m_wrongAt m_word m_v m_x m_past m_kept m_acts m_images m_matchNow m_slopsNow m_matchesNow m_slopped m_seatBest m_fedBest m_slopsBest m_sawBest m_leastNow m_stableNow m_fitsNow m_someNow m_everyNow m_otherIn m_askLeft rt_seats rt_slack rt_saw rt_quarrel rt_people rt_pairs rt_forks rt_unsures rt_trieds rt_fed rt_seat rt_one rt_other rt_years rt_kind rt_unsure rt_may rt_tried rt_name) (wR E ad m_thrown m_trouble m_where m_tv m_tape m_taped m_size m_spot R0.2.1 m_place m_number R0.2.2.1 R0.2.2.2 m_word m_v m_x m_past m_kept m_acts m_images m_matchNow m_slopsNow m_matchesNow m_slopped m_seatBest m_fedBest m_slopsBest m_sawBest m_leastNow m_stableNow m_fitsNow m_someNow m_everyNow m_otherIn m_askLeft rt_seats rt_slack rt_saw rt_quarrel rt_people rt_pairs rt_forks rt_unsures rt_trieds rt_fed rt_seat rt_one rt_other rt_years rt_kind rt_unsure rt_may rt_tried rt_name) R0.1 := by
  refine xI_of (by decide) (Nat.le_of_ble_eq_true rfl) (fun p e s m args below meth c A C ls hl G => ?_)
  have hx := C.1
  have hb := C.2.1
  have hl : lv_has ls 3 [(0, .ref (ad 0)), (1, .int l1), (2, .int l2)] := hl
  unfold f_M_wholeAt at hf
  refine lv_aload_n hx hb dX12_wholeAt_0 rfl (lv_at hl 0 rfl) ?_
  refine x_get C G fX12_71.g (wR_at0) rfl dX12_wholeAt_1 ?_
  refine lv_iconst (v := 3) hx hb dX12_wholeAt_4 (by decide) ?_
  obtain ⟨x1, hrx1, hf⟩ := bd_go hf
  have Jx1 : ∀ (H : Heap) (locs : List Loc) (ls : Array Slot), xG s E A (wR E ad m_thrown m_trouble m_where m_tv m_tape m_taped m_size m_spot x1.1 m_place m_number x1.2.1 x1.2.2 m_word m_v m_x m_past m_kept m_acts m_images m_matchNow m_slopsNow m_matchesNow m_slopped m_seatBest m_fedBest m_slopsBest m_sawBest m_leastNow m_stableNow m_fitsNow m_someNow m_everyNow m_otherIn m_askLeft rt_seats rt_slack rt_saw rt_quarrel rt_people rt_pairs rt_forks rt_unsures rt_trieds rt_fed rt_seat rt_one rt_other rt_years rt_kind rt_unsure rt_may rt_tried rt_name) H locs → lv_has ls 3 [(0, .ref (ad 0)), (1, .int l1)] → W p l e (xR 1 22) s m args below meth c H locs 0 0 (MQ below (xqI E A (wR E ad m_thrown m_trouble m_where m_tv m_tape m_taped m_size m_spot R0.2.1 m_place m_number R0.2.2.1 R0.2.2.2 m_word m_v m_x m_past m_kept m_acts m_images m_matchNow m_slopsNow m_matchesNow m_slopped m_seatBest m_fedBest m_slopsBest m_sawBest m_leastNow m_stableNow m_fitsNow m_someNow m_everyNow m_otherIn m_askLeft rt_seats rt_slack rt_saw rt_quarrel rt_people rt_pairs rt_forks rt_unsures rt_trieds rt_fed rt_seat rt_one rt_other rt_years rt_kind rt_unsure rt_may rt_tried rt_name) (some .int) R0.1) args s 0 0 A) (F0 m 33 ls []) := by
    intro H locs ls G hl
    refine lv_aload_n hx hb dX12_wholeAt_33 rfl (lv_at hl 0 rfl) ?_
    refine x_get C G fX12_71.g (wR_at0) rfl dX12_wholeAt_34 ?_
    refine lv_iconst (v := 5) hx hb dX12_wholeAt_37 (by decide) ?_
    refine lv_icmp_ne (tgt := 45) hx hb dX12_wholeAt_38 (by decide) (fun h => ?_) (fun h => ?_)
    · have hf := it_f h hf
      refine lv_aload_n hx hb dX12_wholeAt_45 rfl (lv_at hl 0 rfl) ?_
      refine x_get C G fX12_94.g (wR_at0) rfl dX12_wholeAt_46 ?_
      obtain rfl := Option.some.inj hf
      exact xI_ret C G rfl dX12_wholeAt_49
    · have hf := it_t h hf
      refine lv_iload_n hx hb dX12_wholeAt_41 rfl (lv_at hl 1 rfl) ?_
      refine lv_goto (tgt := 49) hx hb dX12_wholeAt_42 (by decide) ?_
      obtain rfl := Option.some.inj hf
      exact xI_ret C G rfl dX12_wholeAt_49
  have hf := hrx1
  refine lv_icmp_eq (tgt := 16) hx hb dX12_wholeAt_5 (by decide) (fun h => ?_) (fun h => ?_)
  · have hf := it_t h hf
    refine lv_aload_n hx hb dX12_wholeAt_16 rfl (lv_at hl 0 rfl) ?_
    refine x_get C G fX12_94.g (wR_at0) rfl dX12_wholeAt_17 ?_
    refine lv_iload_n hx hb dX12_wholeAt_20 rfl (lv_at hl 1 rfl) ?_
    refine lv_iload_n hx hb dX12_wholeAt_21 rfl (lv_at hl 2 rfl) ?_
    obtain ⟨x2, hc, hf⟩ := bd_go hf
    refine xI_S C G (c_M_in_any hc) mX12_in kX12_118 ⟨Nat.le_of_ble_eq_true rfl, Nat.le_of_ble_eq_true rfl⟩ rfl hl.1 rfl (Nat.le_of_ble_eq_true rfl) ⟨Nat.le_refl _, Nat.le_refl _⟩ dX12_wholeAt_22 (fun hz2 H locs G => ?_)
    refine lv_if_ne (tgt := 33) hx hb dX12_wholeAt_25 (by decide) (fun h => ?_) (fun h => ?_)
    · have hf := it_f h hf
      obtain rfl := Option.some.inj hf
      exact Jx1 _ _ _ G (lv_sub hl [0, 1] rfl)
    · have hf := it_t h hf
      refine lv_aload_n hx hb dX12_wholeAt_28 rfl (lv_at hl 0 rfl) ?_
      refine lv_iconst (v := 4) hx hb dX12_wholeAt_29 (by decide) ?_
      obtain ⟨x3, hc, hf⟩ := bd_go hf
      refine xV_V C G (c_M_flaw_m_R hc) mX12_flaw kX12_114 (wR_at0) rfl ⟨Nat.le_of_ble_eq_true rfl, Nat.le_of_ble_eq_true rfl⟩ rfl hl.1 rfl (Nat.le_of_ble_eq_true rfl) ⟨Nat.le_refl _, Nat.le_refl _⟩ dX12_wholeAt_30 (fun H locs G => ?_)
      obtain rfl := Option.some.inj hf
      exact Jx1 _ _ _ G (lv_sub hl [0, 1] rfl)
  · have hf := it_f h hf
    refine lv_aload_n hx hb dX12_wholeAt_8 rfl (lv_at hl 0 rfl) ?_
    refine lv_iconst (v := 1) hx hb dX12_wholeAt_9 (by decide) ?_
    obtain ⟨x4, hc, hf⟩ := bd_go hf
    refine xV_V C G (c_M_flaw_m_R hc) mX12_flaw kX12_114 (wR_at0) rfl ⟨Nat.le_of_ble_eq_true rfl, Nat.le_of_ble_eq_true rfl⟩ rfl hl.1 rfl (Nat.le_of_ble_eq_true rfl) ⟨Nat.le_refl _, Nat.le_refl _⟩ dX12_wholeAt_10 (fun H locs G => ?_)
    refine lv_goto (tgt := 33) hx hb dX12_wholeAt_13 (by decide) ?_
    obtain rfl := Option.some.inj hf
    exact Jx1 _ _ _ G (lv_sub hl [0, 1] rfl)
set_option maxHeartbeats 4000000 in
set_option maxRecDepth 100000 in
theorem c_M_readWhole_m_R {l : Launch} {E : xE} {ad : Nat → Nat} {m_thrown m_trouble m_where m_taped m_size m_spot m_sort m_place m_number m_fault m_wrongAt m_acts m_images m_matchNow m_slopsNow m_matchesNow m_fedBest m_slopsBest m_sawBest m_leastNow m_stableNow m_fitsNow m_someNow m_everyNow m_askLeft rt_seats rt_slack rt_saw rt_quarrel rt_people rt_pairs rt_forks rt_unsures rt_trieds rt_fed : Int32} {m_tv : Value} {m_tape m_v m_x m_past m_kept m_slopped m_seatBest m_otherIn rt_seat rt_one rt_other rt_years rt_kind rt_unsure rt_may rt_tried : Nat → Int32} {m_word : Int64} {rt_name : Nat → Int64} {l1 : Int32} {l2 : Int32} {R0 : Int32 × Int32 × Int32 × Int32 × Int32 × Int32 × Int32 × Int64} (hf : f_M_readWhole l1 l2 m_tape m_size m_spot m_sort m_place m_number m_fault m_wrongAt m_word = some R0) : xI l E yX12_readWhole cX12_readWhole 4 (some .int) 2 44 [.ref (ad 0), .int l1, .int l2] (wR E ad m_thrown m_trouble m_where m_tv m_tape m_taped m_size m_spot m_sort m_place m_number m_fault m_wrongAt m_word m_v m_x m_past m_kept m_acts m_images m_matchNow m_slopsNow m_matchesNow m_slopped m_seatBest m_fedBest m_slopsBest m_sawBest m_leastNow m_stableNow m_fitsNow m_someNow m_everyNow m_otherIn m_askLeft rt_seats rt_slack rt_saw rt_quarrel rt_people rt_pairs rt_forks rt_unsures rt_trieds rt_fed rt_seat rt_one rt_other rt_years rt_kind rt_unsure rt_may rt_tried rt_name) (wR E ad m_thrown m_trouble m_where m_tv m_tape m_taped m_size R0.2.1 R0.2.2.1 R0.2.2.2.1 R0.2.2.2.2.1 R0.2.2.2.2.2.1 R0.2.2.2.2.2.2.1 R0.2.2.2.2.2.2.2 m_v m_x m_past m_kept m_acts m_images m_matchNow m_slopsNow m_matchesNow m_slopped m_seatBest m_fedBest m_slopsBest m_sawBest m_leastNow m_stableNow m_fitsNow m_someNow m_everyNow m_otherIn m_askLeft rt_seats rt_slack rt_saw rt_quarrel rt_people rt_pairs rt_forks rt_unsures rt_trieds rt_fed rt_seat rt_one rt_other rt_years rt_kind rt_unsure rt_may rt_tried rt_name) R0.1 := by
  refine xI_of (by decide) (Nat.le_of_ble_eq_true rfl) (fun p e s m args below meth c A C ls hl G => ?_)
  have hx := C.1
  have hb := C.2.1
  have hl : lv_has ls 4 [(0, .ref (ad 0)), (1, .int l1), (2, .int l2)] := hl
  unfold f_M_readWhole at hf
  refine lv_aload_n hx hb dX12_readWhole_0 rfl (lv_at hl 0 rfl) ?_
  refine lv_iload_n hx hb dX12_readWhole_1 rfl (lv_at hl 1 rfl) ?_
  refine lv_iload_n hx hb dX12_readWhole_2 rfl (lv_at hl 2 rfl) ?_
  obtain ⟨x1, hc, hf⟩ := bd_go hf
  refine xI_V C G (c_M_wholeAt_m_R hc) mX12_wholeAt kX12_122 (wR_at0) rfl ⟨Nat.le_of_ble_eq_true rfl, Nat.le_of_ble_eq_true rfl⟩ rfl hl.1 rfl (Nat.le_of_ble_eq_true rfl) ⟨Nat.le_refl _, Nat.le_refl _⟩ dX12_readWhole_3 (fun hz H locs G => ?_)
  refine lv_istore_n (lv' := [(3, .int x1.1), (0, .ref (ad 0)), (1, .int l1), (2, .int l2)]) hx hb dX12_readWhole_6 rfl hl (by decide) rfl (fun ls hl => ?_)
  refine lv_aload_n hx hb dX12_readWhole_7 rfl (lv_at hl 1 rfl) ?_
  obtain ⟨x2, hc, hf⟩ := bd_go hf
  refine xV_V C G (c_M_goesOn_m_R hc) mX12_goesOn kX12_107 (wR_at0) rfl ⟨Nat.le_of_ble_eq_true rfl, Nat.le_of_ble_eq_true rfl⟩ rfl hl.1 rfl (Nat.le_of_ble_eq_true rfl) ⟨Nat.le_refl _, Nat.le_refl _⟩ dX12_readWhole_8 (fun H locs G => ?_)
  refine lv_iload_n hx hb dX12_readWhole_11 rfl (lv_at hl 0 rfl) ?_
  obtain rfl := Option.some.inj hf
  exact xI_ret C G rfl dX12_readWhole_12
set_option maxHeartbeats 4000000 in
set_option maxRecDepth 100000 in
theorem w_Tab_isUnsure_rt_R_L2 {p : Program} {l : Launch} {e : Env} {s : State} {m : MethodId} {args : Array Value} {below : List Frame} {meth : Method} {c : Code} {A : Nat → Prop} {E : xE} {ad : Nat → Nat} {m_thrown m_trouble m_where m_taped m_size m_spot m_sort m_place m_number m_fault m_wrongAt m_acts m_images m_matchNow m_slopsNow m_matchesNow m_fedBest m_slopsBest m_sawBest m_leastNow m_stableNow m_fitsNow m_someNow m_everyNow m_askLeft rt_seats rt_slack rt_saw rt_quarrel rt_people rt_pairs rt_forks rt_unsures rt_trieds rt_fed : Int32} {m_tv : Value} {m_tape m_v m_x m_past m_kept m_slopped m_seatBest m_otherIn rt_seat rt_one rt_other rt_years rt_kind rt_unsure rt_may rt_tried : Nat → Int32} {m_word : Int64} {rt_name : Nat → Int64} {l1 : Int32} {o : (Int32) ⊕ (Unit)} {R0 : Int32} (C : xC p s m args meth c cX11_isUnsure 3 RX11 E A (some .boolean)) (Jr : ∀ r, o = .inl r → r = R0) (J : ∀ t, o = .inr t → ∀ (H : Heap) (locs : List Loc) (ls : Array Slot), xG s E A (wR E ad m_thrown m_trouble m_where m_tv m_tape m_taped m_size m_spot m_sort m_place m_number m_fault m_wrongAt m_word m_v m_x m_past m_kept m_acts m_images m_matchNow m_slopsNow m_matchesNow m_slopped m_seatBest m_fedBest m_slopsBest m_sawBest m_leastNow m_stableNow m_fitsNow m_someNow m_everyNow m_otherIn m_askLeft rt_seats rt_slack rt_saw rt_quarrel rt_people rt_pairs rt_forks rt_unsures rt_trieds rt_fed rt_seat rt_one rt_other rt_years rt_kind rt_unsure rt_may rt_tried rt_name) H locs → lv_has ls 3 [] → W p l e (xR 0 0) s m args below meth c H locs 0 0 (MQ below (xqI E A (wR E ad m_thrown m_trouble m_where m_tv m_tape m_taped m_size m_spot m_sort m_place m_number m_fault m_wrongAt m_word m_v m_x m_past m_kept m_acts m_images m_matchNow m_slopsNow m_matchesNow m_slopped m_seatBest m_fedBest m_slopsBest m_sawBest m_leastNow m_stableNow m_fitsNow m_someNow m_everyNow m_otherIn m_askLeft rt_seats rt_slack rt_saw rt_quarrel rt_people rt_pairs rt_forks rt_unsures rt_trieds rt_fed rt_seat rt_one rt_other rt_years rt_kind rt_unsure rt_may rt_tried rt_name) (some .boolean) R0) args s 0 0 A) (F0 m 28 ls [])) :
    ∀ (n : Nat) (l2 : Int32) (H : Heap) (locs : List Loc) (ls : Array Slot), xG s E A (wR E ad m_thrown m_trouble m_where m_tv m_tape m_taped m_size m_spot m_sort m_place m_number m_fault m_wrongAt m_word m_v m_x m_past m_kept m_acts m_images m_matchNow m_slopsNow m_matchesNow m_slopped m_seatBest m_fedBest m_slopsBest m_sawBest m_leastNow m_stableNow m_fitsNow m_someNow m_everyNow m_otherIn m_askLeft rt_seats rt_slack rt_saw rt_quarrel rt_people rt_pairs rt_forks rt_unsures rt_trieds rt_fed rt_seat rt_one rt_other rt_years rt_kind rt_unsure rt_may rt_tried rt_name) H locs → lv_has ls 3 [(0, .ref (ad 9)), (1, .int l1), (2, .int l2)] → f_Tab_isUnsure_L2 l1 rt_unsures rt_unsure n l2 = some o → W p l e (xR 0 0) s m args below meth c H locs 0 0 (MQ below (xqI E A (wR E ad m_thrown m_trouble m_where m_tv m_tape m_taped m_size m_spot m_sort m_place m_number m_fault m_wrongAt m_word m_v m_x m_past m_kept m_acts m_images m_matchNow m_slopsNow m_matchesNow m_slopped m_seatBest m_fedBest m_slopsBest m_sawBest m_leastNow m_stableNow m_fitsNow m_someNow m_everyNow m_otherIn m_askLeft rt_seats rt_slack rt_saw rt_quarrel rt_people rt_pairs rt_forks rt_unsures rt_trieds rt_fed rt_seat rt_one rt_other rt_years rt_kind rt_unsure rt_may rt_tried rt_name) (some .boolean) R0) args s 0 0 A) (F0 m 2 ls []) := by
  have hx := C.1
  have hb := C.2.1
  intro n
  induction n with
  | zero =>
    intro l2 H locs ls G hl hf
    exact nomatch (show (none : Option ((Int32) ⊕ (Unit))) = some o from hf)
  | succ n ih =>
    intro l2 H locs ls G hl hf
    rw [f_Tab_isUnsure_L2] at hf
    refine lv_iload_n hx hb dX11_isUnsure_2 rfl (lv_at hl 2 rfl) ?_
    refine lv_aload_n hx hb dX11_isUnsure_3 rfl (lv_at hl 0 rfl) ?_
    refine x_get C G fX11_47.g (wR_at9) rfl dX11_isUnsure_4 ?_
    refine lv_icmp_ge (tgt := 28) hx hb dX11_isUnsure_7 (by decide) (fun h => ?_) (fun h => ?_)
    · have hf := it_t h hf
      exact J _ (Option.some.inj hf).symm _ _ _ G (lv_sub hl [] rfl)
    · have hf := it_f h hf
      refine lv_aload_n hx hb dX11_isUnsure_10 rfl (lv_at hl 0 rfl) ?_
      refine x_get C G fX11_27 (wR_at9) rfl dX11_isUnsure_11 ?_
      refine lv_iload_n hx hb dX11_isUnsure_14 rfl (lv_at hl 2 rfl) ?_
      have hi := ck_in hf
      have hf := ck_go hf
      refine x_iald C G (wR_at15) hi dX11_isUnsure_15 ?_
      refine lv_iload_n hx hb dX11_isUnsure_16 rfl (lv_at hl 1 rfl) ?_
      refine lv_icmp_ne (tgt := 22) hx hb dX11_isUnsure_17 (by decide) (fun h => ?_) (fun h => ?_)
      · have hf := it_f h hf
        obtain ⟨x1, ex1⟩ : ∃ z : Int32, z = l2 + (1 : Int32) := ⟨_, rfl⟩
        have hf := lt_go ex1 hf
        refine lv_iinc (v := x1) (lv' := [(2, .int x1), (0, .ref (ad 9)), (1, .int l1)]) hx hb dX11_isUnsure_22 hl (k := 2) rfl (by rw [ex1]; rfl) (by decide) rfl (fun ls hl => ?_)
        refine lv_goto (tgt := 2) hx hb dX11_isUnsure_25 (by decide) ?_
        exact ih x1 _ _ _ G (lv_sub hl [1, 2, 0] rfl) hf
      · have hf := it_t h hf
        refine lv_iconst (v := 1) hx hb dX11_isUnsure_20 (by decide) ?_
        obtain rfl := Jr _ (Option.some.inj hf).symm
        exact xI_ret (r := (1 : Int32)) C G rfl dX11_isUnsure_21
set_option maxHeartbeats 4000000 in
set_option maxRecDepth 100000 in
theorem c_Tab_isUnsure_rt_R {l : Launch} {E : xE} {ad : Nat → Nat} {m_thrown m_trouble m_where m_taped m_size m_spot m_sort m_place m_number m_fault m_wrongAt m_acts m_images m_matchNow m_slopsNow m_matchesNow m_fedBest m_slopsBest m_sawBest m_leastNow m_stableNow m_fitsNow m_someNow m_everyNow m_askLeft rt_seats rt_slack rt_saw rt_quarrel rt_people rt_pairs rt_forks rt_unsures rt_trieds rt_fed : Int32} {m_tv : Value} {m_tape m_v m_x m_past m_kept m_slopped m_seatBest m_otherIn rt_seat rt_one rt_other rt_years rt_kind rt_unsure rt_may rt_tried : Nat → Int32} {m_word : Int64} {rt_name : Nat → Int64} {l1 : Int32} {R0 : Int32} (hf : f_Tab_isUnsure l1 rt_unsures rt_unsure = some R0) : xI l E yX11_isUnsure cX11_isUnsure 3 (some .boolean) 0 0 [.ref (ad 9), .int l1] (wR E ad m_thrown m_trouble m_where m_tv m_tape m_taped m_size m_spot m_sort m_place m_number m_fault m_wrongAt m_word m_v m_x m_past m_kept m_acts m_images m_matchNow m_slopsNow m_matchesNow m_slopped m_seatBest m_fedBest m_slopsBest m_sawBest m_leastNow m_stableNow m_fitsNow m_someNow m_everyNow m_otherIn m_askLeft rt_seats rt_slack rt_saw rt_quarrel rt_people rt_pairs rt_forks rt_unsures rt_trieds rt_fed rt_seat rt_one rt_other rt_years rt_kind rt_unsure rt_may rt_tried rt_name) (wR E ad m_thrown m_trouble m_where m_tv m_tape m_taped m_size m_spot m_sort m_place m_number m_fault m_wrongAt m_word m_v m_x m_past m_kept m_acts m_images m_matchNow m_slopsNow m_matchesNow m_slopped m_seatBest m_fedBest m_slopsBest m_sawBest m_leastNow m_stableNow m_fitsNow m_someNow m_everyNow m_otherIn m_askLeft rt_seats rt_slack rt_saw rt_quarrel rt_people rt_pairs rt_forks rt_unsures rt_trieds rt_fed rt_seat rt_one rt_other rt_years rt_kind rt_unsure rt_may rt_tried rt_name) R0 := by
  refine xI_of (by decide) (Nat.le_of_ble_eq_true rfl) (fun p e s m args below meth c A C ls hl G => ?_)
  have hx := C.1
  have hb := C.2.1
  have hl : lv_has ls 3 [(0, .ref (ad 9)), (1, .int l1)] := hl
  unfold f_Tab_isUnsure at hf
  refine lv_iconst (v := 0) hx hb dX11_isUnsure_0 (by decide) ?_
  refine lv_istore_n (lv' := [(2, .int (0 : Int32)), (0, .ref (ad 9)), (1, .int l1)]) hx hb dX11_isUnsure_1 rfl hl (by decide) rfl (fun ls hl => ?_)
  obtain ⟨ox2, hr, hf⟩ := bd_go hf
  have Jx2 : ∀ x2, ox2 = .inr x2 → ∀ (H : Heap) (locs : List Loc) (ls : Array Slot), xG s E A (wR E ad m_thrown m_trouble m_where m_tv m_tape m_taped m_size m_spot m_sort m_place m_number m_fault m_wrongAt m_word m_v m_x m_past m_kept m_acts m_images m_matchNow m_slopsNow m_matchesNow m_slopped m_seatBest m_fedBest m_slopsBest m_sawBest m_leastNow m_stableNow m_fitsNow m_someNow m_everyNow m_otherIn m_askLeft rt_seats rt_slack rt_saw rt_quarrel rt_people rt_pairs rt_forks rt_unsures rt_trieds rt_fed rt_seat rt_one rt_other rt_years rt_kind rt_unsure rt_may rt_tried rt_name) H locs → lv_has ls 3 [] → W p l e (xR 0 0) s m args below meth c H locs 0 0 (MQ below (xqI E A (wR E ad m_thrown m_trouble m_where m_tv m_tape m_taped m_size m_spot m_sort m_place m_number m_fault m_wrongAt m_word m_v m_x m_past m_kept m_acts m_images m_matchNow m_slopsNow m_matchesNow m_slopped m_seatBest m_fedBest m_slopsBest m_sawBest m_leastNow m_stableNow m_fitsNow m_someNow m_everyNow m_otherIn m_askLeft rt_seats rt_slack rt_saw rt_quarrel rt_people rt_pairs rt_forks rt_unsures rt_trieds rt_fed rt_seat rt_one rt_other rt_years rt_kind rt_unsure rt_may rt_tried rt_name) (some .boolean) R0) args s 0 0 A) (F0 m 28 ls []) := by
    intro x2 hq H locs ls G hl
    subst hq
    have hf := sm_r hf
    refine lv_iconst (v := 0) hx hb dX11_isUnsure_28 (by decide) ?_
    obtain rfl := Option.some.inj hf
    exact xI_ret (r := (0 : Int32)) C G rfl dX11_isUnsure_29
  have Jrx2 : ∀ r, ox2 = .inl r → r = R0 := by
    intro r hq
    subst hq
    exact Option.some.inj hf
  exact w_Tab_isUnsure_rt_R_L2 C Jrx2 Jx2 fu _ _ _ _ G (lv_sub hl [1, 2, 0] rfl) hr
set_option maxHeartbeats 4000000 in
set_option maxRecDepth 100000 in
theorem c_M_readUnsure_m_R {l : Launch} {E : xE} {ad : Nat → Nat} {m_thrown m_trouble m_where m_taped m_size m_spot m_sort m_place m_number m_fault m_wrongAt m_acts m_images m_matchNow m_slopsNow m_matchesNow m_fedBest m_slopsBest m_sawBest m_leastNow m_stableNow m_fitsNow m_someNow m_everyNow m_askLeft rt_seats rt_slack rt_saw rt_quarrel rt_people rt_pairs rt_forks rt_unsures rt_trieds rt_fed : Int32} {m_tv : Value} {m_tape m_v m_x m_past m_kept m_slopped m_seatBest m_otherIn rt_seat rt_one rt_other rt_years rt_kind rt_unsure rt_may rt_tried : Nat → Int32} {m_word : Int64} {rt_name : Nat → Int64} {R0 : Int32 × Int32 × Int32 × Int32 × Int32 × Int32 × Int64 × Int32 × (Nat → Int32) × (Nat → Int32)} (hf : f_M_readUnsure m_tape m_size m_spot m_sort m_place m_number m_fault m_wrongAt m_word rt_seats rt_people rt_pairs rt_unsures rt_one rt_other rt_unsure rt_may rt_name = some R0) : xV l E yX12_readUnsure cX12_readUnsure 3 none 11 249 [.ref (ad 0)] (wR E ad m_thrown m_trouble m_where m_tv m_tape m_taped m_size m_spot m_sort m_place m_number m_fault m_wrongAt m_word m_v m_x m_past m_kept m_acts m_images m_matchNow m_slopsNow m_matchesNow m_slopped m_seatBest m_fedBest m_slopsBest m_sawBest m_leastNow m_stableNow m_fitsNow m_someNow m_everyNow m_otherIn m_askLeft rt_seats rt_slack rt_saw rt_quarrel rt_people rt_pairs rt_forks rt_unsures rt_trieds rt_fed rt_seat rt_one rt_other rt_years rt_kind rt_unsure rt_may rt_tried rt_name) (wR E ad m_thrown m_trouble m_where m_tv m_tape m_taped m_size R0.1 R0.2.1 R0.2.2.1 R0.2.2.2.1 R0.2.2.2.2.1 R0.2.2.2.2.2.1 R0.2.2.2.2.2.2.1 m_v m_x m_past m_kept m_acts m_images m_matchNow m_slopsNow m_matchesNow m_slopped m_seatBest m_fedBest m_slopsBest m_sawBest m_leastNow m_stableNow m_fitsNow m_someNow m_everyNow m_otherIn m_askLeft rt_seats rt_slack rt_saw rt_quarrel rt_people rt_pairs rt_forks R0.2.2.2.2.2.2.2.1 rt_trieds rt_fed rt_seat rt_one rt_other rt_years rt_kind R0.2.2.2.2.2.2.2.2.1 R0.2.2.2.2.2.2.2.2.2 rt_tried rt_name) := by
  refine xV_of (by decide) (Nat.le_of_ble_eq_true rfl) (fun p e s m args below meth c A C ls hl G => ?_)
  have hx := C.1
  have hb := C.2.1
  have hl : lv_has ls 3 [(0, .ref (ad 0))] := hl
  unfold f_M_readUnsure at hf
  refine lv_aload_n hx hb dX12_readUnsure_0 rfl (lv_at hl 0 rfl) ?_
  refine lv_aload_n hx hb dX12_readUnsure_1 rfl (lv_at hl 0 rfl) ?_
  refine x_get C G fX12_145.g (wR_at0) rfl dX12_readUnsure_2 ?_
  refine x_get C G fX12_263.g (wR_at9) rfl dX12_readUnsure_5 ?_
  refine lv_iconst (v := 4) hx hb dX12_readUnsure_8 (by decide) ?_
  obtain ⟨x1, hc, hf⟩ := bd_go hf
  refine xV_V C G (c_M_lineBegins_m_R hc) mX12_lineBegins kX12_215 (wR_at0) rfl ⟨Nat.le_of_ble_eq_true rfl, Nat.le_of_ble_eq_true rfl⟩ rfl hl.1 rfl (Nat.le_of_ble_eq_true rfl) ⟨Nat.le_refl _, Nat.le_refl _⟩ dX12_readUnsure_9 (fun H locs G => ?_)
  refine lv_aload_n hx hb dX12_readUnsure_12 rfl (lv_at hl 0 rfl) ?_
  obtain ⟨x2, hc, hf⟩ := bd_go hf
  refine xI_V C G (c_M_pairAt_m_R hc) mX12_pairAt kX12_266 (wR_at0) rfl ⟨Nat.le_of_ble_eq_true rfl, Nat.le_of_ble_eq_true rfl⟩ rfl hl.1 rfl (Nat.le_of_ble_eq_true rfl) ⟨Nat.le_refl _, Nat.le_refl _⟩ dX12_readUnsure_13 (fun hz H locs G => ?_)
  refine lv_istore_n (lv' := [(1, .int x2.1), (0, .ref (ad 0))]) hx hb dX12_readUnsure_16 rfl hl (by decide) rfl (fun ls hl => ?_)
  refine lv_aload_n hx hb dX12_readUnsure_17 rfl (lv_at hl 1 rfl) ?_
  refine x_get C G fX12_71.g (wR_at0) rfl dX12_readUnsure_18 ?_
  refine lv_iconst (v := 5) hx hb dX12_readUnsure_21 (by decide) ?_
  obtain ⟨x3, hrx3, hf⟩ := bd_go hf
  have Jx3 : ∀ (H : Heap) (locs : List Loc) (ls : Array Slot), xG s E A (wR E ad m_thrown m_trouble m_where m_tv m_tape m_taped m_size x2.2.1 x3.1 x2.2.2.2.1 x2.2.2.2.2.1 x3.2.1 x3.2.2 x2.2.2.2.2.2.2.2 m_v m_x m_past m_kept m_acts m_images m_matchNow m_slopsNow m_matchesNow m_slopped m_seatBest m_fedBest m_slopsBest m_sawBest m_leastNow m_stableNow m_fitsNow m_someNow m_everyNow m_otherIn m_askLeft rt_seats rt_slack rt_saw rt_quarrel rt_people rt_pairs rt_forks rt_unsures rt_trieds rt_fed rt_seat rt_one rt_other rt_years rt_kind rt_unsure rt_may rt_tried rt_name) H locs → lv_has ls 3 [(0, .ref (ad 0)), (1, .int x2.1)] → W p l e (xR 11 249) s m args below meth c H locs 0 0 (MQ below (xqV E A (wR E ad m_thrown m_trouble m_where m_tv m_tape m_taped m_size R0.1 R0.2.1 R0.2.2.1 R0.2.2.2.1 R0.2.2.2.2.1 R0.2.2.2.2.2.1 R0.2.2.2.2.2.2.1 m_v m_x m_past m_kept m_acts m_images m_matchNow m_slopsNow m_matchesNow m_slopped m_seatBest m_fedBest m_slopsBest m_sawBest m_leastNow m_stableNow m_fitsNow m_someNow m_everyNow m_otherIn m_askLeft rt_seats rt_slack rt_saw rt_quarrel rt_people rt_pairs rt_forks R0.2.2.2.2.2.2.2.1 rt_trieds rt_fed rt_seat rt_one rt_other rt_years rt_kind R0.2.2.2.2.2.2.2.2.1 R0.2.2.2.2.2.2.2.2.2 rt_tried rt_name)) args s 0 0 A) (F0 m 41 ls []) := by
    intro H locs ls G hl
    refine lv_aload_n hx hb dX12_readUnsure_41 rfl (lv_at hl 0 rfl) ?_
    obtain ⟨x4, hc, hf⟩ := bd_go hf
    refine xV_V C G (c_M_goesOn_m_R hc) mX12_goesOn kX12_107 (wR_at0) rfl ⟨Nat.le_of_ble_eq_true rfl, Nat.le_of_ble_eq_true rfl⟩ rfl hl.1 rfl (Nat.le_of_ble_eq_true rfl) ⟨Nat.le_refl _, Nat.le_refl _⟩ dX12_readUnsure_42 (fun H locs G => ?_)
    refine lv_aload_n hx hb dX12_readUnsure_45 rfl (lv_at hl 0 rfl) ?_
    refine lv_iconst (v := 0) hx hb dX12_readUnsure_46 (by decide) ?_
    refine lv_bipush (v := 99) hx hb dX12_readUnsure_47 (by decide) ?_
    obtain ⟨x5, hc, hf⟩ := bd_go hf
    refine xI_V C G (c_M_readWhole_m_R hc) mX12_readWhole kX12_130 (wR_at0) rfl ⟨Nat.le_of_ble_eq_true rfl, Nat.le_of_ble_eq_true rfl⟩ rfl hl.1 rfl (Nat.le_of_ble_eq_true rfl) ⟨Nat.le_refl _, Nat.le_refl _⟩ dX12_readUnsure_49 (fun hz H locs G => ?_)
    refine lv_istore_n (lv' := [(2, .int x5.1), (0, .ref (ad 0)), (1, .int x2.1)]) hx hb dX12_readUnsure_52 rfl hl (by decide) rfl (fun ls hl => ?_)
    refine lv_aload_n hx hb dX12_readUnsure_53 rfl (lv_at hl 1 rfl) ?_
    refine x_get C G fX12_71.g (wR_at0) rfl dX12_readUnsure_54 ?_
    refine lv_iconst (v := 5) hx hb dX12_readUnsure_57 (by decide) ?_
    refine lv_icmp_ne (tgt := 62) hx hb dX12_readUnsure_58 (by decide) (fun h => ?_) (fun h => ?_)
    · have hf := it_f h hf
      refine lv_aload_n hx hb dX12_readUnsure_62 rfl (lv_at hl 1 rfl) ?_
      refine x_get C G fX12_145.g (wR_at0) rfl dX12_readUnsure_63 ?_
      refine x_get C G fX12_272 (wR_at9) rfl dX12_readUnsure_66 ?_
      refine lv_aload_n hx hb dX12_readUnsure_69 rfl (lv_at hl 1 rfl) ?_
      refine x_get C G fX12_145.g (wR_at0) rfl dX12_readUnsure_70 ?_
      refine x_get C G fX12_263.g (wR_at9) rfl dX12_readUnsure_73 ?_
      refine lv_iload_n hx hb dX12_readUnsure_76 rfl (lv_at hl 2 rfl) ?_
      have hi := ck_in hf
      have hf := ck_go hf
      refine x_iast (ws' := (wR E ad m_thrown m_trouble m_where m_tv m_tape m_taped m_size x5.2.1 x5.2.2.1 x5.2.2.2.1 x5.2.2.2.2.1 x5.2.2.2.2.2.1 x5.2.2.2.2.2.2.1 x5.2.2.2.2.2.2.2 m_v m_x m_past m_kept m_acts m_images m_matchNow m_slopsNow m_matchesNow m_slopped m_seatBest m_fedBest m_slopsBest m_sawBest m_leastNow m_stableNow m_fitsNow m_someNow m_everyNow m_otherIn m_askLeft rt_seats rt_slack rt_saw rt_quarrel rt_people rt_pairs rt_forks rt_unsures rt_trieds rt_fed rt_seat rt_one rt_other rt_years rt_kind (upd rt_unsure rt_unsures.toNatClampNeg x2.1) rt_may rt_tried rt_name)) C G (wR_at15) hi wR_set_rt_unsure dX12_readUnsure_77 (fun H locs G => ?_)
      refine lv_aload_n hx hb dX12_readUnsure_78 rfl (lv_at hl 1 rfl) ?_
      refine x_get C G fX12_145.g (wR_at0) rfl dX12_readUnsure_79 ?_
      refine x_get C G fX12_274 (wR_at9) rfl dX12_readUnsure_82 ?_
      refine lv_aload_n hx hb dX12_readUnsure_85 rfl (lv_at hl 1 rfl) ?_
      refine x_get C G fX12_145.g (wR_at0) rfl dX12_readUnsure_86 ?_
      refine x_get C G fX12_263.g (wR_at9) rfl dX12_readUnsure_89 ?_
      refine lv_iload_n hx hb dX12_readUnsure_92 rfl (lv_at hl 0 rfl) ?_
      have hi := ck_in hf
      have hf := ck_go hf
      refine x_iast (ws' := (wR E ad m_thrown m_trouble m_where m_tv m_tape m_taped m_size x5.2.1 x5.2.2.1 x5.2.2.2.1 x5.2.2.2.2.1 x5.2.2.2.2.2.1 x5.2.2.2.2.2.2.1 x5.2.2.2.2.2.2.2 m_v m_x m_past m_kept m_acts m_images m_matchNow m_slopsNow m_matchesNow m_slopped m_seatBest m_fedBest m_slopsBest m_sawBest m_leastNow m_stableNow m_fitsNow m_someNow m_everyNow m_otherIn m_askLeft rt_seats rt_slack rt_saw rt_quarrel rt_people rt_pairs rt_forks rt_unsures rt_trieds rt_fed rt_seat rt_one rt_other rt_years rt_kind (upd rt_unsure rt_unsures.toNatClampNeg x2.1) (upd rt_may rt_unsures.toNatClampNeg x5.1) rt_tried rt_name)) C G (wR_at16) hi wR_set_rt_may dX12_readUnsure_93 (fun H locs G => ?_)
      refine lv_aload_n hx hb dX12_readUnsure_94 rfl (lv_at hl 1 rfl) ?_
      refine x_get C G fX12_145.g (wR_at0) rfl dX12_readUnsure_95 ?_
      refine lv_dup hx hb dX12_readUnsure_98 rfl ?_
      refine x_get C G fX12_263.g (wR_at9) rfl dX12_readUnsure_99 ?_
      refine lv_iconst (v := 1) hx hb dX12_readUnsure_102 (by decide) ?_
      refine lv_iadd hx hb dX12_readUnsure_103 ?_
      refine lv_topi (fun x6 ex6 => ?_)
      have hf := lt_go ex6 hf
      refine x_put (ws' := (wR E ad m_thrown m_trouble m_where m_tv m_tape m_taped m_size x5.2.1 x5.2.2.1 x5.2.2.2.1 x5.2.2.2.2.1 x5.2.2.2.2.2.1 x5.2.2.2.2.2.2.1 x5.2.2.2.2.2.2.2 m_v m_x m_past m_kept m_acts m_images m_matchNow m_slopsNow m_matchesNow m_slopped m_seatBest m_fedBest m_slopsBest m_sawBest m_leastNow m_stableNow m_fitsNow m_someNow m_everyNow m_otherIn m_askLeft rt_seats rt_slack rt_saw rt_quarrel rt_people rt_pairs rt_forks x6 rt_trieds rt_fed rt_seat rt_one rt_other rt_years rt_kind (upd rt_unsure rt_unsures.toNatClampNeg x2.1) (upd rt_may rt_unsures.toNatClampNeg x5.1) rt_tried rt_name)) C G fX12_263 (wR_at9) rfl rfl (Nat.le_of_ble_eq_true rfl) wR_set_rt_unsures dX12_readUnsure_104 (fun H locs G => ?_)
      obtain rfl := Option.some.inj hf
      exact xV_ret C G dX12_readUnsure_107
    · have hf := it_t h hf
      obtain rfl := Option.some.inj hf
      exact xV_ret C G dX12_readUnsure_61
  have hf := hrx3
  obtain ⟨b7, hr, hf⟩ := bd_go hf
  cases b7 with
  | true =>
    have hf := it_t rfl hf
    have J : ∀ (H : Heap) (locs : List Loc), xG s E A (wR E ad m_thrown m_trouble m_where m_tv m_tape m_taped m_size x2.2.1 x2.2.2.1 x2.2.2.2.1 x2.2.2.2.2.1 x2.2.2.2.2.2.1 x2.2.2.2.2.2.2.1 x2.2.2.2.2.2.2.2 m_v m_x m_past m_kept m_acts m_images m_matchNow m_slopsNow m_matchesNow m_slopped m_seatBest m_fedBest m_slopsBest m_sawBest m_leastNow m_stableNow m_fitsNow m_someNow m_everyNow m_otherIn m_askLeft rt_seats rt_slack rt_saw rt_quarrel rt_people rt_pairs rt_forks rt_unsures rt_trieds rt_fed rt_seat rt_one rt_other rt_years rt_kind rt_unsure rt_may rt_tried rt_name) H locs → W p l e (xR 11 249) s m args below meth c H locs 0 0 (MQ below (xqV E A (wR E ad m_thrown m_trouble m_where m_tv m_tape m_taped m_size R0.1 R0.2.1 R0.2.2.1 R0.2.2.2.1 R0.2.2.2.2.1 R0.2.2.2.2.2.1 R0.2.2.2.2.2.2.1 m_v m_x m_past m_kept m_acts m_images m_matchNow m_slopsNow m_matchesNow m_slopped m_seatBest m_fedBest m_slopsBest m_sawBest m_leastNow m_stableNow m_fitsNow m_someNow m_everyNow m_otherIn m_askLeft rt_seats rt_slack rt_saw rt_quarrel rt_people rt_pairs rt_forks R0.2.2.2.2.2.2.2.1 rt_trieds rt_fed rt_seat rt_one rt_other rt_years rt_kind R0.2.2.2.2.2.2.2.2.1 R0.2.2.2.2.2.2.2.2.2 rt_tried rt_name)) args s 0 0 A) (F0 m 41 ls []) := by
      intro H locs G
      obtain rfl := Option.some.inj hf
      exact Jx3 _ _ _ G (lv_sub hl [1, 0] rfl)
    have hf := hr
    clear hr
    refine lv_icmp_eq (tgt := 41) hx hb dX12_readUnsure_22 (by decide) (fun h => ?_) (fun h => ?_)
    · have hf := it_t h hf
      exact J _ _ G
    · have hf := it_f h hf
      refine lv_aload_n hx hb dX12_readUnsure_25 rfl (lv_at hl 1 rfl) ?_
      refine x_get C G fX12_145.g (wR_at0) rfl dX12_readUnsure_26 ?_
      refine lv_iload_n hx hb dX12_readUnsure_29 rfl (lv_at hl 0 rfl) ?_
      obtain ⟨x8, hc, hf⟩ := bd_go hf
      refine xI_V C G (c_Tab_isUnsure_rt_R hc) mX11_isUnsure kX12_269 (wR_at9) rfl ⟨Nat.le_of_ble_eq_true rfl, Nat.le_of_ble_eq_true rfl⟩ rfl hl.1 rfl (Nat.le_of_ble_eq_true rfl) ⟨Nat.le_refl _, Nat.le_refl _⟩ dX12_readUnsure_30 (fun hz8 H locs G => ?_)
      refine lv_if_eq (tgt := 41) hx hb dX12_readUnsure_33 (by decide) (fun h => ?_) (fun h => ?_)
      · have hf := it_t h hf
        exact J _ _ G
      · have hf := it_f h hf
        exact absurd (Option.some.inj hf) (by decide)
  | false =>
    have hf := it_f (by decide) hf
    have J : ∀ (H : Heap) (locs : List Loc), xG s E A (wR E ad m_thrown m_trouble m_where m_tv m_tape m_taped m_size x2.2.1 x2.2.2.1 x2.2.2.2.1 x2.2.2.2.2.1 x2.2.2.2.2.2.1 x2.2.2.2.2.2.2.1 x2.2.2.2.2.2.2.2 m_v m_x m_past m_kept m_acts m_images m_matchNow m_slopsNow m_matchesNow m_slopped m_seatBest m_fedBest m_slopsBest m_sawBest m_leastNow m_stableNow m_fitsNow m_someNow m_everyNow m_otherIn m_askLeft rt_seats rt_slack rt_saw rt_quarrel rt_people rt_pairs rt_forks rt_unsures rt_trieds rt_fed rt_seat rt_one rt_other rt_years rt_kind rt_unsure rt_may rt_tried rt_name) H locs → W p l e (xR 11 249) s m args below meth c H locs 0 0 (MQ below (xqV E A (wR E ad m_thrown m_trouble m_where m_tv m_tape m_taped m_size R0.1 R0.2.1 R0.2.2.1 R0.2.2.2.1 R0.2.2.2.2.1 R0.2.2.2.2.2.1 R0.2.2.2.2.2.2.1 m_v m_x m_past m_kept m_acts m_images m_matchNow m_slopsNow m_matchesNow m_slopped m_seatBest m_fedBest m_slopsBest m_sawBest m_leastNow m_stableNow m_fitsNow m_someNow m_everyNow m_otherIn m_askLeft rt_seats rt_slack rt_saw rt_quarrel rt_people rt_pairs rt_forks R0.2.2.2.2.2.2.2.1 rt_trieds rt_fed rt_seat rt_one rt_other rt_years rt_kind R0.2.2.2.2.2.2.2.2.1 R0.2.2.2.2.2.2.2.2.2 rt_tried rt_name)) args s 0 0 A) (F0 m 36 ls []) := by
      intro H locs G
      refine lv_aload_n hx hb dX12_readUnsure_36 rfl (lv_at hl 1 rfl) ?_
      refine lv_iconst (v := 3) hx hb dX12_readUnsure_37 (by decide) ?_
      obtain ⟨x9, hc, hf⟩ := bd_go hf
      refine xV_V C G (c_M_flaw_m_R hc) mX12_flaw kX12_114 (wR_at0) rfl ⟨Nat.le_of_ble_eq_true rfl, Nat.le_of_ble_eq_true rfl⟩ rfl hl.1 rfl (Nat.le_of_ble_eq_true rfl) ⟨Nat.le_refl _, Nat.le_refl _⟩ dX12_readUnsure_38 (fun H locs G => ?_)
      obtain rfl := Option.some.inj hf
      exact Jx3 _ _ _ G (lv_sub hl [1, 0] rfl)
    have hf := hr
    clear hr
    refine lv_icmp_eq (tgt := 41) hx hb dX12_readUnsure_22 (by decide) (fun h => ?_) (fun h => ?_)
    · have hf := it_t h hf
      exact absurd (Option.some.inj hf) (by decide)
    · have hf := it_f h hf
      refine lv_aload_n hx hb dX12_readUnsure_25 rfl (lv_at hl 1 rfl) ?_
      refine x_get C G fX12_145.g (wR_at0) rfl dX12_readUnsure_26 ?_
      refine lv_iload_n hx hb dX12_readUnsure_29 rfl (lv_at hl 0 rfl) ?_
      obtain ⟨x10, hc, hf⟩ := bd_go hf
      refine xI_V C G (c_Tab_isUnsure_rt_R hc) mX11_isUnsure kX12_269 (wR_at9) rfl ⟨Nat.le_of_ble_eq_true rfl, Nat.le_of_ble_eq_true rfl⟩ rfl hl.1 rfl (Nat.le_of_ble_eq_true rfl) ⟨Nat.le_refl _, Nat.le_refl _⟩ dX12_readUnsure_30 (fun hz10 H locs G => ?_)
      refine lv_if_eq (tgt := 41) hx hb dX12_readUnsure_33 (by decide) (fun h => ?_) (fun h => ?_)
      · have hf := it_t h hf
        exact absurd (Option.some.inj hf) (by decide)
      · have hf := it_f h hf
        exact J _ _ G
