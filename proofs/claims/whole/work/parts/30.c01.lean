set_option maxHeartbeats 4000000 in
set_option maxRecDepth 100000 in
theorem c_M_seating_m_M {l : Launch} {E : xE} {ad : Nat → Nat} {m_thrown m_trouble m_where m_taped m_size m_spot m_sort m_place m_number m_fault m_wrongAt m_acts m_images m_matchNow m_slopsNow m_matchesNow m_fedBest m_slopsBest m_sawBest m_leastNow m_stableNow m_fitsNow m_someNow m_everyNow m_askLeft tb_seats tb_slack tb_saw tb_quarrel tb_people tb_pairs tb_forks tb_unsures tb_trieds tb_fed : Int32} {m_rv : Value} {m_tape m_v m_x m_past m_kept m_slopped m_seatBest m_otherIn tb_seat tb_one tb_other tb_years tb_kind tb_unsure tb_may tb_tried : Nat → Int32} {m_word : Int64} {tb_name : Nat → Int64} {R0 : Int32 × Int32 × Int32 × Int32 × (Nat → Int32) × Int32 × Int32 × Int32 × (Nat → Int32) × (Nat → Int32) × Int32 × Int32} (hf : f_M_seating m_v m_x m_matchNow m_slopsNow m_matchesNow m_slopped m_seatBest tb_seats tb_slack tb_people = some R0) : xI l E yX12_seating cX12_seating 1 (some .int) 7 152 [.ref (ad 0)] (wM E ad m_thrown m_trouble m_where m_rv m_tape m_taped m_size m_spot m_sort m_place m_number m_fault m_wrongAt m_word m_v m_x m_past m_kept m_acts m_images m_matchNow m_slopsNow m_matchesNow m_slopped m_seatBest m_fedBest m_slopsBest m_sawBest m_leastNow m_stableNow m_fitsNow m_someNow m_everyNow m_otherIn m_askLeft tb_seats tb_slack tb_saw tb_quarrel tb_people tb_pairs tb_forks tb_unsures tb_trieds tb_fed tb_seat tb_one tb_other tb_years tb_kind tb_unsure tb_may tb_tried tb_name) (wM E ad R0.2.1 R0.2.2.1 R0.2.2.2.1 m_rv m_tape m_taped m_size m_spot m_sort m_place m_number m_fault m_wrongAt m_word m_v R0.2.2.2.2.1 m_past m_kept m_acts m_images R0.2.2.2.2.2.1 R0.2.2.2.2.2.2.1 R0.2.2.2.2.2.2.2.1 R0.2.2.2.2.2.2.2.2.1 R0.2.2.2.2.2.2.2.2.2.1 R0.2.2.2.2.2.2.2.2.2.2.1 R0.2.2.2.2.2.2.2.2.2.2.2 m_sawBest m_leastNow m_stableNow m_fitsNow m_someNow m_everyNow m_otherIn m_askLeft tb_seats tb_slack tb_saw tb_quarrel tb_people tb_pairs tb_forks tb_unsures tb_trieds tb_fed tb_seat tb_one tb_other tb_years tb_kind tb_unsure tb_may tb_tried tb_name) R0.1 := by
  refine xI_of (by decide) (Nat.le_of_ble_eq_true rfl) (fun p e s m args below meth c A C ls hl G => ?_)
  have hx := C.1
  have hb := C.2.1
  have hl : lv_has ls 1 [(0, .ref (ad 0))] := hl
  unfold f_M_seating at hf
  refine lv_aload_n hx hb dX12_seating_0 rfl (lv_at hl 0 rfl) ?_
  refine lv_iconst (v := 0) hx hb dX12_seating_1 (by decide) ?_
  refine x_put (ws' := (wM E ad (0 : Int32) m_trouble m_where m_rv m_tape m_taped m_size m_spot m_sort m_place m_number m_fault m_wrongAt m_word m_v m_x m_past m_kept m_acts m_images m_matchNow m_slopsNow m_matchesNow m_slopped m_seatBest m_fedBest m_slopsBest m_sawBest m_leastNow m_stableNow m_fitsNow m_someNow m_everyNow m_otherIn m_askLeft tb_seats tb_slack tb_saw tb_quarrel tb_people tb_pairs tb_forks tb_unsures tb_trieds tb_fed tb_seat tb_one tb_other tb_years tb_kind tb_unsure tb_may tb_tried tb_name)) C G fX12_39 (wM_at0) rfl rfl (Nat.le_of_ble_eq_true rfl) wM_set_m_thrown dX12_seating_2 (fun H locs G => ?_)
  refine lv_aload_n hx hb dX12_seating_5 rfl (lv_at hl 0 rfl) ?_
  refine x_get C G fX12_298.g (wM_at0) rfl dX12_seating_6 ?_
  refine lv_ifnonnull (tgt := 18) hx hb dX12_seating_9 (by decide) ?_
  refine lv_aload_n hx hb dX12_seating_18 rfl (lv_at hl 0 rfl) ?_
  obtain ⟨x1, hc, hf⟩ := bd_go hf
  refine xV_V C G (c_M_seats_m_M hc) mX12_seats kX12_395 (wM_at0) rfl ⟨Nat.le_of_ble_eq_true rfl, Nat.le_of_ble_eq_true rfl⟩ rfl hl.1 rfl (Nat.le_of_ble_eq_true rfl) ⟨Nat.le_refl _, Nat.le_refl _⟩ dX12_seating_19 (fun H locs G => ?_)
  refine lv_aload_n hx hb dX12_seating_22 rfl (lv_at hl 0 rfl) ?_
  refine lv_aload_n hx hb dX12_seating_23 rfl (lv_at hl 0 rfl) ?_
  refine x_get C G fX12_382.g (wM_at0) rfl dX12_seating_24 ?_
  obtain ⟨x2, hc, hf⟩ := bd_go hf
  refine xI_V C G (c_M_good_m_M hc) mX12_good kX12_49 (wM_at0) rfl ⟨Nat.le_of_ble_eq_true rfl, Nat.le_of_ble_eq_true rfl⟩ rfl hl.1 rfl (Nat.le_of_ble_eq_true rfl) ⟨Nat.le_refl _, Nat.le_refl _⟩ dX12_seating_27 (fun hz H locs G => ?_)
  obtain rfl := Option.some.inj hf
  exact xI_ret C G rfl dX12_seating_30
set_option maxHeartbeats 4000000 in
set_option maxRecDepth 100000 in
theorem c_M_seatAt_m_M {l : Launch} {E : xE} {ad : Nat → Nat} {m_thrown m_trouble m_where m_taped m_size m_spot m_sort m_place m_number m_fault m_wrongAt m_acts m_images m_matchNow m_slopsNow m_matchesNow m_fedBest m_slopsBest m_sawBest m_leastNow m_stableNow m_fitsNow m_someNow m_everyNow m_askLeft tb_seats tb_slack tb_saw tb_quarrel tb_people tb_pairs tb_forks tb_unsures tb_trieds tb_fed : Int32} {m_rv : Value} {m_tape m_v m_x m_past m_kept m_slopped m_seatBest m_otherIn tb_seat tb_one tb_other tb_years tb_kind tb_unsure tb_may tb_tried : Nat → Int32} {m_word : Int64} {tb_name : Nat → Int64} {l1 : Int32} {R0 : Int32 × Int32 × Int32 × Int32 × (Nat → Int32) × Int32 × Int32 × Int32 × (Nat → Int32) × (Nat → Int32) × Int32 × Int32} (hf : f_M_seatAt l1 m_v m_x m_matchNow m_slopsNow m_matchesNow m_slopped m_seatBest m_fedBest m_slopsBest tb_seats tb_slack tb_people = some R0) : xI l E yX12_seatAt cX12_seatAt 2 (some .int) 7 152 [.ref (ad 0), .int l1] (wM E ad m_thrown m_trouble m_where m_rv m_tape m_taped m_size m_spot m_sort m_place m_number m_fault m_wrongAt m_word m_v m_x m_past m_kept m_acts m_images m_matchNow m_slopsNow m_matchesNow m_slopped m_seatBest m_fedBest m_slopsBest m_sawBest m_leastNow m_stableNow m_fitsNow m_someNow m_everyNow m_otherIn m_askLeft tb_seats tb_slack tb_saw tb_quarrel tb_people tb_pairs tb_forks tb_unsures tb_trieds tb_fed tb_seat tb_one tb_other tb_years tb_kind tb_unsure tb_may tb_tried tb_name) (wM E ad R0.2.1 R0.2.2.1 R0.2.2.2.1 m_rv m_tape m_taped m_size m_spot m_sort m_place m_number m_fault m_wrongAt m_word m_v R0.2.2.2.2.1 m_past m_kept m_acts m_images R0.2.2.2.2.2.1 R0.2.2.2.2.2.2.1 R0.2.2.2.2.2.2.2.1 R0.2.2.2.2.2.2.2.2.1 R0.2.2.2.2.2.2.2.2.2.1 R0.2.2.2.2.2.2.2.2.2.2.1 R0.2.2.2.2.2.2.2.2.2.2.2 m_sawBest m_leastNow m_stableNow m_fitsNow m_someNow m_everyNow m_otherIn m_askLeft tb_seats tb_slack tb_saw tb_quarrel tb_people tb_pairs tb_forks tb_unsures tb_trieds tb_fed tb_seat tb_one tb_other tb_years tb_kind tb_unsure tb_may tb_tried tb_name) R0.1 := by
  refine xI_of (by decide) (Nat.le_of_ble_eq_true rfl) (fun p e s m args below meth c A C ls hl G => ?_)
  have hx := C.1
  have hb := C.2.1
  have hl : lv_has ls 2 [(0, .ref (ad 0)), (1, .int l1)] := hl
  unfold f_M_seatAt at hf
  refine lv_aload_n hx hb dX12_seatAt_0 rfl (lv_at hl 0 rfl) ?_
  refine lv_iconst (v := 0) hx hb dX12_seatAt_1 (by decide) ?_
  refine x_put (ws' := (wM E ad (0 : Int32) m_trouble m_where m_rv m_tape m_taped m_size m_spot m_sort m_place m_number m_fault m_wrongAt m_word m_v m_x m_past m_kept m_acts m_images m_matchNow m_slopsNow m_matchesNow m_slopped m_seatBest m_fedBest m_slopsBest m_sawBest m_leastNow m_stableNow m_fitsNow m_someNow m_everyNow m_otherIn m_askLeft tb_seats tb_slack tb_saw tb_quarrel tb_people tb_pairs tb_forks tb_unsures tb_trieds tb_fed tb_seat tb_one tb_other tb_years tb_kind tb_unsure tb_may tb_tried tb_name)) C G fX12_39 (wM_at0) rfl rfl (Nat.le_of_ble_eq_true rfl) wM_set_m_thrown dX12_seatAt_2 (fun H locs G => ?_)
  refine lv_aload_n hx hb dX12_seatAt_5 rfl (lv_at hl 0 rfl) ?_
  refine lv_iload_n hx hb dX12_seatAt_6 rfl (lv_at hl 1 rfl) ?_
  obtain ⟨x1, hc, hf⟩ := bd_go hf
  refine xI_V C G (c_M_isPerson_m_M hc) mX12_isPerson kX12_309 (wM_at0) rfl ⟨Nat.le_of_ble_eq_true rfl, Nat.le_of_ble_eq_true rfl⟩ rfl hl.1 rfl (Nat.le_of_ble_eq_true rfl) ⟨Nat.le_refl _, Nat.le_refl _⟩ dX12_seatAt_7 (fun hz1 H locs G => ?_)
  refine lv_if_ne (tgt := 19) hx hb dX12_seatAt_10 (by decide) (fun h => ?_) (fun h => ?_)
  · have hf := it_f h hf
    refine lv_aload_n hx hb dX12_seatAt_19 rfl (lv_at hl 0 rfl) ?_
    obtain ⟨x2, hc, hf⟩ := bd_go hf
    refine xV_V C G (c_M_seats_m_M hc) mX12_seats kX12_395 (wM_at0) rfl ⟨Nat.le_of_ble_eq_true rfl, Nat.le_of_ble_eq_true rfl⟩ rfl hl.1 rfl (Nat.le_of_ble_eq_true rfl) ⟨Nat.le_refl _, Nat.le_refl _⟩ dX12_seatAt_20 (fun H locs G => ?_)
    refine lv_aload_n hx hb dX12_seatAt_23 rfl (lv_at hl 0 rfl) ?_
    refine lv_aload_n hx hb dX12_seatAt_24 rfl (lv_at hl 0 rfl) ?_
    refine x_get C G fX12_33 (wM_at0) rfl dX12_seatAt_25 ?_
    refine lv_iload_n hx hb dX12_seatAt_28 rfl (lv_at hl 1 rfl) ?_
    have hi := ck_in hf
    have hf := ck_go hf
    refine x_iald C G (wM_at7) hi dX12_seatAt_29 ?_
    obtain ⟨x3, hc, hf⟩ := bd_go hf
    refine xI_V C G (c_M_good_m_M hc) mX12_good kX12_49 (wM_at0) rfl ⟨Nat.le_of_ble_eq_true rfl, Nat.le_of_ble_eq_true rfl⟩ rfl hl.1 rfl (Nat.le_of_ble_eq_true rfl) ⟨Nat.le_refl _, Nat.le_refl _⟩ dX12_seatAt_30 (fun hz H locs G => ?_)
    obtain rfl := Option.some.inj hf
    exact xI_ret C G rfl dX12_seatAt_33
  · have hf := it_t h hf
    refine lv_aload_n hx hb dX12_seatAt_13 rfl (lv_at hl 0 rfl) ?_
    refine lv_iconst (v := 1) hx hb dX12_seatAt_14 (by decide) ?_
    obtain ⟨x4, hc, hf⟩ := bd_go hf
    refine xI_V C G (c_M_refused_m_M hc) mX12_refused kX12_45 (wM_at0) rfl ⟨Nat.le_of_ble_eq_true rfl, Nat.le_of_ble_eq_true rfl⟩ rfl hl.1 rfl (Nat.le_of_ble_eq_true rfl) ⟨Nat.le_refl _, Nat.le_refl _⟩ dX12_seatAt_15 (fun hz H locs G => ?_)
    obtain rfl := Option.some.inj hf
    exact xI_ret C G rfl dX12_seatAt_18
set_option maxHeartbeats 4000000 in
set_option maxRecDepth 100000 in
theorem c_M_seatSlops_m_M {l : Launch} {E : xE} {ad : Nat → Nat} {m_thrown m_trouble m_where m_taped m_size m_spot m_sort m_place m_number m_fault m_wrongAt m_acts m_images m_matchNow m_slopsNow m_matchesNow m_fedBest m_slopsBest m_sawBest m_leastNow m_stableNow m_fitsNow m_someNow m_everyNow m_askLeft tb_seats tb_slack tb_saw tb_quarrel tb_people tb_pairs tb_forks tb_unsures tb_trieds tb_fed : Int32} {m_rv : Value} {m_tape m_v m_x m_past m_kept m_slopped m_seatBest m_otherIn tb_seat tb_one tb_other tb_years tb_kind tb_unsure tb_may tb_tried : Nat → Int32} {m_word : Int64} {tb_name : Nat → Int64} {R0 : Int32 × Int32 × Int32 × Int32 × (Nat → Int32) × Int32 × Int32 × Int32 × (Nat → Int32) × (Nat → Int32) × Int32 × Int32} (hf : f_M_seatSlops m_v m_x m_matchNow m_slopsNow m_matchesNow m_slopped m_seatBest tb_seats tb_slack tb_people = some R0) : xI l E yX12_seatSlops cX12_seatSlops 1 (some .int) 7 152 [.ref (ad 0)] (wM E ad m_thrown m_trouble m_where m_rv m_tape m_taped m_size m_spot m_sort m_place m_number m_fault m_wrongAt m_word m_v m_x m_past m_kept m_acts m_images m_matchNow m_slopsNow m_matchesNow m_slopped m_seatBest m_fedBest m_slopsBest m_sawBest m_leastNow m_stableNow m_fitsNow m_someNow m_everyNow m_otherIn m_askLeft tb_seats tb_slack tb_saw tb_quarrel tb_people tb_pairs tb_forks tb_unsures tb_trieds tb_fed tb_seat tb_one tb_other tb_years tb_kind tb_unsure tb_may tb_tried tb_name) (wM E ad R0.2.1 R0.2.2.1 R0.2.2.2.1 m_rv m_tape m_taped m_size m_spot m_sort m_place m_number m_fault m_wrongAt m_word m_v R0.2.2.2.2.1 m_past m_kept m_acts m_images R0.2.2.2.2.2.1 R0.2.2.2.2.2.2.1 R0.2.2.2.2.2.2.2.1 R0.2.2.2.2.2.2.2.2.1 R0.2.2.2.2.2.2.2.2.2.1 R0.2.2.2.2.2.2.2.2.2.2.1 R0.2.2.2.2.2.2.2.2.2.2.2 m_sawBest m_leastNow m_stableNow m_fitsNow m_someNow m_everyNow m_otherIn m_askLeft tb_seats tb_slack tb_saw tb_quarrel tb_people tb_pairs tb_forks tb_unsures tb_trieds tb_fed tb_seat tb_one tb_other tb_years tb_kind tb_unsure tb_may tb_tried tb_name) R0.1 := by
  refine xI_of (by decide) (Nat.le_of_ble_eq_true rfl) (fun p e s m args below meth c A C ls hl G => ?_)
  have hx := C.1
  have hb := C.2.1
  have hl : lv_has ls 1 [(0, .ref (ad 0))] := hl
  unfold f_M_seatSlops at hf
  refine lv_aload_n hx hb dX12_seatSlops_0 rfl (lv_at hl 0 rfl) ?_
  refine lv_iconst (v := 0) hx hb dX12_seatSlops_1 (by decide) ?_
  refine x_put (ws' := (wM E ad (0 : Int32) m_trouble m_where m_rv m_tape m_taped m_size m_spot m_sort m_place m_number m_fault m_wrongAt m_word m_v m_x m_past m_kept m_acts m_images m_matchNow m_slopsNow m_matchesNow m_slopped m_seatBest m_fedBest m_slopsBest m_sawBest m_leastNow m_stableNow m_fitsNow m_someNow m_everyNow m_otherIn m_askLeft tb_seats tb_slack tb_saw tb_quarrel tb_people tb_pairs tb_forks tb_unsures tb_trieds tb_fed tb_seat tb_one tb_other tb_years tb_kind tb_unsure tb_may tb_tried tb_name)) C G fX12_39 (wM_at0) rfl rfl (Nat.le_of_ble_eq_true rfl) wM_set_m_thrown dX12_seatSlops_2 (fun H locs G => ?_)
  refine lv_aload_n hx hb dX12_seatSlops_5 rfl (lv_at hl 0 rfl) ?_
  refine x_get C G fX12_298.g (wM_at0) rfl dX12_seatSlops_6 ?_
  refine lv_ifnonnull (tgt := 18) hx hb dX12_seatSlops_9 (by decide) ?_
  refine lv_aload_n hx hb dX12_seatSlops_18 rfl (lv_at hl 0 rfl) ?_
  obtain ⟨x1, hc, hf⟩ := bd_go hf
  refine xV_V C G (c_M_seats_m_M hc) mX12_seats kX12_395 (wM_at0) rfl ⟨Nat.le_of_ble_eq_true rfl, Nat.le_of_ble_eq_true rfl⟩ rfl hl.1 rfl (Nat.le_of_ble_eq_true rfl) ⟨Nat.le_refl _, Nat.le_refl _⟩ dX12_seatSlops_19 (fun H locs G => ?_)
  refine lv_aload_n hx hb dX12_seatSlops_22 rfl (lv_at hl 0 rfl) ?_
  refine lv_aload_n hx hb dX12_seatSlops_23 rfl (lv_at hl 0 rfl) ?_
  refine x_get C G fX12_385.g (wM_at0) rfl dX12_seatSlops_24 ?_
  obtain ⟨x2, hc, hf⟩ := bd_go hf
  refine xI_V C G (c_M_good_m_M hc) mX12_good kX12_49 (wM_at0) rfl ⟨Nat.le_of_ble_eq_true rfl, Nat.le_of_ble_eq_true rfl⟩ rfl hl.1 rfl (Nat.le_of_ble_eq_true rfl) ⟨Nat.le_refl _, Nat.le_refl _⟩ dX12_seatSlops_27 (fun hz H locs G => ?_)
  obtain rfl := Option.some.inj hf
  exact xI_ret C G rfl dX12_seatSlops_30
set_option maxHeartbeats 4000000 in
set_option maxRecDepth 100000 in
theorem c_M_fedSwapped_m_M {l : Launch} {E : xE} {ad : Nat → Nat} {m_thrown m_trouble m_where m_taped m_size m_spot m_sort m_place m_number m_fault m_wrongAt m_acts m_images m_matchNow m_slopsNow m_matchesNow m_fedBest m_slopsBest m_sawBest m_leastNow m_stableNow m_fitsNow m_someNow m_everyNow m_askLeft tb_seats tb_slack tb_saw tb_quarrel tb_people tb_pairs tb_forks tb_unsures tb_trieds tb_fed : Int32} {m_rv : Value} {m_tape m_v m_x m_past m_kept m_slopped m_seatBest m_otherIn tb_seat tb_one tb_other tb_years tb_kind tb_unsure tb_may tb_tried : Nat → Int32} {m_word : Int64} {tb_name : Nat → Int64} {l1 : Int32} {l2 : Int32} {R0 : Int32 × (Nat → Int32) × Int32 × Int32 × Int32 × (Nat → Int32)} (hf : f_M_fedSwapped l1 l2 m_v m_x m_slopped tb_seats tb_slack = some R0) : xI l E yX12_fedSwapped cX12_fedSwapped 4 (some .int) 5 109 [.ref (ad 0), .int l1, .int l2] (wM E ad m_thrown m_trouble m_where m_rv m_tape m_taped m_size m_spot m_sort m_place m_number m_fault m_wrongAt m_word m_v m_x m_past m_kept m_acts m_images m_matchNow m_slopsNow m_matchesNow m_slopped m_seatBest m_fedBest m_slopsBest m_sawBest m_leastNow m_stableNow m_fitsNow m_someNow m_everyNow m_otherIn m_askLeft tb_seats tb_slack tb_saw tb_quarrel tb_people tb_pairs tb_forks tb_unsures tb_trieds tb_fed tb_seat tb_one tb_other tb_years tb_kind tb_unsure tb_may tb_tried tb_name) (wM E ad m_thrown m_trouble m_where m_rv m_tape m_taped m_size m_spot m_sort m_place m_number m_fault m_wrongAt m_word m_v R0.2.1 m_past m_kept m_acts m_images R0.2.2.1 R0.2.2.2.1 R0.2.2.2.2.1 R0.2.2.2.2.2 m_seatBest m_fedBest m_slopsBest m_sawBest m_leastNow m_stableNow m_fitsNow m_someNow m_everyNow m_otherIn m_askLeft tb_seats tb_slack tb_saw tb_quarrel tb_people tb_pairs tb_forks tb_unsures tb_trieds tb_fed tb_seat tb_one tb_other tb_years tb_kind tb_unsure tb_may tb_tried tb_name) R0.1 := by
  refine xI_of (by decide) (Nat.le_of_ble_eq_true rfl) (fun p e s m args below meth c A C ls hl G => ?_)
  have hx := C.1
  have hb := C.2.1
  have hl : lv_has ls 4 [(0, .ref (ad 0)), (1, .int l1), (2, .int l2)] := hl
  unfold f_M_fedSwapped at hf
  refine lv_aload_n hx hb dX12_fedSwapped_0 rfl (lv_at hl 0 rfl) ?_
  obtain ⟨x1, hc, hf⟩ := bd_go hf
  refine xV_V C G (c_M_works_m_M hc) mX12_works kX12_333 (wM_at0) rfl ⟨Nat.le_of_ble_eq_true rfl, Nat.le_of_ble_eq_true rfl⟩ rfl hl.1 rfl (Nat.le_of_ble_eq_true rfl) ⟨Nat.le_refl _, Nat.le_refl _⟩ dX12_fedSwapped_1 (fun H locs G => ?_)
  refine lv_aload_n hx hb dX12_fedSwapped_4 rfl (lv_at hl 0 rfl) ?_
  refine x_get C G fX12_21 (wM_at0) rfl dX12_fedSwapped_5 ?_
  refine lv_iload_n hx hb dX12_fedSwapped_8 rfl (lv_at hl 1 rfl) ?_
  have hi := ck_in hf
  have hf := ck_go hf
  refine x_iald C G (wM_at3) hi dX12_fedSwapped_9 ?_
  refine lv_topi (fun x2 ex2 => ?_)
  have hf := lt_go ex2 hf
  refine lv_istore_n (lv' := [(3, .int x2), (0, .ref (ad 0)), (1, .int l1), (2, .int l2)]) hx hb dX12_fedSwapped_10 rfl hl (by decide) rfl (fun ls hl => ?_)
  refine lv_aload_n hx hb dX12_fedSwapped_11 rfl (lv_at hl 1 rfl) ?_
  refine x_get C G fX12_21 (wM_at0) rfl dX12_fedSwapped_12 ?_
  refine lv_iload_n hx hb dX12_fedSwapped_15 rfl (lv_at hl 2 rfl) ?_
  refine lv_aload_n hx hb dX12_fedSwapped_16 rfl (lv_at hl 1 rfl) ?_
  refine x_get C G fX12_21 (wM_at0) rfl dX12_fedSwapped_17 ?_
  refine lv_iload_n hx hb dX12_fedSwapped_20 rfl (lv_at hl 3 rfl) ?_
  have hi := ck_in hf
  have hf := ck_go hf
  refine x_iald C G (wM_at3) hi dX12_fedSwapped_21 ?_
  have hi := ck_in hf
  have hf := ck_go hf
  refine x_iast (ws' := (wM E ad m_thrown m_trouble m_where m_rv m_tape m_taped m_size m_spot m_sort m_place m_number m_fault m_wrongAt m_word m_v (upd x1 l1.toNatClampNeg (x1 l2.toNatClampNeg)) m_past m_kept m_acts m_images m_matchNow m_slopsNow m_matchesNow m_slopped m_seatBest m_fedBest m_slopsBest m_sawBest m_leastNow m_stableNow m_fitsNow m_someNow m_everyNow m_otherIn m_askLeft tb_seats tb_slack tb_saw tb_quarrel tb_people tb_pairs tb_forks tb_unsures tb_trieds tb_fed tb_seat tb_one tb_other tb_years tb_kind tb_unsure tb_may tb_tried tb_name)) C G (wM_at3) hi wM_set_m_x dX12_fedSwapped_22 (fun H locs G => ?_)
  refine lv_aload_n hx hb dX12_fedSwapped_23 rfl (lv_at hl 1 rfl) ?_
  refine x_get C G fX12_21 (wM_at0) rfl dX12_fedSwapped_24 ?_
  refine lv_iload_n hx hb dX12_fedSwapped_27 rfl (lv_at hl 3 rfl) ?_
  refine lv_iload_n hx hb dX12_fedSwapped_28 rfl (lv_at hl 0 rfl) ?_
  have hi := ck_in hf
  have hf := ck_go hf
  refine x_iast (ws' := (wM E ad m_thrown m_trouble m_where m_rv m_tape m_taped m_size m_spot m_sort m_place m_number m_fault m_wrongAt m_word m_v (upd (upd x1 l1.toNatClampNeg (x1 l2.toNatClampNeg)) l2.toNatClampNeg x2) m_past m_kept m_acts m_images m_matchNow m_slopsNow m_matchesNow m_slopped m_seatBest m_fedBest m_slopsBest m_sawBest m_leastNow m_stableNow m_fitsNow m_someNow m_everyNow m_otherIn m_askLeft tb_seats tb_slack tb_saw tb_quarrel tb_people tb_pairs tb_forks tb_unsures tb_trieds tb_fed tb_seat tb_one tb_other tb_years tb_kind tb_unsure tb_may tb_tried tb_name)) C G (wM_at3) hi wM_set_m_x dX12_fedSwapped_29 (fun H locs G => ?_)
  refine lv_aload_n hx hb dX12_fedSwapped_30 rfl (lv_at hl 1 rfl) ?_
  obtain ⟨x3, hc, hf⟩ := bd_go hf
  refine xI_V C G (c_M_matching_m_M hc) mX12_matching kX12_366 (wM_at0) rfl ⟨Nat.le_of_ble_eq_true rfl, Nat.le_of_ble_eq_true rfl⟩ rfl hl.1 rfl (Nat.le_of_ble_eq_true rfl) ⟨Nat.le_refl _, Nat.le_refl _⟩ dX12_fedSwapped_31 (fun hz H locs G => ?_)
  obtain rfl := Option.some.inj hf
  exact xI_ret C G rfl dX12_fedSwapped_34
set_option maxHeartbeats 4000000 in
set_option maxRecDepth 100000 in
theorem c_M_swapped_m_M {l : Launch} {E : xE} {ad : Nat → Nat} {m_thrown m_trouble m_where m_taped m_size m_spot m_sort m_place m_number m_fault m_wrongAt m_acts m_images m_matchNow m_slopsNow m_matchesNow m_fedBest m_slopsBest m_sawBest m_leastNow m_stableNow m_fitsNow m_someNow m_everyNow m_askLeft tb_seats tb_slack tb_saw tb_quarrel tb_people tb_pairs tb_forks tb_unsures tb_trieds tb_fed : Int32} {m_rv : Value} {m_tape m_v m_x m_past m_kept m_slopped m_seatBest m_otherIn tb_seat tb_one tb_other tb_years tb_kind tb_unsure tb_may tb_tried : Nat → Int32} {m_word : Int64} {tb_name : Nat → Int64} {l1 : Int32} {l2 : Int32} {R0 : Int32 × Int32 × Int32 × Int32 × (Nat → Int32) × Int32 × Int32 × Int32 × (Nat → Int32)} (hf : f_M_swapped l1 l2 m_v m_x m_matchNow m_slopsNow m_matchesNow m_slopped tb_seats tb_slack tb_people = some R0) : xI l E yX12_swapped cX12_swapped 3 (some .int) 6 132 [.ref (ad 0), .int l1, .int l2] (wM E ad m_thrown m_trouble m_where m_rv m_tape m_taped m_size m_spot m_sort m_place m_number m_fault m_wrongAt m_word m_v m_x m_past m_kept m_acts m_images m_matchNow m_slopsNow m_matchesNow m_slopped m_seatBest m_fedBest m_slopsBest m_sawBest m_leastNow m_stableNow m_fitsNow m_someNow m_everyNow m_otherIn m_askLeft tb_seats tb_slack tb_saw tb_quarrel tb_people tb_pairs tb_forks tb_unsures tb_trieds tb_fed tb_seat tb_one tb_other tb_years tb_kind tb_unsure tb_may tb_tried tb_name) (wM E ad R0.2.1 R0.2.2.1 R0.2.2.2.1 m_rv m_tape m_taped m_size m_spot m_sort m_place m_number m_fault m_wrongAt m_word m_v R0.2.2.2.2.1 m_past m_kept m_acts m_images R0.2.2.2.2.2.1 R0.2.2.2.2.2.2.1 R0.2.2.2.2.2.2.2.1 R0.2.2.2.2.2.2.2.2 m_seatBest m_fedBest m_slopsBest m_sawBest m_leastNow m_stableNow m_fitsNow m_someNow m_everyNow m_otherIn m_askLeft tb_seats tb_slack tb_saw tb_quarrel tb_people tb_pairs tb_forks tb_unsures tb_trieds tb_fed tb_seat tb_one tb_other tb_years tb_kind tb_unsure tb_may tb_tried tb_name) R0.1 := by
  refine xI_of (by decide) (Nat.le_of_ble_eq_true rfl) (fun p e s m args below meth c A C ls hl G => ?_)
  have hx := C.1
  have hb := C.2.1
  have hl : lv_has ls 3 [(0, .ref (ad 0)), (1, .int l1), (2, .int l2)] := hl
  unfold f_M_swapped at hf
  refine lv_aload_n hx hb dX12_swapped_0 rfl (lv_at hl 0 rfl) ?_
  refine lv_iconst (v := 0) hx hb dX12_swapped_1 (by decide) ?_
  refine x_put (ws' := (wM E ad (0 : Int32) m_trouble m_where m_rv m_tape m_taped m_size m_spot m_sort m_place m_number m_fault m_wrongAt m_word m_v m_x m_past m_kept m_acts m_images m_matchNow m_slopsNow m_matchesNow m_slopped m_seatBest m_fedBest m_slopsBest m_sawBest m_leastNow m_stableNow m_fitsNow m_someNow m_everyNow m_otherIn m_askLeft tb_seats tb_slack tb_saw tb_quarrel tb_people tb_pairs tb_forks tb_unsures tb_trieds tb_fed tb_seat tb_one tb_other tb_years tb_kind tb_unsure tb_may tb_tried tb_name)) C G fX12_39 (wM_at0) rfl rfl (Nat.le_of_ble_eq_true rfl) wM_set_m_thrown dX12_swapped_2 (fun H locs G => ?_)
  refine lv_aload_n hx hb dX12_swapped_5 rfl (lv_at hl 0 rfl) ?_
  refine lv_iload_n hx hb dX12_swapped_6 rfl (lv_at hl 1 rfl) ?_
  refine lv_iload_n hx hb dX12_swapped_7 rfl (lv_at hl 2 rfl) ?_
  obtain ⟨x1, hc, hf⟩ := bd_go hf
  refine xI_V C G (c_M_areTwo_m_M hc) mX12_areTwo kX12_342 (wM_at0) rfl ⟨Nat.le_of_ble_eq_true rfl, Nat.le_of_ble_eq_true rfl⟩ rfl hl.1 rfl (Nat.le_of_ble_eq_true rfl) ⟨Nat.le_refl _, Nat.le_refl _⟩ dX12_swapped_8 (fun hz1 H locs G => ?_)
  refine lv_if_eq (tgt := 27) hx hb dX12_swapped_11 (by decide) (fun h => ?_) (fun h => ?_)
  · have hf := it_t h hf
    refine lv_aload_n hx hb dX12_swapped_27 rfl (lv_at hl 0 rfl) ?_
    refine lv_iconst (v := 1) hx hb dX12_swapped_28 (by decide) ?_
    obtain ⟨x2, hc, hf⟩ := bd_go hf
    refine xI_V C G (c_M_refused_m_M hc) mX12_refused kX12_45 (wM_at0) rfl ⟨Nat.le_of_ble_eq_true rfl, Nat.le_of_ble_eq_true rfl⟩ rfl hl.1 rfl (Nat.le_of_ble_eq_true rfl) ⟨Nat.le_refl _, Nat.le_refl _⟩ dX12_swapped_29 (fun hz H locs G => ?_)
    obtain rfl := Option.some.inj hf
    exact xI_ret C G rfl dX12_swapped_32
  · have hf := it_f h hf
    refine lv_aload_n hx hb dX12_swapped_14 rfl (lv_at hl 0 rfl) ?_
    refine lv_aload_n hx hb dX12_swapped_15 rfl (lv_at hl 0 rfl) ?_
    refine lv_iload_n hx hb dX12_swapped_16 rfl (lv_at hl 1 rfl) ?_
    refine lv_iload_n hx hb dX12_swapped_17 rfl (lv_at hl 2 rfl) ?_
    obtain ⟨x3, hc, hf⟩ := bd_go hf
    refine xI_V C G (c_M_fedSwapped_m_M hc) mX12_fedSwapped kX12_397 (wM_at0) rfl ⟨Nat.le_of_ble_eq_true rfl, Nat.le_of_ble_eq_true rfl⟩ rfl hl.1 rfl (Nat.le_of_ble_eq_true rfl) ⟨Nat.le_refl _, Nat.le_refl _⟩ dX12_swapped_18 (fun hz H locs G => ?_)
    obtain ⟨x4, hc, hf⟩ := bd_go hf
    refine xI_V C G (c_M_good_m_M hc) mX12_good kX12_49 (wM_at0) rfl ⟨Nat.le_of_ble_eq_true rfl, Nat.le_of_ble_eq_true rfl⟩ rfl hl.1 rfl (Nat.le_of_ble_eq_true rfl) ⟨Nat.le_refl _, Nat.le_refl _⟩ dX12_swapped_21 (fun hz H locs G => ?_)
    refine lv_goto (tgt := 32) hx hb dX12_swapped_24 (by decide) ?_
    obtain rfl := Option.some.inj hf
    exact xI_ret C G rfl dX12_swapped_32
set_option maxHeartbeats 4000000 in
set_option maxRecDepth 100000 in
theorem w_M_bestSwap_m_M_L48 {p : Program} {l : Launch} {e : Env} {s : State} {m : MethodId} {args : Array Value} {below : List Frame} {meth : Method} {c : Code} {A : Nat → Prop} {E : xE} {Q : State → Prop} {ad : Nat → Nat} {m_thrown m_trouble m_where m_taped m_size m_spot m_sort m_place m_number m_fault m_wrongAt m_acts m_images m_fedBest m_slopsBest m_sawBest m_leastNow m_stableNow m_fitsNow m_someNow m_everyNow m_askLeft tb_seats tb_slack tb_saw tb_quarrel tb_people tb_pairs tb_forks tb_unsures tb_trieds tb_fed : Int32} {m_rv : Value} {m_tape m_v m_past m_kept m_seatBest m_otherIn tb_seat tb_one tb_other tb_years tb_kind tb_unsure tb_may tb_tried : Nat → Int32} {m_word : Int64} {tb_name : Nat → Int64} {l3 : Int32} {o : Int32 × Int32 × (Nat → Int32) × Int32 × Int32 × Int32 × (Nat → Int32)} (C : xC p s m args meth c cX12_bestSwap 6 RX12 E A (some .int)) (J : ∀ (H : Heap) (locs : List Loc) (ls : Array Slot), xG s E A (wM E ad m_thrown m_trouble m_where m_rv m_tape m_taped m_size m_spot m_sort m_place m_number m_fault m_wrongAt m_word m_v o.2.2.1 m_past m_kept m_acts m_images o.2.2.2.1 o.2.2.2.2.1 o.2.2.2.2.2.1 o.2.2.2.2.2.2 m_seatBest m_fedBest m_slopsBest m_sawBest m_leastNow m_stableNow m_fitsNow m_someNow m_everyNow m_otherIn m_askLeft tb_seats tb_slack tb_saw tb_quarrel tb_people tb_pairs tb_forks tb_unsures tb_trieds tb_fed tb_seat tb_one tb_other tb_years tb_kind tb_unsure tb_may tb_tried tb_name) H locs → lv_has ls 6 [(0, .ref (ad 0)), (1, .int o.1), (2, .int o.2.1), (3, .int l3)] → W p l e (xR 6 132) s m args below meth c H locs 0 0 Q (F0 m 95 ls [])) :
    ∀ (n : Nat) (l1 : Int32) (l2 : Int32) (l4 : Int32) (m_x : Nat → Int32) (m_matchNow : Int32) (m_slopsNow : Int32) (m_matchesNow : Int32) (m_slopped : Nat → Int32) (H : Heap) (locs : List Loc) (ls : Array Slot), xG s E A (wM E ad m_thrown m_trouble m_where m_rv m_tape m_taped m_size m_spot m_sort m_place m_number m_fault m_wrongAt m_word m_v m_x m_past m_kept m_acts m_images m_matchNow m_slopsNow m_matchesNow m_slopped m_seatBest m_fedBest m_slopsBest m_sawBest m_leastNow m_stableNow m_fitsNow m_someNow m_everyNow m_otherIn m_askLeft tb_seats tb_slack tb_saw tb_quarrel tb_people tb_pairs tb_forks tb_unsures tb_trieds tb_fed tb_seat tb_one tb_other tb_years tb_kind tb_unsure tb_may tb_tried tb_name) H locs → lv_has ls 6 [(0, .ref (ad 0)), (1, .int l1), (2, .int l2), (3, .int l3), (4, .int l4)] → f_M_bestSwap_L48 l3 m_v tb_seats tb_slack tb_people n l1 l2 l4 m_x m_matchNow m_slopsNow m_matchesNow m_slopped = some o → W p l e (xR 6 132) s m args below meth c H locs 0 0 Q (F0 m 48 ls []) := by
  have hx := C.1
  have hb := C.2.1
  intro n
  induction n with
  | zero =>
    intro l1 l2 l4 m_x m_matchNow m_slopsNow m_matchesNow m_slopped H locs ls G hl hf
    exact nomatch (show (none : Option (Int32 × Int32 × (Nat → Int32) × Int32 × Int32 × Int32 × (Nat → Int32))) = some o from hf)
  | succ n ih =>
    intro l1 l2 l4 m_x m_matchNow m_slopsNow m_matchesNow m_slopped H locs ls G hl hf
    rw [f_M_bestSwap_L48] at hf
    refine lv_iload hx hb dX12_bestSwap_48 (lv_at hl 4 rfl) ?_
    refine lv_aload_n hx hb dX12_bestSwap_50 rfl (lv_at hl 0 rfl) ?_
    refine x_get C G fX12_298.g (wM_at0) rfl dX12_bestSwap_51 ?_
    refine x_get C G fX12_177.g (wM_at9) rfl dX12_bestSwap_54 ?_
    refine lv_icmp_ge (tgt := 95) hx hb dX12_bestSwap_57 (by decide) (fun h => ?_) (fun h => ?_)
    · have hf := it_t h hf
      obtain rfl := Option.some.inj hf
      exact J _ _ _ G (lv_sub hl [0, 1, 2, 3] rfl)
    · have hf := it_f h hf
      refine lv_aload_n hx hb dX12_bestSwap_60 rfl (lv_at hl 0 rfl) ?_
      refine lv_iload_n hx hb dX12_bestSwap_61 rfl (lv_at hl 3 rfl) ?_
      refine lv_iload hx hb dX12_bestSwap_62 (lv_at hl 4 rfl) ?_
      obtain ⟨x4, hc, hf⟩ := bd_go hf
      refine xI_V C G (c_M_fedSwapped_m_M hc) mX12_fedSwapped kX12_397 (wM_at0) rfl ⟨Nat.le_of_ble_eq_true rfl, Nat.le_of_ble_eq_true rfl⟩ rfl hl.1 rfl (Nat.le_of_ble_eq_true rfl) ⟨Nat.le_refl _, Nat.le_refl _⟩ dX12_bestSwap_64 (fun hz H locs G => ?_)
      refine lv_istore (lv' := [(5, .int x4.1), (0, .ref (ad 0)), (1, .int l1), (2, .int l2), (3, .int l3), (4, .int l4)]) hx hb dX12_bestSwap_67 hl (by decide) rfl (fun ls hl => ?_)
      refine lv_iload hx hb dX12_bestSwap_69 (lv_at hl 0 rfl) ?_
      refine lv_iload_n hx hb dX12_bestSwap_71 rfl (lv_at hl 2 rfl) ?_
      refine lv_icmp_gt (tgt := 78) hx hb dX12_bestSwap_72 (by decide) (fun h => ?_) (fun h => ?_)
      · have hf := it_t h hf
        refine lv_iload hx hb dX12_bestSwap_78 (lv_at hl 0 rfl) ?_
        refine lv_istore_n (lv' := [(1, .int x4.1), (5, .int x4.1), (0, .ref (ad 0)), (2, .int l2), (3, .int l3), (4, .int l4)]) hx hb dX12_bestSwap_80 rfl hl (by decide) rfl (fun ls hl => ?_)
        refine lv_bipush (v := 10) hx hb dX12_bestSwap_81 (by decide) ?_
        refine lv_iload_n hx hb dX12_bestSwap_83 rfl (lv_at hl 4 rfl) ?_
        refine lv_imul hx hb dX12_bestSwap_84 ?_
        refine lv_iload hx hb dX12_bestSwap_85 (lv_at hl 5 rfl) ?_
        refine lv_iadd hx hb dX12_bestSwap_87 ?_
        refine lv_topi (fun x5 ex5 => ?_)
        have hf := lt_go ex5 hf
        refine lv_istore_n (lv' := [(2, .int x5), (1, .int x4.1), (5, .int x4.1), (0, .ref (ad 0)), (3, .int l3), (4, .int l4)]) hx hb dX12_bestSwap_88 rfl hl (by decide) rfl (fun ls hl => ?_)
        obtain ⟨x6, ex6⟩ : ∃ z : Int32, z = l4 + (1 : Int32) := ⟨_, rfl⟩
        have hf := lt_go ex6 hf
        refine lv_iinc (v := x6) (lv' := [(4, .int x6), (2, .int x5), (1, .int x4.1), (5, .int x4.1), (0, .ref (ad 0)), (3, .int l3)]) hx hb dX12_bestSwap_89 hl (k := 5) rfl (by rw [ex6]; rfl) (by decide) rfl (fun ls hl => ?_)
        refine lv_goto (tgt := 48) hx hb dX12_bestSwap_92 (by decide) ?_
        exact ih x4.1 x5 x6 x4.2.1 x4.2.2.1 x4.2.2.2.1 x4.2.2.2.2.1 x4.2.2.2.2.2 _ _ _ G (lv_sub hl [4, 2, 1, 5, 0] rfl) hf
      · have hf := it_f h hf
        refine lv_goto (tgt := 89) hx hb dX12_bestSwap_75 (by decide) ?_
        obtain ⟨x7, ex7⟩ : ∃ z : Int32, z = l4 + (1 : Int32) := ⟨_, rfl⟩
        have hf := lt_go ex7 hf
        refine lv_iinc (v := x7) (lv' := [(4, .int x7), (5, .int x4.1), (0, .ref (ad 0)), (1, .int l1), (2, .int l2), (3, .int l3)]) hx hb dX12_bestSwap_89 hl (k := 5) rfl (by rw [ex7]; rfl) (by decide) rfl (fun ls hl => ?_)
        refine lv_goto (tgt := 48) hx hb dX12_bestSwap_92 (by decide) ?_
        exact ih l1 l2 x7 x4.2.1 x4.2.2.1 x4.2.2.2.1 x4.2.2.2.2.1 x4.2.2.2.2.2 _ _ _ G (lv_sub hl [2, 3, 4, 5, 0] rfl) hf
set_option maxHeartbeats 4000000 in
set_option maxRecDepth 100000 in
theorem w_M_bestSwap_m_M_L32 {p : Program} {l : Launch} {e : Env} {s : State} {m : MethodId} {args : Array Value} {below : List Frame} {meth : Method} {c : Code} {A : Nat → Prop} {E : xE} {Q : State → Prop} {ad : Nat → Nat} {m_thrown m_trouble m_where m_taped m_size m_spot m_sort m_place m_number m_fault m_wrongAt m_acts m_images m_fedBest m_slopsBest m_sawBest m_leastNow m_stableNow m_fitsNow m_someNow m_everyNow m_askLeft tb_seats tb_slack tb_saw tb_quarrel tb_people tb_pairs tb_forks tb_unsures tb_trieds tb_fed : Int32} {m_rv : Value} {m_tape m_v m_past m_kept m_seatBest m_otherIn tb_seat tb_one tb_other tb_years tb_kind tb_unsure tb_may tb_tried : Nat → Int32} {m_word : Int64} {tb_name : Nat → Int64} {o : Int32 × (Nat → Int32) × Int32 × Int32 × Int32 × (Nat → Int32)} (C : xC p s m args meth c cX12_bestSwap 6 RX12 E A (some .int)) (J : ∀ (H : Heap) (locs : List Loc) (ls : Array Slot), xG s E A (wM E ad m_thrown m_trouble m_where m_rv m_tape m_taped m_size m_spot m_sort m_place m_number m_fault m_wrongAt m_word m_v o.2.1 m_past m_kept m_acts m_images o.2.2.1 o.2.2.2.1 o.2.2.2.2.1 o.2.2.2.2.2 m_seatBest m_fedBest m_slopsBest m_sawBest m_leastNow m_stableNow m_fitsNow m_someNow m_everyNow m_otherIn m_askLeft tb_seats tb_slack tb_saw tb_quarrel tb_people tb_pairs tb_forks tb_unsures tb_trieds tb_fed tb_seat tb_one tb_other tb_years tb_kind tb_unsure tb_may tb_tried tb_name) H locs → lv_has ls 6 [(0, .ref (ad 0)), (2, .int o.1)] → W p l e (xR 6 132) s m args below meth c H locs 0 0 Q (F0 m 101 ls [])) :
    ∀ (n : Nat) (l1 : Int32) (l2 : Int32) (l3 : Int32) (m_x : Nat → Int32) (m_matchNow : Int32) (m_slopsNow : Int32) (m_matchesNow : Int32) (m_slopped : Nat → Int32) (H : Heap) (locs : List Loc) (ls : Array Slot), xG s E A (wM E ad m_thrown m_trouble m_where m_rv m_tape m_taped m_size m_spot m_sort m_place m_number m_fault m_wrongAt m_word m_v m_x m_past m_kept m_acts m_images m_matchNow m_slopsNow m_matchesNow m_slopped m_seatBest m_fedBest m_slopsBest m_sawBest m_leastNow m_stableNow m_fitsNow m_someNow m_everyNow m_otherIn m_askLeft tb_seats tb_slack tb_saw tb_quarrel tb_people tb_pairs tb_forks tb_unsures tb_trieds tb_fed tb_seat tb_one tb_other tb_years tb_kind tb_unsure tb_may tb_tried tb_name) H locs → lv_has ls 6 [(0, .ref (ad 0)), (1, .int l1), (2, .int l2), (3, .int l3)] → f_M_bestSwap_L32 m_v tb_seats tb_slack tb_people n l1 l2 l3 m_x m_matchNow m_slopsNow m_matchesNow m_slopped = some o → W p l e (xR 6 132) s m args below meth c H locs 0 0 Q (F0 m 32 ls []) := by
  have hx := C.1
  have hb := C.2.1
  intro n
  induction n with
  | zero =>
    intro l1 l2 l3 m_x m_matchNow m_slopsNow m_matchesNow m_slopped H locs ls G hl hf
    exact nomatch (show (none : Option (Int32 × (Nat → Int32) × Int32 × Int32 × Int32 × (Nat → Int32))) = some o from hf)
  | succ n ih =>
    intro l1 l2 l3 m_x m_matchNow m_slopsNow m_matchesNow m_slopped H locs ls G hl hf
    rw [f_M_bestSwap_L32] at hf
    refine lv_iload_n hx hb dX12_bestSwap_32 rfl (lv_at hl 3 rfl) ?_
    refine lv_aload_n hx hb dX12_bestSwap_33 rfl (lv_at hl 0 rfl) ?_
    refine x_get C G fX12_298.g (wM_at0) rfl dX12_bestSwap_34 ?_
    refine x_get C G fX12_177.g (wM_at9) rfl dX12_bestSwap_37 ?_
    refine lv_icmp_ge (tgt := 101) hx hb dX12_bestSwap_40 (by decide) (fun h => ?_) (fun h => ?_)
    · have hf := it_t h hf
      obtain rfl := Option.some.inj hf
      exact J _ _ _ G (lv_sub hl [0, 2] rfl)
    · have hf := it_f h hf
      refine lv_iload_n hx hb dX12_bestSwap_43 rfl (lv_at hl 3 rfl) ?_
      refine lv_iconst (v := 1) hx hb dX12_bestSwap_44 (by decide) ?_
      refine lv_iadd hx hb dX12_bestSwap_45 ?_
      refine lv_topi (fun x3 ex3 => ?_)
      have hf := lt_go ex3 hf
      refine lv_istore (lv' := [(4, .int x3), (0, .ref (ad 0)), (1, .int l1), (2, .int l2), (3, .int l3)]) hx hb dX12_bestSwap_46 hl (by decide) rfl (fun ls hl => ?_)
      obtain ⟨x8, hr, hf⟩ := bd_go hf
      have Jx8 : ∀ (H : Heap) (locs : List Loc) (ls : Array Slot), xG s E A (wM E ad m_thrown m_trouble m_where m_rv m_tape m_taped m_size m_spot m_sort m_place m_number m_fault m_wrongAt m_word m_v x8.2.2.1 m_past m_kept m_acts m_images x8.2.2.2.1 x8.2.2.2.2.1 x8.2.2.2.2.2.1 x8.2.2.2.2.2.2 m_seatBest m_fedBest m_slopsBest m_sawBest m_leastNow m_stableNow m_fitsNow m_someNow m_everyNow m_otherIn m_askLeft tb_seats tb_slack tb_saw tb_quarrel tb_people tb_pairs tb_forks tb_unsures tb_trieds tb_fed tb_seat tb_one tb_other tb_years tb_kind tb_unsure tb_may tb_tried tb_name) H locs → lv_has ls 6 [(0, .ref (ad 0)), (1, .int x8.1), (2, .int x8.2.1), (3, .int l3)] → W p l e (xR 6 132) s m args below meth c H locs 0 0 Q (F0 m 95 ls []) := by
        intro H locs ls G hl
        obtain ⟨x9, ex9⟩ : ∃ z : Int32, z = l3 + (1 : Int32) := ⟨_, rfl⟩
        have hf := lt_go ex9 hf
        refine lv_iinc (v := x9) (lv' := [(3, .int x9), (0, .ref (ad 0)), (1, .int x8.1), (2, .int x8.2.1)]) hx hb dX12_bestSwap_95 hl (k := 3) rfl (by rw [ex9]; rfl) (by decide) rfl (fun ls hl => ?_)
        refine lv_goto (tgt := 32) hx hb dX12_bestSwap_98 (by decide) ?_
        exact ih x8.1 x8.2.1 x9 x8.2.2.1 x8.2.2.2.1 x8.2.2.2.2.1 x8.2.2.2.2.2.1 x8.2.2.2.2.2.2 _ _ _ G (lv_sub hl [1, 2, 3, 0] rfl) hf
      exact w_M_bestSwap_m_M_L48 C Jx8 fu _ _ _ _ _ _ _ _ _ _ _ G (lv_sub hl [1, 2, 3, 4, 0] rfl) hr
set_option maxHeartbeats 4000000 in
set_option maxRecDepth 100000 in
theorem c_M_bestSwap_m_M {l : Launch} {E : xE} {ad : Nat → Nat} {m_thrown m_trouble m_where m_taped m_size m_spot m_sort m_place m_number m_fault m_wrongAt m_acts m_images m_matchNow m_slopsNow m_matchesNow m_fedBest m_slopsBest m_sawBest m_leastNow m_stableNow m_fitsNow m_someNow m_everyNow m_askLeft tb_seats tb_slack tb_saw tb_quarrel tb_people tb_pairs tb_forks tb_unsures tb_trieds tb_fed : Int32} {m_rv : Value} {m_tape m_v m_x m_past m_kept m_slopped m_seatBest m_otherIn tb_seat tb_one tb_other tb_years tb_kind tb_unsure tb_may tb_tried : Nat → Int32} {m_word : Int64} {tb_name : Nat → Int64} {R0 : Int32 × Int32 × Int32 × Int32 × (Nat → Int32) × Int32 × Int32 × Int32 × (Nat → Int32)} (hf : f_M_bestSwap m_v m_x m_slopped tb_seats tb_slack tb_people = some R0) : xI l E yX12_bestSwap cX12_bestSwap 6 (some .int) 6 132 [.ref (ad 0)] (wM E ad m_thrown m_trouble m_where m_rv m_tape m_taped m_size m_spot m_sort m_place m_number m_fault m_wrongAt m_word m_v m_x m_past m_kept m_acts m_images m_matchNow m_slopsNow m_matchesNow m_slopped m_seatBest m_fedBest m_slopsBest m_sawBest m_leastNow m_stableNow m_fitsNow m_someNow m_everyNow m_otherIn m_askLeft tb_seats tb_slack tb_saw tb_quarrel tb_people tb_pairs tb_forks tb_unsures tb_trieds tb_fed tb_seat tb_one tb_other tb_years tb_kind tb_unsure tb_may tb_tried tb_name) (wM E ad R0.2.1 R0.2.2.1 R0.2.2.2.1 m_rv m_tape m_taped m_size m_spot m_sort m_place m_number m_fault m_wrongAt m_word m_v R0.2.2.2.2.1 m_past m_kept m_acts m_images R0.2.2.2.2.2.1 R0.2.2.2.2.2.2.1 R0.2.2.2.2.2.2.2.1 R0.2.2.2.2.2.2.2.2 m_seatBest m_fedBest m_slopsBest m_sawBest m_leastNow m_stableNow m_fitsNow m_someNow m_everyNow m_otherIn m_askLeft tb_seats tb_slack tb_saw tb_quarrel tb_people tb_pairs tb_forks tb_unsures tb_trieds tb_fed tb_seat tb_one tb_other tb_years tb_kind tb_unsure tb_may tb_tried tb_name) R0.1 := by
  refine xI_of (by decide) (Nat.le_of_ble_eq_true rfl) (fun p e s m args below meth c A C ls hl G => ?_)
  have hx := C.1
  have hb := C.2.1
  have hl : lv_has ls 6 [(0, .ref (ad 0))] := hl
  unfold f_M_bestSwap at hf
  refine lv_aload_n hx hb dX12_bestSwap_0 rfl (lv_at hl 0 rfl) ?_
  refine lv_iconst (v := 0) hx hb dX12_bestSwap_1 (by decide) ?_
  refine x_put (ws' := (wM E ad (0 : Int32) m_trouble m_where m_rv m_tape m_taped m_size m_spot m_sort m_place m_number m_fault m_wrongAt m_word m_v m_x m_past m_kept m_acts m_images m_matchNow m_slopsNow m_matchesNow m_slopped m_seatBest m_fedBest m_slopsBest m_sawBest m_leastNow m_stableNow m_fitsNow m_someNow m_everyNow m_otherIn m_askLeft tb_seats tb_slack tb_saw tb_quarrel tb_people tb_pairs tb_forks tb_unsures tb_trieds tb_fed tb_seat tb_one tb_other tb_years tb_kind tb_unsure tb_may tb_tried tb_name)) C G fX12_39 (wM_at0) rfl rfl (Nat.le_of_ble_eq_true rfl) wM_set_m_thrown dX12_bestSwap_2 (fun H locs G => ?_)
  refine lv_aload_n hx hb dX12_bestSwap_5 rfl (lv_at hl 0 rfl) ?_
  refine x_get C G fX12_298.g (wM_at0) rfl dX12_bestSwap_6 ?_
  refine lv_ifnonnull (tgt := 18) hx hb dX12_bestSwap_9 (by decide) ?_
  refine lv_aload_n hx hb dX12_bestSwap_18 rfl (lv_at hl 0 rfl) ?_
  obtain ⟨x1, hc, hf⟩ := bd_go hf
  refine xV_V C G (c_M_works_m_M hc) mX12_works kX12_333 (wM_at0) rfl ⟨Nat.le_of_ble_eq_true rfl, Nat.le_of_ble_eq_true rfl⟩ rfl hl.1 rfl (Nat.le_of_ble_eq_true rfl) ⟨Nat.le_refl _, Nat.le_refl _⟩ dX12_bestSwap_19 (fun H locs G => ?_)
  refine lv_aload_n hx hb dX12_bestSwap_22 rfl (lv_at hl 0 rfl) ?_
  obtain ⟨x2, hc, hf⟩ := bd_go hf
  refine xI_V C G (c_M_matching_m_M hc) mX12_matching kX12_366 (wM_at0) rfl ⟨Nat.le_of_ble_eq_true rfl, Nat.le_of_ble_eq_true rfl⟩ rfl hl.1 rfl (Nat.le_of_ble_eq_true rfl) ⟨Nat.le_refl _, Nat.le_refl _⟩ dX12_bestSwap_23 (fun hz H locs G => ?_)
  refine lv_istore_n (lv' := [(1, .int x2.1), (0, .ref (ad 0))]) hx hb dX12_bestSwap_26 rfl hl (by decide) rfl (fun ls hl => ?_)
  refine lv_bipush (v := -2) hx hb dX12_bestSwap_27 (by decide) ?_
  refine lv_istore_n (lv' := [(2, .int (-2 : Int32)), (1, .int x2.1), (0, .ref (ad 0))]) hx hb dX12_bestSwap_29 rfl hl (by decide) rfl (fun ls hl => ?_)
  refine lv_iconst (v := 0) hx hb dX12_bestSwap_30 (by decide) ?_
  refine lv_istore_n (lv' := [(3, .int (0 : Int32)), (2, .int (-2 : Int32)), (1, .int x2.1), (0, .ref (ad 0))]) hx hb dX12_bestSwap_31 rfl hl (by decide) rfl (fun ls hl => ?_)
  obtain ⟨x10, hr, hf⟩ := bd_go hf
  have Jx10 : ∀ (H : Heap) (locs : List Loc) (ls : Array Slot), xG s E A (wM E ad (0 : Int32) m_trouble m_where m_rv m_tape m_taped m_size m_spot m_sort m_place m_number m_fault m_wrongAt m_word m_v x10.2.1 m_past m_kept m_acts m_images x10.2.2.1 x10.2.2.2.1 x10.2.2.2.2.1 x10.2.2.2.2.2 m_seatBest m_fedBest m_slopsBest m_sawBest m_leastNow m_stableNow m_fitsNow m_someNow m_everyNow m_otherIn m_askLeft tb_seats tb_slack tb_saw tb_quarrel tb_people tb_pairs tb_forks tb_unsures tb_trieds tb_fed tb_seat tb_one tb_other tb_years tb_kind tb_unsure tb_may tb_tried tb_name) H locs → lv_has ls 6 [(0, .ref (ad 0)), (2, .int x10.1)] → W p l e (xR 6 132) s m args below meth c H locs 0 0 (MQ below (xqI E A (wM E ad R0.2.1 R0.2.2.1 R0.2.2.2.1 m_rv m_tape m_taped m_size m_spot m_sort m_place m_number m_fault m_wrongAt m_word m_v R0.2.2.2.2.1 m_past m_kept m_acts m_images R0.2.2.2.2.2.1 R0.2.2.2.2.2.2.1 R0.2.2.2.2.2.2.2.1 R0.2.2.2.2.2.2.2.2 m_seatBest m_fedBest m_slopsBest m_sawBest m_leastNow m_stableNow m_fitsNow m_someNow m_everyNow m_otherIn m_askLeft tb_seats tb_slack tb_saw tb_quarrel tb_people tb_pairs tb_forks tb_unsures tb_trieds tb_fed tb_seat tb_one tb_other tb_years tb_kind tb_unsure tb_may tb_tried tb_name) (some .int) R0.1) args s 0 0 A) (F0 m 101 ls []) := by
    intro H locs ls G hl
    refine lv_aload_n hx hb dX12_bestSwap_101 rfl (lv_at hl 0 rfl) ?_
    refine lv_iload_n hx hb dX12_bestSwap_102 rfl (lv_at hl 1 rfl) ?_
    obtain ⟨x11, hc, hf⟩ := bd_go hf
    refine xI_V C G (c_M_good_m_M hc) mX12_good kX12_49 (wM_at0) rfl ⟨Nat.le_of_ble_eq_true rfl, Nat.le_of_ble_eq_true rfl⟩ rfl hl.1 rfl (Nat.le_of_ble_eq_true rfl) ⟨Nat.le_refl _, Nat.le_refl _⟩ dX12_bestSwap_103 (fun hz H locs G => ?_)
    obtain rfl := Option.some.inj hf
    exact xI_ret C G rfl dX12_bestSwap_106
  exact w_M_bestSwap_m_M_L32 C Jx10 fu _ _ _ _ _ _ _ _ _ _ _ G (lv_sub hl [3, 2, 1, 0] rfl) hr
set_option maxHeartbeats 4000000 in
set_option maxRecDepth 100000 in
theorem w_M_isSat_m_M_L2 {p : Program} {l : Launch} {e : Env} {s : State} {m : MethodId} {args : Array Value} {below : List Frame} {meth : Method} {c : Code} {A : Nat → Prop} {E : xE} {ad : Nat → Nat} {m_thrown m_trouble m_where m_taped m_size m_spot m_sort m_place m_number m_fault m_wrongAt m_acts m_images m_matchNow m_slopsNow m_matchesNow m_fedBest m_slopsBest m_sawBest m_leastNow m_stableNow m_fitsNow m_someNow m_everyNow m_askLeft tb_seats tb_slack tb_saw tb_quarrel tb_people tb_pairs tb_forks tb_unsures tb_trieds tb_fed : Int32} {m_rv : Value} {m_tape m_v m_x m_past m_kept m_slopped m_seatBest m_otherIn tb_seat tb_one tb_other tb_years tb_kind tb_unsure tb_may tb_tried : Nat → Int32} {m_word : Int64} {tb_name : Nat → Int64} {l1 : Int32} {o : (Int32) ⊕ (Unit)} {R0 : Int32} (C : xC p s m args meth c cX12_isSat 3 RX12 E A (some .boolean)) (Jr : ∀ r, o = .inl r → r = R0) (J : ∀ t, o = .inr t → ∀ (H : Heap) (locs : List Loc) (ls : Array Slot), xG s E A (wM E ad m_thrown m_trouble m_where m_rv m_tape m_taped m_size m_spot m_sort m_place m_number m_fault m_wrongAt m_word m_v m_x m_past m_kept m_acts m_images m_matchNow m_slopsNow m_matchesNow m_slopped m_seatBest m_fedBest m_slopsBest m_sawBest m_leastNow m_stableNow m_fitsNow m_someNow m_everyNow m_otherIn m_askLeft tb_seats tb_slack tb_saw tb_quarrel tb_people tb_pairs tb_forks tb_unsures tb_trieds tb_fed tb_seat tb_one tb_other tb_years tb_kind tb_unsure tb_may tb_tried tb_name) H locs → lv_has ls 3 [] → W p l e (xR 0 0) s m args below meth c H locs 0 0 (MQ below (xqI E A (wM E ad m_thrown m_trouble m_where m_rv m_tape m_taped m_size m_spot m_sort m_place m_number m_fault m_wrongAt m_word m_v m_x m_past m_kept m_acts m_images m_matchNow m_slopsNow m_matchesNow m_slopped m_seatBest m_fedBest m_slopsBest m_sawBest m_leastNow m_stableNow m_fitsNow m_someNow m_everyNow m_otherIn m_askLeft tb_seats tb_slack tb_saw tb_quarrel tb_people tb_pairs tb_forks tb_unsures tb_trieds tb_fed tb_seat tb_one tb_other tb_years tb_kind tb_unsure tb_may tb_tried tb_name) (some .boolean) R0) args s 0 0 A) (F0 m 31 ls [])) :
    ∀ (n : Nat) (l2 : Int32) (H : Heap) (locs : List Loc) (ls : Array Slot), xG s E A (wM E ad m_thrown m_trouble m_where m_rv m_tape m_taped m_size m_spot m_sort m_place m_number m_fault m_wrongAt m_word m_v m_x m_past m_kept m_acts m_images m_matchNow m_slopsNow m_matchesNow m_slopped m_seatBest m_fedBest m_slopsBest m_sawBest m_leastNow m_stableNow m_fitsNow m_someNow m_everyNow m_otherIn m_askLeft tb_seats tb_slack tb_saw tb_quarrel tb_people tb_pairs tb_forks tb_unsures tb_trieds tb_fed tb_seat tb_one tb_other tb_years tb_kind tb_unsure tb_may tb_tried tb_name) H locs → lv_has ls 3 [(0, .ref (ad 0)), (1, .int l1), (2, .int l2)] → f_M_isSat_L2 l1 m_v tb_people n l2 = some o → W p l e (xR 0 0) s m args below meth c H locs 0 0 (MQ below (xqI E A (wM E ad m_thrown m_trouble m_where m_rv m_tape m_taped m_size m_spot m_sort m_place m_number m_fault m_wrongAt m_word m_v m_x m_past m_kept m_acts m_images m_matchNow m_slopsNow m_matchesNow m_slopped m_seatBest m_fedBest m_slopsBest m_sawBest m_leastNow m_stableNow m_fitsNow m_someNow m_everyNow m_otherIn m_askLeft tb_seats tb_slack tb_saw tb_quarrel tb_people tb_pairs tb_forks tb_unsures tb_trieds tb_fed tb_seat tb_one tb_other tb_years tb_kind tb_unsure tb_may tb_tried tb_name) (some .boolean) R0) args s 0 0 A) (F0 m 2 ls []) := by
  have hx := C.1
  have hb := C.2.1
  intro n
  induction n with
  | zero =>
    intro l2 H locs ls G hl hf
    exact nomatch (show (none : Option ((Int32) ⊕ (Unit))) = some o from hf)
  | succ n ih =>
    intro l2 H locs ls G hl hf
    rw [f_M_isSat_L2] at hf
    refine lv_iload_n hx hb dX12_isSat_2 rfl (lv_at hl 2 rfl) ?_
    refine lv_aload_n hx hb dX12_isSat_3 rfl (lv_at hl 0 rfl) ?_
    refine x_get C G fX12_298.g (wM_at0) rfl dX12_isSat_4 ?_
    refine x_get C G fX12_177.g (wM_at9) rfl dX12_isSat_7 ?_
    refine lv_icmp_ge (tgt := 31) hx hb dX12_isSat_10 (by decide) (fun h => ?_) (fun h => ?_)
    · have hf := it_t h hf
      exact J _ (Option.some.inj hf).symm _ _ _ G (lv_sub hl [] rfl)
    · have hf := it_f h hf
      refine lv_aload_n hx hb dX12_isSat_13 rfl (lv_at hl 0 rfl) ?_
      refine x_get C G fX12_17 (wM_at0) rfl dX12_isSat_14 ?_
      refine lv_iload_n hx hb dX12_isSat_17 rfl (lv_at hl 2 rfl) ?_
      have hi := ck_in hf
      have hf := ck_go hf
      refine x_iald C G (wM_at2) hi dX12_isSat_18 ?_
      refine lv_iload_n hx hb dX12_isSat_19 rfl (lv_at hl 1 rfl) ?_
      refine lv_icmp_ne (tgt := 25) hx hb dX12_isSat_20 (by decide) (fun h => ?_) (fun h => ?_)
      · have hf := it_f h hf
        obtain ⟨x1, ex1⟩ : ∃ z : Int32, z = l2 + (1 : Int32) := ⟨_, rfl⟩
        have hf := lt_go ex1 hf
        refine lv_iinc (v := x1) (lv' := [(2, .int x1), (0, .ref (ad 0)), (1, .int l1)]) hx hb dX12_isSat_25 hl (k := 2) rfl (by rw [ex1]; rfl) (by decide) rfl (fun ls hl => ?_)
        refine lv_goto (tgt := 2) hx hb dX12_isSat_28 (by decide) ?_
        exact ih x1 _ _ _ G (lv_sub hl [1, 2, 0] rfl) hf
      · have hf := it_t h hf
        refine lv_iconst (v := 1) hx hb dX12_isSat_23 (by decide) ?_
        obtain rfl := Jr _ (Option.some.inj hf).symm
        exact xI_ret (r := (1 : Int32)) C G rfl dX12_isSat_24
set_option maxHeartbeats 4000000 in
set_option maxRecDepth 100000 in
theorem c_M_isSat_m_M {l : Launch} {E : xE} {ad : Nat → Nat} {m_thrown m_trouble m_where m_taped m_size m_spot m_sort m_place m_number m_fault m_wrongAt m_acts m_images m_matchNow m_slopsNow m_matchesNow m_fedBest m_slopsBest m_sawBest m_leastNow m_stableNow m_fitsNow m_someNow m_everyNow m_askLeft tb_seats tb_slack tb_saw tb_quarrel tb_people tb_pairs tb_forks tb_unsures tb_trieds tb_fed : Int32} {m_rv : Value} {m_tape m_v m_x m_past m_kept m_slopped m_seatBest m_otherIn tb_seat tb_one tb_other tb_years tb_kind tb_unsure tb_may tb_tried : Nat → Int32} {m_word : Int64} {tb_name : Nat → Int64} {l1 : Int32} {R0 : Int32} (hf : f_M_isSat l1 m_v tb_people = some R0) : xI l E yX12_isSat cX12_isSat 3 (some .boolean) 0 0 [.ref (ad 0), .int l1] (wM E ad m_thrown m_trouble m_where m_rv m_tape m_taped m_size m_spot m_sort m_place m_number m_fault m_wrongAt m_word m_v m_x m_past m_kept m_acts m_images m_matchNow m_slopsNow m_matchesNow m_slopped m_seatBest m_fedBest m_slopsBest m_sawBest m_leastNow m_stableNow m_fitsNow m_someNow m_everyNow m_otherIn m_askLeft tb_seats tb_slack tb_saw tb_quarrel tb_people tb_pairs tb_forks tb_unsures tb_trieds tb_fed tb_seat tb_one tb_other tb_years tb_kind tb_unsure tb_may tb_tried tb_name) (wM E ad m_thrown m_trouble m_where m_rv m_tape m_taped m_size m_spot m_sort m_place m_number m_fault m_wrongAt m_word m_v m_x m_past m_kept m_acts m_images m_matchNow m_slopsNow m_matchesNow m_slopped m_seatBest m_fedBest m_slopsBest m_sawBest m_leastNow m_stableNow m_fitsNow m_someNow m_everyNow m_otherIn m_askLeft tb_seats tb_slack tb_saw tb_quarrel tb_people tb_pairs tb_forks tb_unsures tb_trieds tb_fed tb_seat tb_one tb_other tb_years tb_kind tb_unsure tb_may tb_tried tb_name) R0 := by
  refine xI_of (by decide) (Nat.le_of_ble_eq_true rfl) (fun p e s m args below meth c A C ls hl G => ?_)
  have hx := C.1
  have hb := C.2.1
  have hl : lv_has ls 3 [(0, .ref (ad 0)), (1, .int l1)] := hl
  unfold f_M_isSat at hf
  refine lv_iconst (v := 0) hx hb dX12_isSat_0 (by decide) ?_
  refine lv_istore_n (lv' := [(2, .int (0 : Int32)), (0, .ref (ad 0)), (1, .int l1)]) hx hb dX12_isSat_1 rfl hl (by decide) rfl (fun ls hl => ?_)
  obtain ⟨ox2, hr, hf⟩ := bd_go hf
  have Jx2 : ∀ x2, ox2 = .inr x2 → ∀ (H : Heap) (locs : List Loc) (ls : Array Slot), xG s E A (wM E ad m_thrown m_trouble m_where m_rv m_tape m_taped m_size m_spot m_sort m_place m_number m_fault m_wrongAt m_word m_v m_x m_past m_kept m_acts m_images m_matchNow m_slopsNow m_matchesNow m_slopped m_seatBest m_fedBest m_slopsBest m_sawBest m_leastNow m_stableNow m_fitsNow m_someNow m_everyNow m_otherIn m_askLeft tb_seats tb_slack tb_saw tb_quarrel tb_people tb_pairs tb_forks tb_unsures tb_trieds tb_fed tb_seat tb_one tb_other tb_years tb_kind tb_unsure tb_may tb_tried tb_name) H locs → lv_has ls 3 [] → W p l e (xR 0 0) s m args below meth c H locs 0 0 (MQ below (xqI E A (wM E ad m_thrown m_trouble m_where m_rv m_tape m_taped m_size m_spot m_sort m_place m_number m_fault m_wrongAt m_word m_v m_x m_past m_kept m_acts m_images m_matchNow m_slopsNow m_matchesNow m_slopped m_seatBest m_fedBest m_slopsBest m_sawBest m_leastNow m_stableNow m_fitsNow m_someNow m_everyNow m_otherIn m_askLeft tb_seats tb_slack tb_saw tb_quarrel tb_people tb_pairs tb_forks tb_unsures tb_trieds tb_fed tb_seat tb_one tb_other tb_years tb_kind tb_unsure tb_may tb_tried tb_name) (some .boolean) R0) args s 0 0 A) (F0 m 31 ls []) := by
    intro x2 hq H locs ls G hl
    subst hq
    have hf := sm_r hf
    refine lv_iconst (v := 0) hx hb dX12_isSat_31 (by decide) ?_
    obtain rfl := Option.some.inj hf
    exact xI_ret (r := (0 : Int32)) C G rfl dX12_isSat_32
  have Jrx2 : ∀ r, ox2 = .inl r → r = R0 := by
    intro r hq
    subst hq
    exact Option.some.inj hf
  exact w_M_isSat_m_M_L2 C Jrx2 Jx2 fu _ _ _ _ G (lv_sub hl [1, 2, 0] rfl) hr
set_option maxHeartbeats 4000000 in
set_option maxRecDepth 100000 in
theorem w_M_better_m_M_L34 {p : Program} {l : Launch} {e : Env} {s : State} {m : MethodId} {args : Array Value} {below : List Frame} {meth : Method} {c : Code} {A : Nat → Prop} {E : xE} {Q : State → Prop} {ad : Nat → Nat} {m_thrown m_trouble m_where m_taped m_size m_spot m_sort m_place m_number m_fault m_wrongAt m_acts m_images m_fedBest m_slopsBest m_sawBest m_leastNow m_stableNow m_fitsNow m_someNow m_everyNow m_askLeft tb_seats tb_slack tb_saw tb_quarrel tb_people tb_pairs tb_forks tb_unsures tb_trieds tb_fed : Int32} {m_rv : Value} {m_tape m_v m_past m_kept m_seatBest m_otherIn tb_seat tb_one tb_other tb_years tb_kind tb_unsure tb_may tb_tried : Nat → Int32} {m_word : Int64} {tb_name : Nat → Int64} {l1 : Int32} {o : Int32 × (Nat → Int32) × Int32 × Int32 × Int32 × (Nat → Int32)} (C : xC p s m args meth c cX12_better 6 RX12 E A (some .int)) (J : ∀ (H : Heap) (locs : List Loc) (ls : Array Slot), xG s E A (wM E ad m_thrown m_trouble m_where m_rv m_tape m_taped m_size m_spot m_sort m_place m_number m_fault m_wrongAt m_word m_v o.2.1 m_past m_kept m_acts m_images o.2.2.1 o.2.2.2.1 o.2.2.2.2.1 o.2.2.2.2.2 m_seatBest m_fedBest m_slopsBest m_sawBest m_leastNow m_stableNow m_fitsNow m_someNow m_everyNow m_otherIn m_askLeft tb_seats tb_slack tb_saw tb_quarrel tb_people tb_pairs tb_forks tb_unsures tb_trieds tb_fed tb_seat tb_one tb_other tb_years tb_kind tb_unsure tb_may tb_tried tb_name) H locs → lv_has ls 6 [(0, .ref (ad 0)), (3, .int o.1)] → W p l e (xR 5 109) s m args below meth c H locs 0 0 Q (F0 m 93 ls [])) :
    ∀ (n : Nat) (l2 : Int32) (l3 : Int32) (l4 : Int32) (m_x : Nat → Int32) (m_matchNow : Int32) (m_slopsNow : Int32) (m_matchesNow : Int32) (m_slopped : Nat → Int32) (H : Heap) (locs : List Loc) (ls : Array Slot), xG s E A (wM E ad m_thrown m_trouble m_where m_rv m_tape m_taped m_size m_spot m_sort m_place m_number m_fault m_wrongAt m_word m_v m_x m_past m_kept m_acts m_images m_matchNow m_slopsNow m_matchesNow m_slopped m_seatBest m_fedBest m_slopsBest m_sawBest m_leastNow m_stableNow m_fitsNow m_someNow m_everyNow m_otherIn m_askLeft tb_seats tb_slack tb_saw tb_quarrel tb_people tb_pairs tb_forks tb_unsures tb_trieds tb_fed tb_seat tb_one tb_other tb_years tb_kind tb_unsure tb_may tb_tried tb_name) H locs → lv_has ls 6 [(0, .ref (ad 0)), (1, .int l1), (2, .int l2), (3, .int l3), (4, .int l4)] → f_M_better_L34 l1 m_v tb_seats tb_slack tb_people n l2 l3 l4 m_x m_matchNow m_slopsNow m_matchesNow m_slopped = some o → W p l e (xR 5 109) s m args below meth c H locs 0 0 Q (F0 m 34 ls []) := by
  have hx := C.1
  have hb := C.2.1
  intro n
  induction n with
  | zero =>
    intro l2 l3 l4 m_x m_matchNow m_slopsNow m_matchesNow m_slopped H locs ls G hl hf
    exact nomatch (show (none : Option (Int32 × (Nat → Int32) × Int32 × Int32 × Int32 × (Nat → Int32))) = some o from hf)
  | succ n ih =>
    intro l2 l3 l4 m_x m_matchNow m_slopsNow m_matchesNow m_slopped H locs ls G hl hf
    rw [f_M_better_L34] at hf
    refine lv_iload hx hb dX12_better_34 (lv_at hl 4 rfl) ?_
    refine lv_aload_n hx hb dX12_better_36 rfl (lv_at hl 0 rfl) ?_
    refine x_get C G fX12_298.g (wM_at0) rfl dX12_better_37 ?_
    refine x_get C G fX12_149.g (wM_at9) rfl dX12_better_40 ?_
    refine lv_icmp_ge (tgt := 93) hx hb dX12_better_43 (by decide) (fun h => ?_) (fun h => ?_)
    · have hf := it_t h hf
      obtain rfl := Option.some.inj hf
      exact J _ _ _ G (lv_sub hl [0, 3] rfl)
    · have hf := it_f h hf
      refine lv_aload_n hx hb dX12_better_46 rfl (lv_at hl 0 rfl) ?_
      refine lv_iload hx hb dX12_better_47 (lv_at hl 4 rfl) ?_
      obtain ⟨x4, hc, hf⟩ := bd_go hf
      refine xI_V C G (c_M_isSat_m_M hc) mX12_isSat kX12_400 (wM_at0) rfl ⟨Nat.le_of_ble_eq_true rfl, Nat.le_of_ble_eq_true rfl⟩ rfl hl.1 rfl (Nat.le_of_ble_eq_true rfl) ⟨Nat.le_refl _, Nat.le_refl _⟩ dX12_better_49 (fun hz4 H locs G => ?_)
      refine lv_if_eq (tgt := 58) hx hb dX12_better_52 (by decide) (fun h => ?_) (fun h => ?_)
      · have hf := it_t h hf
        refine lv_aload_n hx hb dX12_better_58 rfl (lv_at hl 0 rfl) ?_
        refine x_get C G fX12_21 (wM_at0) rfl dX12_better_59 ?_
        refine lv_iload_n hx hb dX12_better_62 rfl (lv_at hl 1 rfl) ?_
        refine lv_iload hx hb dX12_better_63 (lv_at hl 4 rfl) ?_
        have hi := ck_in hf
        have hf := ck_go hf
        refine x_iast (ws' := (wM E ad m_thrown m_trouble m_where m_rv m_tape m_taped m_size m_spot m_sort m_place m_number m_fault m_wrongAt m_word m_v (upd m_x l1.toNatClampNeg l4) m_past m_kept m_acts m_images m_matchNow m_slopsNow m_matchesNow m_slopped m_seatBest m_fedBest m_slopsBest m_sawBest m_leastNow m_stableNow m_fitsNow m_someNow m_everyNow m_otherIn m_askLeft tb_seats tb_slack tb_saw tb_quarrel tb_people tb_pairs tb_forks tb_unsures tb_trieds tb_fed tb_seat tb_one tb_other tb_years tb_kind tb_unsure tb_may tb_tried tb_name)) C G (wM_at3) hi wM_set_m_x dX12_better_65 (fun H locs G => ?_)
        refine lv_aload_n hx hb dX12_better_66 rfl (lv_at hl 0 rfl) ?_
        obtain ⟨x5, hc, hf⟩ := bd_go hf
        refine xI_V C G (c_M_matching_m_M hc) mX12_matching kX12_366 (wM_at0) rfl ⟨Nat.le_of_ble_eq_true rfl, Nat.le_of_ble_eq_true rfl⟩ rfl hl.1 rfl (Nat.le_of_ble_eq_true rfl) ⟨Nat.le_refl _, Nat.le_refl _⟩ dX12_better_67 (fun hz H locs G => ?_)
        refine lv_istore (lv' := [(5, .int x5.1), (0, .ref (ad 0)), (1, .int l1), (2, .int l2), (3, .int l3), (4, .int l4)]) hx hb dX12_better_70 hl (by decide) rfl (fun ls hl => ?_)
        refine lv_iload hx hb dX12_better_72 (lv_at hl 0 rfl) ?_
        refine lv_iload_n hx hb dX12_better_74 rfl (lv_at hl 3 rfl) ?_
        refine lv_icmp_gt (tgt := 81) hx hb dX12_better_75 (by decide) (fun h => ?_) (fun h => ?_)
        · have hf := it_t h hf
          refine lv_iload hx hb dX12_better_81 (lv_at hl 0 rfl) ?_
          refine lv_istore_n (lv' := [(2, .int x5.1), (5, .int x5.1), (0, .ref (ad 0)), (1, .int l1), (3, .int l3), (4, .int l4)]) hx hb dX12_better_83 rfl hl (by decide) rfl (fun ls hl => ?_)
          refine lv_iload hx hb dX12_better_84 (lv_at hl 5 rfl) ?_
          refine lv_istore_n (lv' := [(3, .int l4), (2, .int x5.1), (5, .int x5.1), (0, .ref (ad 0)), (1, .int l1), (4, .int l4)]) hx hb dX12_better_86 rfl hl (by decide) rfl (fun ls hl => ?_)
          obtain ⟨x6, ex6⟩ : ∃ z : Int32, z = l4 + (1 : Int32) := ⟨_, rfl⟩
          have hf := lt_go ex6 hf
          refine lv_iinc (v := x6) (lv' := [(4, .int x6), (3, .int l4), (2, .int x5.1), (5, .int x5.1), (0, .ref (ad 0)), (1, .int l1)]) hx hb dX12_better_87 hl (k := 5) rfl (by rw [ex6]; rfl) (by decide) rfl (fun ls hl => ?_)
          refine lv_goto (tgt := 34) hx hb dX12_better_90 (by decide) ?_
          exact ih x5.1 l4 x6 (upd m_x l1.toNatClampNeg l4) x5.2.1 x5.2.2.1 x5.2.2.2.1 x5.2.2.2.2 _ _ _ G (lv_sub hl [4, 5, 2, 1, 0] rfl) hf
        · have hf := it_f h hf
          refine lv_goto (tgt := 87) hx hb dX12_better_78 (by decide) ?_
          obtain ⟨x7, ex7⟩ : ∃ z : Int32, z = l4 + (1 : Int32) := ⟨_, rfl⟩
          have hf := lt_go ex7 hf
          refine lv_iinc (v := x7) (lv' := [(4, .int x7), (5, .int x5.1), (0, .ref (ad 0)), (1, .int l1), (2, .int l2), (3, .int l3)]) hx hb dX12_better_87 hl (k := 5) rfl (by rw [ex7]; rfl) (by decide) rfl (fun ls hl => ?_)
          refine lv_goto (tgt := 34) hx hb dX12_better_90 (by decide) ?_
          exact ih l2 l3 x7 (upd m_x l1.toNatClampNeg l4) x5.2.1 x5.2.2.1 x5.2.2.2.1 x5.2.2.2.2 _ _ _ G (lv_sub hl [2, 3, 4, 5, 0] rfl) hf
      · have hf := it_f h hf
        refine lv_goto (tgt := 87) hx hb dX12_better_55 (by decide) ?_
        obtain ⟨x8, ex8⟩ : ∃ z : Int32, z = l4 + (1 : Int32) := ⟨_, rfl⟩
        have hf := lt_go ex8 hf
        refine lv_iinc (v := x8) (lv' := [(4, .int x8), (0, .ref (ad 0)), (1, .int l1), (2, .int l2), (3, .int l3)]) hx hb dX12_better_87 hl (k := 4) rfl (by rw [ex8]; rfl) (by decide) rfl (fun ls hl => ?_)
        refine lv_goto (tgt := 34) hx hb dX12_better_90 (by decide) ?_
        exact ih l2 l3 x8 m_x m_matchNow m_slopsNow m_matchesNow m_slopped _ _ _ G (lv_sub hl [1, 2, 3, 4, 0] rfl) hf
set_option maxHeartbeats 4000000 in
set_option maxRecDepth 100000 in
theorem c_M_better_m_M {l : Launch} {E : xE} {ad : Nat → Nat} {m_thrown m_trouble m_where m_taped m_size m_spot m_sort m_place m_number m_fault m_wrongAt m_acts m_images m_matchNow m_slopsNow m_matchesNow m_fedBest m_slopsBest m_sawBest m_leastNow m_stableNow m_fitsNow m_someNow m_everyNow m_askLeft tb_seats tb_slack tb_saw tb_quarrel tb_people tb_pairs tb_forks tb_unsures tb_trieds tb_fed : Int32} {m_rv : Value} {m_tape m_v m_x m_past m_kept m_slopped m_seatBest m_otherIn tb_seat tb_one tb_other tb_years tb_kind tb_unsure tb_may tb_tried : Nat → Int32} {m_word : Int64} {tb_name : Nat → Int64} {l1 : Int32} {R0 : Int32 × Int32 × Int32 × Int32 × (Nat → Int32) × Int32 × Int32 × Int32 × (Nat → Int32)} (hf : f_M_better l1 m_v m_x m_matchNow m_slopsNow m_matchesNow m_slopped tb_seats tb_slack tb_people = some R0) : xI l E yX12_better cX12_better 6 (some .int) 5 109 [.ref (ad 0), .int l1] (wM E ad m_thrown m_trouble m_where m_rv m_tape m_taped m_size m_spot m_sort m_place m_number m_fault m_wrongAt m_word m_v m_x m_past m_kept m_acts m_images m_matchNow m_slopsNow m_matchesNow m_slopped m_seatBest m_fedBest m_slopsBest m_sawBest m_leastNow m_stableNow m_fitsNow m_someNow m_everyNow m_otherIn m_askLeft tb_seats tb_slack tb_saw tb_quarrel tb_people tb_pairs tb_forks tb_unsures tb_trieds tb_fed tb_seat tb_one tb_other tb_years tb_kind tb_unsure tb_may tb_tried tb_name) (wM E ad R0.2.1 R0.2.2.1 R0.2.2.2.1 m_rv m_tape m_taped m_size m_spot m_sort m_place m_number m_fault m_wrongAt m_word m_v R0.2.2.2.2.1 m_past m_kept m_acts m_images R0.2.2.2.2.2.1 R0.2.2.2.2.2.2.1 R0.2.2.2.2.2.2.2.1 R0.2.2.2.2.2.2.2.2 m_seatBest m_fedBest m_slopsBest m_sawBest m_leastNow m_stableNow m_fitsNow m_someNow m_everyNow m_otherIn m_askLeft tb_seats tb_slack tb_saw tb_quarrel tb_people tb_pairs tb_forks tb_unsures tb_trieds tb_fed tb_seat tb_one tb_other tb_years tb_kind tb_unsure tb_may tb_tried tb_name) R0.1 := by
  refine xI_of (by decide) (Nat.le_of_ble_eq_true rfl) (fun p e s m args below meth c A C ls hl G => ?_)
  have hx := C.1
  have hb := C.2.1
  have hl : lv_has ls 6 [(0, .ref (ad 0)), (1, .int l1)] := hl
  unfold f_M_better at hf
  refine lv_aload_n hx hb dX12_better_0 rfl (lv_at hl 0 rfl) ?_
  refine lv_iconst (v := 0) hx hb dX12_better_1 (by decide) ?_
  refine x_put (ws' := (wM E ad (0 : Int32) m_trouble m_where m_rv m_tape m_taped m_size m_spot m_sort m_place m_number m_fault m_wrongAt m_word m_v m_x m_past m_kept m_acts m_images m_matchNow m_slopsNow m_matchesNow m_slopped m_seatBest m_fedBest m_slopsBest m_sawBest m_leastNow m_stableNow m_fitsNow m_someNow m_everyNow m_otherIn m_askLeft tb_seats tb_slack tb_saw tb_quarrel tb_people tb_pairs tb_forks tb_unsures tb_trieds tb_fed tb_seat tb_one tb_other tb_years tb_kind tb_unsure tb_may tb_tried tb_name)) C G fX12_39 (wM_at0) rfl rfl (Nat.le_of_ble_eq_true rfl) wM_set_m_thrown dX12_better_2 (fun H locs G => ?_)
  refine lv_aload_n hx hb dX12_better_5 rfl (lv_at hl 0 rfl) ?_
  refine lv_iload_n hx hb dX12_better_6 rfl (lv_at hl 1 rfl) ?_
  obtain ⟨x1, hc, hf⟩ := bd_go hf
  refine xI_V C G (c_M_isPerson_m_M hc) mX12_isPerson kX12_309 (wM_at0) rfl ⟨Nat.le_of_ble_eq_true rfl, Nat.le_of_ble_eq_true rfl⟩ rfl hl.1 rfl (Nat.le_of_ble_eq_true rfl) ⟨Nat.le_refl _, Nat.le_refl _⟩ dX12_better_7 (fun hz1 H locs G => ?_)
  refine lv_if_ne (tgt := 19) hx hb dX12_better_10 (by decide) (fun h => ?_) (fun h => ?_)
  · have hf := it_f h hf
    refine lv_aload_n hx hb dX12_better_19 rfl (lv_at hl 0 rfl) ?_
    obtain ⟨x2, hc, hf⟩ := bd_go hf
    refine xV_V C G (c_M_works_m_M hc) mX12_works kX12_333 (wM_at0) rfl ⟨Nat.le_of_ble_eq_true rfl, Nat.le_of_ble_eq_true rfl⟩ rfl hl.1 rfl (Nat.le_of_ble_eq_true rfl) ⟨Nat.le_refl _, Nat.le_refl _⟩ dX12_better_20 (fun H locs G => ?_)
    refine lv_aload_n hx hb dX12_better_23 rfl (lv_at hl 0 rfl) ?_
    obtain ⟨x3, hc, hf⟩ := bd_go hf
    refine xI_V C G (c_M_matching_m_M hc) mX12_matching kX12_366 (wM_at0) rfl ⟨Nat.le_of_ble_eq_true rfl, Nat.le_of_ble_eq_true rfl⟩ rfl hl.1 rfl (Nat.le_of_ble_eq_true rfl) ⟨Nat.le_refl _, Nat.le_refl _⟩ dX12_better_24 (fun hz H locs G => ?_)
    refine lv_istore_n (lv' := [(2, .int x3.1), (0, .ref (ad 0)), (1, .int l1)]) hx hb dX12_better_27 rfl hl (by decide) rfl (fun ls hl => ?_)
    refine lv_bipush (v := -2) hx hb dX12_better_28 (by decide) ?_
    refine lv_istore_n (lv' := [(3, .int (-2 : Int32)), (2, .int x3.1), (0, .ref (ad 0)), (1, .int l1)]) hx hb dX12_better_30 rfl hl (by decide) rfl (fun ls hl => ?_)
    refine lv_iconst (v := 0) hx hb dX12_better_31 (by decide) ?_
    refine lv_istore (lv' := [(4, .int (0 : Int32)), (3, .int (-2 : Int32)), (2, .int x3.1), (0, .ref (ad 0)), (1, .int l1)]) hx hb dX12_better_32 hl (by decide) rfl (fun ls hl => ?_)
    obtain ⟨x9, hr, hf⟩ := bd_go hf
    have Jx9 : ∀ (H : Heap) (locs : List Loc) (ls : Array Slot), xG s E A (wM E ad (0 : Int32) m_trouble m_where m_rv m_tape m_taped m_size m_spot m_sort m_place m_number m_fault m_wrongAt m_word m_v x9.2.1 m_past m_kept m_acts m_images x9.2.2.1 x9.2.2.2.1 x9.2.2.2.2.1 x9.2.2.2.2.2 m_seatBest m_fedBest m_slopsBest m_sawBest m_leastNow m_stableNow m_fitsNow m_someNow m_everyNow m_otherIn m_askLeft tb_seats tb_slack tb_saw tb_quarrel tb_people tb_pairs tb_forks tb_unsures tb_trieds tb_fed tb_seat tb_one tb_other tb_years tb_kind tb_unsure tb_may tb_tried tb_name) H locs → lv_has ls 6 [(0, .ref (ad 0)), (3, .int x9.1)] → W p l e (xR 5 109) s m args below meth c H locs 0 0 (MQ below (xqI E A (wM E ad R0.2.1 R0.2.2.1 R0.2.2.2.1 m_rv m_tape m_taped m_size m_spot m_sort m_place m_number m_fault m_wrongAt m_word m_v R0.2.2.2.2.1 m_past m_kept m_acts m_images R0.2.2.2.2.2.1 R0.2.2.2.2.2.2.1 R0.2.2.2.2.2.2.2.1 R0.2.2.2.2.2.2.2.2 m_seatBest m_fedBest m_slopsBest m_sawBest m_leastNow m_stableNow m_fitsNow m_someNow m_everyNow m_otherIn m_askLeft tb_seats tb_slack tb_saw tb_quarrel tb_people tb_pairs tb_forks tb_unsures tb_trieds tb_fed tb_seat tb_one tb_other tb_years tb_kind tb_unsure tb_may tb_tried tb_name) (some .int) R0.1) args s 0 0 A) (F0 m 93 ls []) := by
      intro H locs ls G hl
      refine lv_aload_n hx hb dX12_better_93 rfl (lv_at hl 0 rfl) ?_
      refine lv_iload_n hx hb dX12_better_94 rfl (lv_at hl 1 rfl) ?_
      obtain ⟨x10, hc, hf⟩ := bd_go hf
      refine xI_V C G (c_M_good_m_M hc) mX12_good kX12_49 (wM_at0) rfl ⟨Nat.le_of_ble_eq_true rfl, Nat.le_of_ble_eq_true rfl⟩ rfl hl.1 rfl (Nat.le_of_ble_eq_true rfl) ⟨Nat.le_refl _, Nat.le_refl _⟩ dX12_better_95 (fun hz H locs G => ?_)
      obtain rfl := Option.some.inj hf
      exact xI_ret C G rfl dX12_better_98
    exact w_M_better_m_M_L34 C Jx9 fu _ _ _ _ _ _ _ _ _ _ _ G (lv_sub hl [3, 4, 2, 1, 0] rfl) hr
  · have hf := it_t h hf
    refine lv_aload_n hx hb dX12_better_13 rfl (lv_at hl 0 rfl) ?_
    refine lv_iconst (v := 1) hx hb dX12_better_14 (by decide) ?_
    obtain ⟨x11, hc, hf⟩ := bd_go hf
    refine xI_V C G (c_M_refused_m_M hc) mX12_refused kX12_45 (wM_at0) rfl ⟨Nat.le_of_ble_eq_true rfl, Nat.le_of_ble_eq_true rfl⟩ rfl hl.1 rfl (Nat.le_of_ble_eq_true rfl) ⟨Nat.le_refl _, Nat.le_refl _⟩ dX12_better_15 (fun hz H locs G => ?_)
    obtain rfl := Option.some.inj hf
    exact xI_ret C G rfl dX12_better_18
set_option maxHeartbeats 4000000 in
set_option maxRecDepth 100000 in
theorem w_M_forkAt_m_M_L31 {p : Program} {l : Launch} {e : Env} {s : State} {m : MethodId} {args : Array Value} {below : List Frame} {meth : Method} {c : Code} {A : Nat → Prop} {E : xE} {Q : State → Prop} {ad : Nat → Nat} {m_thrown m_trouble m_where m_taped m_size m_spot m_sort m_place m_number m_fault m_wrongAt m_acts m_images m_fedBest m_slopsBest m_sawBest m_leastNow m_stableNow m_fitsNow m_someNow m_everyNow m_askLeft tb_seats tb_slack tb_saw tb_quarrel tb_people tb_pairs tb_forks tb_unsures tb_trieds tb_fed : Int32} {m_rv : Value} {m_tape m_v m_past m_kept m_seatBest m_otherIn tb_seat tb_one tb_other tb_years tb_kind tb_unsure tb_may tb_tried : Nat → Int32} {m_word : Int64} {tb_name : Nat → Int64} {o : Int32 × (Nat → Int32) × Int32 × Int32 × Int32 × (Nat → Int32)} (C : xC p s m args meth c cX12_forkAt 4 RX12 E A (some .int)) (J : ∀ (H : Heap) (locs : List Loc) (ls : Array Slot), xG s E A (wM E ad m_thrown m_trouble m_where m_rv m_tape m_taped m_size m_spot m_sort m_place m_number m_fault m_wrongAt m_word m_v o.2.1 m_past m_kept m_acts m_images o.2.2.1 o.2.2.2.1 o.2.2.2.2.1 o.2.2.2.2.2 m_seatBest m_fedBest m_slopsBest m_sawBest m_leastNow m_stableNow m_fitsNow m_someNow m_everyNow m_otherIn m_askLeft tb_seats tb_slack tb_saw tb_quarrel tb_people tb_pairs tb_forks tb_unsures tb_trieds tb_fed tb_seat tb_one tb_other tb_years tb_kind tb_unsure tb_may tb_tried tb_name) H locs → lv_has ls 4 [(0, .ref (ad 0)), (2, .int o.1)] → W p l e (xR 5 109) s m args below meth c H locs 0 0 Q (F0 m 106 ls [])) :
    ∀ (n : Nat) (l1 : Int32) (l2 : Int32) (l3 : Int32) (m_x : Nat → Int32) (m_matchNow : Int32) (m_slopsNow : Int32) (m_matchesNow : Int32) (m_slopped : Nat → Int32) (H : Heap) (locs : List Loc) (ls : Array Slot), xG s E A (wM E ad m_thrown m_trouble m_where m_rv m_tape m_taped m_size m_spot m_sort m_place m_number m_fault m_wrongAt m_word m_v m_x m_past m_kept m_acts m_images m_matchNow m_slopsNow m_matchesNow m_slopped m_seatBest m_fedBest m_slopsBest m_sawBest m_leastNow m_stableNow m_fitsNow m_someNow m_everyNow m_otherIn m_askLeft tb_seats tb_slack tb_saw tb_quarrel tb_people tb_pairs tb_forks tb_unsures tb_trieds tb_fed tb_seat tb_one tb_other tb_years tb_kind tb_unsure tb_may tb_tried tb_name) H locs → lv_has ls 4 [(0, .ref (ad 0)), (1, .int l1), (2, .int l2), (3, .int l3)] → f_M_forkAt_L31 m_v tb_seats tb_slack n l1 l2 l3 m_x m_matchNow m_slopsNow m_matchesNow m_slopped = some o → W p l e (xR 5 109) s m args below meth c H locs 0 0 Q (F0 m 31 ls []) := by
  have hx := C.1
  have hb := C.2.1
  intro n
  induction n with
  | zero =>
    intro l1 l2 l3 m_x m_matchNow m_slopsNow m_matchesNow m_slopped H locs ls G hl hf
    exact nomatch (show (none : Option (Int32 × (Nat → Int32) × Int32 × Int32 × Int32 × (Nat → Int32))) = some o from hf)
  | succ n ih =>
    intro l1 l2 l3 m_x m_matchNow m_slopsNow m_matchesNow m_slopped H locs ls G hl hf
    rw [f_M_forkAt_L31] at hf
    refine lv_iload_n hx hb dX12_forkAt_31 rfl (lv_at hl 3 rfl) ?_
    refine lv_aload_n hx hb dX12_forkAt_32 rfl (lv_at hl 0 rfl) ?_
    refine x_get C G fX12_298.g (wM_at0) rfl dX12_forkAt_33 ?_
    refine x_get C G fX12_149.g (wM_at9) rfl dX12_forkAt_36 ?_
    refine lv_icmp_ge (tgt := 106) hx hb dX12_forkAt_39 (by decide) (fun h => ?_) (fun h => ?_)
    · have hf := it_t h hf
      obtain rfl := Option.some.inj hf
      exact J _ _ _ G (lv_sub hl [0, 2] rfl)
    · have hf := it_f h hf
      refine lv_aload_n hx hb dX12_forkAt_42 rfl (lv_at hl 0 rfl) ?_
      refine x_get C G fX12_17 (wM_at0) rfl dX12_forkAt_43 ?_
      refine lv_bipush (v := 56) hx hb dX12_forkAt_46 (by decide) ?_
      have hi := ck_in hf
      have hf := ck_go hf
      refine x_iald C G (wM_at2) hi dX12_forkAt_48 ?_
      refine lv_iload_n hx hb dX12_forkAt_49 rfl (lv_at hl 3 rfl) ?_
      obtain ⟨x2, hc, hf⟩ := bd_go hf
      refine xI_S C G (c_M_bit_any hc) mX12_bit kX12_237 ⟨Nat.le_of_ble_eq_true rfl, Nat.le_of_ble_eq_true rfl⟩ rfl hl.1 rfl (Nat.le_of_ble_eq_true rfl) ⟨Nat.le_refl _, Nat.le_refl _⟩ dX12_forkAt_50 (fun hz2 H locs G => ?_)
      refine lv_if_eq (tgt := 59) hx hb dX12_forkAt_53 (by decide) (fun h => ?_) (fun h => ?_)
      · have hf := it_t h hf
        refine lv_aload_n hx hb dX12_forkAt_59 rfl (lv_at hl 0 rfl) ?_
        refine x_get C G fX12_21 (wM_at0) rfl dX12_forkAt_60 ?_
        refine lv_bipush (v := 56) hx hb dX12_forkAt_63 (by decide) ?_
        refine lv_aload_n hx hb dX12_forkAt_65 rfl (lv_at hl 0 rfl) ?_
        refine x_get C G fX12_17 (wM_at0) rfl dX12_forkAt_66 ?_
        refine lv_bipush (v := 56) hx hb dX12_forkAt_69 (by decide) ?_
        have hi := ck_in hf
        have hf := ck_go hf
        refine x_iald C G (wM_at2) hi dX12_forkAt_71 ?_
        refine lv_iconst (v := 1) hx hb dX12_forkAt_72 (by decide) ?_
        refine lv_iload_n hx hb dX12_forkAt_73 rfl (lv_at hl 3 rfl) ?_
        refine lv_ishl hx hb dX12_forkAt_74 ?_
        refine lv_ior hx hb dX12_forkAt_75 ?_
        have hi := ck_in hf
        have hf := ck_go hf
        refine x_iast (ws' := (wM E ad m_thrown m_trouble m_where m_rv m_tape m_taped m_size m_spot m_sort m_place m_number m_fault m_wrongAt m_word m_v (upd m_x (56 : Int32).toNatClampNeg ((m_v (56 : Int32).toNatClampNeg) ||| ((1 : Int32) <<< (l3 &&& 31)))) m_past m_kept m_acts m_images m_matchNow m_slopsNow m_matchesNow m_slopped m_seatBest m_fedBest m_slopsBest m_sawBest m_leastNow m_stableNow m_fitsNow m_someNow m_everyNow m_otherIn m_askLeft tb_seats tb_slack tb_saw tb_quarrel tb_people tb_pairs tb_forks tb_unsures tb_trieds tb_fed tb_seat tb_one tb_other tb_years tb_kind tb_unsure tb_may tb_tried tb_name)) C G (wM_at3) hi wM_set_m_x dX12_forkAt_76 (fun H locs G => ?_)
        refine lv_aload_n hx hb dX12_forkAt_77 rfl (lv_at hl 0 rfl) ?_
        obtain ⟨x3, hc, hf⟩ := bd_go hf
        refine xI_V C G (c_M_matching_m_M hc) mX12_matching kX12_366 (wM_at0) rfl ⟨Nat.le_of_ble_eq_true rfl, Nat.le_of_ble_eq_true rfl⟩ rfl hl.1 rfl (Nat.le_of_ble_eq_true rfl) ⟨Nat.le_refl _, Nat.le_refl _⟩ dX12_forkAt_78 (fun hz H locs G => ?_)
        refine lv_pop hx hb dX12_forkAt_81 rfl ?_
        refine lv_aload_n hx hb dX12_forkAt_82 rfl (lv_at hl 0 rfl) ?_
        refine x_get C G fX12_357.g (wM_at0) rfl dX12_forkAt_83 ?_
        refine lv_iload_n hx hb dX12_forkAt_86 rfl (lv_at hl 1 rfl) ?_
        refine lv_icmp_lt (tgt := 93) hx hb dX12_forkAt_87 (by decide) (fun h => ?_) (fun h => ?_)
        · have hf := it_t h hf
          refine lv_aload_n hx hb dX12_forkAt_93 rfl (lv_at hl 0 rfl) ?_
          refine x_get C G fX12_357.g (wM_at0) rfl dX12_forkAt_94 ?_
          refine lv_istore_n (lv' := [(1, .int x3.2.2.1), (0, .ref (ad 0)), (2, .int l2), (3, .int l3)]) hx hb dX12_forkAt_97 rfl hl (by decide) rfl (fun ls hl => ?_)
          refine lv_iload_n hx hb dX12_forkAt_98 rfl (lv_at hl 3 rfl) ?_
          refine lv_istore_n (lv' := [(2, .int l3), (1, .int x3.2.2.1), (0, .ref (ad 0)), (3, .int l3)]) hx hb dX12_forkAt_99 rfl hl (by decide) rfl (fun ls hl => ?_)
          obtain ⟨x4, ex4⟩ : ∃ z : Int32, z = l3 + (1 : Int32) := ⟨_, rfl⟩
          have hf := lt_go ex4 hf
          refine lv_iinc (v := x4) (lv' := [(3, .int x4), (2, .int l3), (1, .int x3.2.2.1), (0, .ref (ad 0))]) hx hb dX12_forkAt_100 hl (k := 3) rfl (by rw [ex4]; rfl) (by decide) rfl (fun ls hl => ?_)
          refine lv_goto (tgt := 31) hx hb dX12_forkAt_103 (by decide) ?_
          exact ih x3.2.2.1 l3 x4 (upd m_x (56 : Int32).toNatClampNeg ((m_v (56 : Int32).toNatClampNeg) ||| ((1 : Int32) <<< (l3 &&& 31)))) x3.2.1 x3.2.2.1 x3.2.2.2.1 x3.2.2.2.2 _ _ _ G (lv_sub hl [3, 2, 1, 0] rfl) hf
        · have hf := it_f h hf
          refine lv_goto (tgt := 100) hx hb dX12_forkAt_90 (by decide) ?_
          obtain ⟨x5, ex5⟩ : ∃ z : Int32, z = l3 + (1 : Int32) := ⟨_, rfl⟩
          have hf := lt_go ex5 hf
          refine lv_iinc (v := x5) (lv' := [(3, .int x5), (0, .ref (ad 0)), (1, .int l1), (2, .int l2)]) hx hb dX12_forkAt_100 hl (k := 3) rfl (by rw [ex5]; rfl) (by decide) rfl (fun ls hl => ?_)
          refine lv_goto (tgt := 31) hx hb dX12_forkAt_103 (by decide) ?_
          exact ih l1 l2 x5 (upd m_x (56 : Int32).toNatClampNeg ((m_v (56 : Int32).toNatClampNeg) ||| ((1 : Int32) <<< (l3 &&& 31)))) x3.2.1 x3.2.2.1 x3.2.2.2.1 x3.2.2.2.2 _ _ _ G (lv_sub hl [1, 2, 3, 0] rfl) hf
      · have hf := it_f h hf
        refine lv_goto (tgt := 100) hx hb dX12_forkAt_56 (by decide) ?_
        obtain ⟨x6, ex6⟩ : ∃ z : Int32, z = l3 + (1 : Int32) := ⟨_, rfl⟩
        have hf := lt_go ex6 hf
        refine lv_iinc (v := x6) (lv' := [(3, .int x6), (0, .ref (ad 0)), (1, .int l1), (2, .int l2)]) hx hb dX12_forkAt_100 hl (k := 3) rfl (by rw [ex6]; rfl) (by decide) rfl (fun ls hl => ?_)
        refine lv_goto (tgt := 31) hx hb dX12_forkAt_103 (by decide) ?_
        exact ih l1 l2 x6 m_x m_matchNow m_slopsNow m_matchesNow m_slopped _ _ _ G (lv_sub hl [1, 2, 3, 0] rfl) hf
set_option maxHeartbeats 4000000 in
set_option maxRecDepth 100000 in
theorem c_M_forkAt_m_M {l : Launch} {E : xE} {ad : Nat → Nat} {m_thrown m_trouble m_where m_taped m_size m_spot m_sort m_place m_number m_fault m_wrongAt m_acts m_images m_matchNow m_slopsNow m_matchesNow m_fedBest m_slopsBest m_sawBest m_leastNow m_stableNow m_fitsNow m_someNow m_everyNow m_askLeft tb_seats tb_slack tb_saw tb_quarrel tb_people tb_pairs tb_forks tb_unsures tb_trieds tb_fed : Int32} {m_rv : Value} {m_tape m_v m_x m_past m_kept m_slopped m_seatBest m_otherIn tb_seat tb_one tb_other tb_years tb_kind tb_unsure tb_may tb_tried : Nat → Int32} {m_word : Int64} {tb_name : Nat → Int64} {R0 : Int32 × Int32 × Int32 × Int32 × (Nat → Int32) × Int32 × Int32 × Int32 × (Nat → Int32)} (hf : f_M_forkAt m_v m_x m_matchNow m_slopsNow m_matchesNow m_slopped tb_seats tb_slack = some R0) : xI l E yX12_forkAt cX12_forkAt 4 (some .int) 5 109 [.ref (ad 0)] (wM E ad m_thrown m_trouble m_where m_rv m_tape m_taped m_size m_spot m_sort m_place m_number m_fault m_wrongAt m_word m_v m_x m_past m_kept m_acts m_images m_matchNow m_slopsNow m_matchesNow m_slopped m_seatBest m_fedBest m_slopsBest m_sawBest m_leastNow m_stableNow m_fitsNow m_someNow m_everyNow m_otherIn m_askLeft tb_seats tb_slack tb_saw tb_quarrel tb_people tb_pairs tb_forks tb_unsures tb_trieds tb_fed tb_seat tb_one tb_other tb_years tb_kind tb_unsure tb_may tb_tried tb_name) (wM E ad R0.2.1 R0.2.2.1 R0.2.2.2.1 m_rv m_tape m_taped m_size m_spot m_sort m_place m_number m_fault m_wrongAt m_word m_v R0.2.2.2.2.1 m_past m_kept m_acts m_images R0.2.2.2.2.2.1 R0.2.2.2.2.2.2.1 R0.2.2.2.2.2.2.2.1 R0.2.2.2.2.2.2.2.2 m_seatBest m_fedBest m_slopsBest m_sawBest m_leastNow m_stableNow m_fitsNow m_someNow m_everyNow m_otherIn m_askLeft tb_seats tb_slack tb_saw tb_quarrel tb_people tb_pairs tb_forks tb_unsures tb_trieds tb_fed tb_seat tb_one tb_other tb_years tb_kind tb_unsure tb_may tb_tried tb_name) R0.1 := by
  refine xI_of (by decide) (Nat.le_of_ble_eq_true rfl) (fun p e s m args below meth c A C ls hl G => ?_)
  have hx := C.1
  have hb := C.2.1
  have hl : lv_has ls 4 [(0, .ref (ad 0))] := hl
  unfold f_M_forkAt at hf
  refine lv_aload_n hx hb dX12_forkAt_0 rfl (lv_at hl 0 rfl) ?_
  refine lv_iconst (v := 0) hx hb dX12_forkAt_1 (by decide) ?_
  refine x_put (ws' := (wM E ad (0 : Int32) m_trouble m_where m_rv m_tape m_taped m_size m_spot m_sort m_place m_number m_fault m_wrongAt m_word m_v m_x m_past m_kept m_acts m_images m_matchNow m_slopsNow m_matchesNow m_slopped m_seatBest m_fedBest m_slopsBest m_sawBest m_leastNow m_stableNow m_fitsNow m_someNow m_everyNow m_otherIn m_askLeft tb_seats tb_slack tb_saw tb_quarrel tb_people tb_pairs tb_forks tb_unsures tb_trieds tb_fed tb_seat tb_one tb_other tb_years tb_kind tb_unsure tb_may tb_tried tb_name)) C G fX12_39 (wM_at0) rfl rfl (Nat.le_of_ble_eq_true rfl) wM_set_m_thrown dX12_forkAt_2 (fun H locs G => ?_)
  refine lv_aload_n hx hb dX12_forkAt_5 rfl (lv_at hl 0 rfl) ?_
  refine x_get C G fX12_298.g (wM_at0) rfl dX12_forkAt_6 ?_
  refine lv_ifnonnull (tgt := 18) hx hb dX12_forkAt_9 (by decide) ?_
  refine lv_aload_n hx hb dX12_forkAt_18 rfl (lv_at hl 0 rfl) ?_
  obtain ⟨x1, hc, hf⟩ := bd_go hf
  refine xV_V C G (c_M_works_m_M hc) mX12_works kX12_333 (wM_at0) rfl ⟨Nat.le_of_ble_eq_true rfl, Nat.le_of_ble_eq_true rfl⟩ rfl hl.1 rfl (Nat.le_of_ble_eq_true rfl) ⟨Nat.le_refl _, Nat.le_refl _⟩ dX12_forkAt_19 (fun H locs G => ?_)
  refine lv_ldcw hx hb C.2.2.2.1 (C.2.2.2.2.1 _ qX12_388) dX12_forkAt_22 ?_
  refine lv_istore_n (lv' := [(1, .int (99999 : Int32)), (0, .ref (ad 0))]) hx hb dX12_forkAt_25 rfl hl (by decide) rfl (fun ls hl => ?_)
  refine lv_bipush (v := -2) hx hb dX12_forkAt_26 (by decide) ?_
  refine lv_istore_n (lv' := [(2, .int (-2 : Int32)), (1, .int (99999 : Int32)), (0, .ref (ad 0))]) hx hb dX12_forkAt_28 rfl hl (by decide) rfl (fun ls hl => ?_)
  refine lv_iconst (v := 0) hx hb dX12_forkAt_29 (by decide) ?_
  refine lv_istore_n (lv' := [(3, .int (0 : Int32)), (2, .int (-2 : Int32)), (1, .int (99999 : Int32)), (0, .ref (ad 0))]) hx hb dX12_forkAt_30 rfl hl (by decide) rfl (fun ls hl => ?_)
  obtain ⟨x7, hr, hf⟩ := bd_go hf
  have Jx7 : ∀ (H : Heap) (locs : List Loc) (ls : Array Slot), xG s E A (wM E ad (0 : Int32) m_trouble m_where m_rv m_tape m_taped m_size m_spot m_sort m_place m_number m_fault m_wrongAt m_word m_v x7.2.1 m_past m_kept m_acts m_images x7.2.2.1 x7.2.2.2.1 x7.2.2.2.2.1 x7.2.2.2.2.2 m_seatBest m_fedBest m_slopsBest m_sawBest m_leastNow m_stableNow m_fitsNow m_someNow m_everyNow m_otherIn m_askLeft tb_seats tb_slack tb_saw tb_quarrel tb_people tb_pairs tb_forks tb_unsures tb_trieds tb_fed tb_seat tb_one tb_other tb_years tb_kind tb_unsure tb_may tb_tried tb_name) H locs → lv_has ls 4 [(0, .ref (ad 0)), (2, .int x7.1)] → W p l e (xR 5 109) s m args below meth c H locs 0 0 (MQ below (xqI E A (wM E ad R0.2.1 R0.2.2.1 R0.2.2.2.1 m_rv m_tape m_taped m_size m_spot m_sort m_place m_number m_fault m_wrongAt m_word m_v R0.2.2.2.2.1 m_past m_kept m_acts m_images R0.2.2.2.2.2.1 R0.2.2.2.2.2.2.1 R0.2.2.2.2.2.2.2.1 R0.2.2.2.2.2.2.2.2 m_seatBest m_fedBest m_slopsBest m_sawBest m_leastNow m_stableNow m_fitsNow m_someNow m_everyNow m_otherIn m_askLeft tb_seats tb_slack tb_saw tb_quarrel tb_people tb_pairs tb_forks tb_unsures tb_trieds tb_fed tb_seat tb_one tb_other tb_years tb_kind tb_unsure tb_may tb_tried tb_name) (some .int) R0.1) args s 0 0 A) (F0 m 106 ls []) := by
    intro H locs ls G hl
    refine lv_aload_n hx hb dX12_forkAt_106 rfl (lv_at hl 0 rfl) ?_
    refine lv_iload_n hx hb dX12_forkAt_107 rfl (lv_at hl 1 rfl) ?_
    obtain ⟨x8, hc, hf⟩ := bd_go hf
    refine xI_V C G (c_M_good_m_M hc) mX12_good kX12_49 (wM_at0) rfl ⟨Nat.le_of_ble_eq_true rfl, Nat.le_of_ble_eq_true rfl⟩ rfl hl.1 rfl (Nat.le_of_ble_eq_true rfl) ⟨Nat.le_refl _, Nat.le_refl _⟩ dX12_forkAt_108 (fun hz H locs G => ?_)
    obtain rfl := Option.some.inj hf
    exact xI_ret C G rfl dX12_forkAt_111
  exact w_M_forkAt_m_M_L31 C Jx7 fu _ _ _ _ _ _ _ _ _ _ _ G (lv_sub hl [3, 2, 1, 0] rfl) hr
set_option maxHeartbeats 4000000 in
set_option maxRecDepth 100000 in
theorem w_M_inchesOf_m_M_L38 {p : Program} {l : Launch} {e : Env} {s : State} {m : MethodId} {args : Array Value} {below : List Frame} {meth : Method} {c : Code} {A : Nat → Prop} {E : xE} {ad : Nat → Nat} {m_thrown m_trouble m_where m_taped m_size m_spot m_sort m_place m_number m_fault m_wrongAt m_acts m_images m_matchNow m_slopsNow m_matchesNow m_fedBest m_slopsBest m_sawBest m_leastNow m_stableNow m_fitsNow m_someNow m_everyNow m_askLeft tb_seats tb_slack tb_saw tb_quarrel tb_people tb_pairs tb_forks tb_unsures tb_trieds tb_fed : Int32} {m_rv : Value} {m_tape m_v m_x m_past m_kept m_slopped m_seatBest m_otherIn tb_seat tb_one tb_other tb_years tb_kind tb_unsure tb_may tb_tried : Nat → Int32} {m_word : Int64} {tb_name : Nat → Int64} {l1 : Int32} {l2 : Int32} {o : (Int32) ⊕ (Unit)} {R0 : Int32} (C : xC p s m args meth c cX12_inchesOf 4 RX12 E A (some .int)) (Jr : ∀ r, o = .inl r → r = R0) (J : ∀ t, o = .inr t → ∀ (H : Heap) (locs : List Loc) (ls : Array Slot), xG s E A (wM E ad m_thrown m_trouble m_where m_rv m_tape m_taped m_size m_spot m_sort m_place m_number m_fault m_wrongAt m_word m_v m_x m_past m_kept m_acts m_images m_matchNow m_slopsNow m_matchesNow m_slopped m_seatBest m_fedBest m_slopsBest m_sawBest m_leastNow m_stableNow m_fitsNow m_someNow m_everyNow m_otherIn m_askLeft tb_seats tb_slack tb_saw tb_quarrel tb_people tb_pairs tb_forks tb_unsures tb_trieds tb_fed tb_seat tb_one tb_other tb_years tb_kind tb_unsure tb_may tb_tried tb_name) H locs → lv_has ls 4 [] → W p l e (xR 3 66) s m args below meth c H locs 0 0 (MQ below (xqI E A (wM E ad m_thrown m_trouble m_where m_rv m_tape m_taped m_size m_spot m_sort m_place m_number m_fault m_wrongAt m_word m_v m_x m_past m_kept m_acts m_images m_matchNow m_slopsNow m_matchesNow m_slopped m_seatBest m_fedBest m_slopsBest m_sawBest m_leastNow m_stableNow m_fitsNow m_someNow m_everyNow m_otherIn m_askLeft tb_seats tb_slack tb_saw tb_quarrel tb_people tb_pairs tb_forks tb_unsures tb_trieds tb_fed tb_seat tb_one tb_other tb_years tb_kind tb_unsure tb_may tb_tried tb_name) (some .int) R0) args s 0 0 A) (F0 m 62 ls [])) :
    ∀ (n : Nat) (l3 : Int32) (H : Heap) (locs : List Loc) (ls : Array Slot), xG s E A (wM E ad m_thrown m_trouble m_where m_rv m_tape m_taped m_size m_spot m_sort m_place m_number m_fault m_wrongAt m_word m_v m_x m_past m_kept m_acts m_images m_matchNow m_slopsNow m_matchesNow m_slopped m_seatBest m_fedBest m_slopsBest m_sawBest m_leastNow m_stableNow m_fitsNow m_someNow m_everyNow m_otherIn m_askLeft tb_seats tb_slack tb_saw tb_quarrel tb_people tb_pairs tb_forks tb_unsures tb_trieds tb_fed tb_seat tb_one tb_other tb_years tb_kind tb_unsure tb_may tb_tried tb_name) H locs → lv_has ls 4 [(0, .ref (ad 0)), (1, .int l1), (2, .int l2), (3, .int l3)] → f_M_inchesOf_L38 l1 l2 m_x tb_slack n l3 = some o → W p l e (xR 3 66) s m args below meth c H locs 0 0 (MQ below (xqI E A (wM E ad m_thrown m_trouble m_where m_rv m_tape m_taped m_size m_spot m_sort m_place m_number m_fault m_wrongAt m_word m_v m_x m_past m_kept m_acts m_images m_matchNow m_slopsNow m_matchesNow m_slopped m_seatBest m_fedBest m_slopsBest m_sawBest m_leastNow m_stableNow m_fitsNow m_someNow m_everyNow m_otherIn m_askLeft tb_seats tb_slack tb_saw tb_quarrel tb_people tb_pairs tb_forks tb_unsures tb_trieds tb_fed tb_seat tb_one tb_other tb_years tb_kind tb_unsure tb_may tb_tried tb_name) (some .int) R0) args s 0 0 A) (F0 m 38 ls []) := by
  have hx := C.1
  have hb := C.2.1
  intro n
  induction n with
  | zero =>
    intro l3 H locs ls G hl hf
    exact nomatch (show (none : Option ((Int32) ⊕ (Unit))) = some o from hf)
  | succ n ih =>
    intro l3 H locs ls G hl hf
    rw [f_M_inchesOf_L38] at hf
    refine lv_iload_n hx hb dX12_inchesOf_38 rfl (lv_at hl 3 rfl) ?_
    refine lv_iload_n hx hb dX12_inchesOf_39 rfl (lv_at hl 2 rfl) ?_
    refine lv_icmp_gt (tgt := 62) hx hb dX12_inchesOf_40 (by decide) (fun h => ?_) (fun h => ?_)
    · have hf := it_t h hf
      exact J _ (Option.some.inj hf).symm _ _ _ G (lv_sub hl [] rfl)
    · have hf := it_f h hf
      refine lv_aload_n hx hb dX12_inchesOf_43 rfl (lv_at hl 0 rfl) ?_
      refine lv_iload_n hx hb dX12_inchesOf_44 rfl (lv_at hl 1 rfl) ?_
      refine lv_iload_n hx hb dX12_inchesOf_45 rfl (lv_at hl 2 rfl) ?_
      refine lv_iload_n hx hb dX12_inchesOf_46 rfl (lv_at hl 3 rfl) ?_
      refine lv_isub hx hb dX12_inchesOf_47 ?_
      obtain ⟨x2, hc, hf⟩ := bd_go hf
      refine xI_V C G (c_M_feedsBy_m_M hc) mX12_feedsBy kX12_324 (wM_at0) rfl ⟨Nat.le_of_ble_eq_true rfl, Nat.le_of_ble_eq_true rfl⟩ rfl hl.1 rfl (Nat.le_of_ble_eq_true rfl) ⟨Nat.le_refl _, Nat.le_refl _⟩ dX12_inchesOf_48 (fun hz2 H locs G => ?_)
      refine lv_if_eq (tgt := 56) hx hb dX12_inchesOf_51 (by decide) (fun h => ?_) (fun h => ?_)
      · have hf := it_t h hf
        obtain ⟨x3, ex3⟩ : ∃ z : Int32, z = l3 + (1 : Int32) := ⟨_, rfl⟩
        have hf := lt_go ex3 hf
        refine lv_iinc (v := x3) (lv' := [(3, .int x3), (0, .ref (ad 0)), (1, .int l1), (2, .int l2)]) hx hb dX12_inchesOf_56 hl (k := 3) rfl (by rw [ex3]; rfl) (by decide) rfl (fun ls hl => ?_)
        refine lv_goto (tgt := 38) hx hb dX12_inchesOf_59 (by decide) ?_
        exact ih x3 _ _ _ G (lv_sub hl [1, 2, 3, 0] rfl) hf
      · have hf := it_f h hf
        refine lv_iload_n hx hb dX12_inchesOf_54 rfl (lv_at hl 3 rfl) ?_
        obtain rfl := Jr _ (Option.some.inj hf).symm
        exact xI_ret C G rfl dX12_inchesOf_55
set_option maxHeartbeats 4000000 in
set_option maxRecDepth 100000 in
theorem c_M_inchesOf_m_M {l : Launch} {E : xE} {ad : Nat → Nat} {m_thrown m_trouble m_where m_taped m_size m_spot m_sort m_place m_number m_fault m_wrongAt m_acts m_images m_matchNow m_slopsNow m_matchesNow m_fedBest m_slopsBest m_sawBest m_leastNow m_stableNow m_fitsNow m_someNow m_everyNow m_askLeft tb_seats tb_slack tb_saw tb_quarrel tb_people tb_pairs tb_forks tb_unsures tb_trieds tb_fed : Int32} {m_rv : Value} {m_tape m_v m_x m_past m_kept m_slopped m_seatBest m_otherIn tb_seat tb_one tb_other tb_years tb_kind tb_unsure tb_may tb_tried : Nat → Int32} {m_word : Int64} {tb_name : Nat → Int64} {l1 : Int32} {R0 : Int32} (hf : f_M_inchesOf l1 m_x tb_slack = some R0) : xI l E yX12_inchesOf cX12_inchesOf 4 (some .int) 3 66 [.ref (ad 0), .int l1] (wM E ad m_thrown m_trouble m_where m_rv m_tape m_taped m_size m_spot m_sort m_place m_number m_fault m_wrongAt m_word m_v m_x m_past m_kept m_acts m_images m_matchNow m_slopsNow m_matchesNow m_slopped m_seatBest m_fedBest m_slopsBest m_sawBest m_leastNow m_stableNow m_fitsNow m_someNow m_everyNow m_otherIn m_askLeft tb_seats tb_slack tb_saw tb_quarrel tb_people tb_pairs tb_forks tb_unsures tb_trieds tb_fed tb_seat tb_one tb_other tb_years tb_kind tb_unsure tb_may tb_tried tb_name) (wM E ad m_thrown m_trouble m_where m_rv m_tape m_taped m_size m_spot m_sort m_place m_number m_fault m_wrongAt m_word m_v m_x m_past m_kept m_acts m_images m_matchNow m_slopsNow m_matchesNow m_slopped m_seatBest m_fedBest m_slopsBest m_sawBest m_leastNow m_stableNow m_fitsNow m_someNow m_everyNow m_otherIn m_askLeft tb_seats tb_slack tb_saw tb_quarrel tb_people tb_pairs tb_forks tb_unsures tb_trieds tb_fed tb_seat tb_one tb_other tb_years tb_kind tb_unsure tb_may tb_tried tb_name) R0 := by
  refine xI_of (by decide) (Nat.le_of_ble_eq_true rfl) (fun p e s m args below meth c A C ls hl G => ?_)
  have hx := C.1
  have hb := C.2.1
  have hl : lv_has ls 4 [(0, .ref (ad 0)), (1, .int l1)] := hl
  unfold f_M_inchesOf at hf
  refine lv_aload_n hx hb dX12_inchesOf_0 rfl (lv_at hl 0 rfl) ?_
  refine lv_iload_n hx hb dX12_inchesOf_1 rfl (lv_at hl 1 rfl) ?_
  obtain ⟨x1, hc, hf⟩ := bd_go hf
  refine xI_V C G (c_M_handleOf_m_M hc) mX12_handleOf kX12_321 (wM_at0) rfl ⟨Nat.le_of_ble_eq_true rfl, Nat.le_of_ble_eq_true rfl⟩ rfl hl.1 rfl (Nat.le_of_ble_eq_true rfl) ⟨Nat.le_refl _, Nat.le_refl _⟩ dX12_inchesOf_2 (fun hz H locs G => ?_)
  refine lv_istore_n (lv' := [(2, .int x1), (0, .ref (ad 0)), (1, .int l1)]) hx hb dX12_inchesOf_5 rfl hl (by decide) rfl (fun ls hl => ?_)
  refine lv_aload_n hx hb dX12_inchesOf_6 rfl (lv_at hl 1 rfl) ?_
  refine x_get C G fX12_21 (wM_at0) rfl dX12_inchesOf_7 ?_
  refine lv_bipush (v := 45) hx hb dX12_inchesOf_10 (by decide) ?_
  refine lv_iload_n hx hb dX12_inchesOf_12 rfl (lv_at hl 2 rfl) ?_
  refine lv_iadd hx hb dX12_inchesOf_13 ?_
  have hi := ck_in hf
  have hf := ck_go hf
  refine x_iald C G (wM_at3) hi dX12_inchesOf_14 ?_
  refine lv_iconst (v := 2) hx hb dX12_inchesOf_15 (by decide) ?_
  refine lv_icmp_ne (tgt := 36) hx hb dX12_inchesOf_16 (by decide) (fun h => ?_) (fun h => ?_)
  · have hf := it_f h hf
    refine lv_iconst (v := 0) hx hb dX12_inchesOf_36 (by decide) ?_
    refine lv_istore_n (lv' := [(3, .int (0 : Int32)), (2, .int x1), (0, .ref (ad 0)), (1, .int l1)]) hx hb dX12_inchesOf_37 rfl hl (by decide) rfl (fun ls hl => ?_)
    obtain ⟨ox4, hr, hf⟩ := bd_go hf
    have Jx4 : ∀ x4, ox4 = .inr x4 → ∀ (H : Heap) (locs : List Loc) (ls : Array Slot), xG s E A (wM E ad m_thrown m_trouble m_where m_rv m_tape m_taped m_size m_spot m_sort m_place m_number m_fault m_wrongAt m_word m_v m_x m_past m_kept m_acts m_images m_matchNow m_slopsNow m_matchesNow m_slopped m_seatBest m_fedBest m_slopsBest m_sawBest m_leastNow m_stableNow m_fitsNow m_someNow m_everyNow m_otherIn m_askLeft tb_seats tb_slack tb_saw tb_quarrel tb_people tb_pairs tb_forks tb_unsures tb_trieds tb_fed tb_seat tb_one tb_other tb_years tb_kind tb_unsure tb_may tb_tried tb_name) H locs → lv_has ls 4 [] → W p l e (xR 3 66) s m args below meth c H locs 0 0 (MQ below (xqI E A (wM E ad m_thrown m_trouble m_where m_rv m_tape m_taped m_size m_spot m_sort m_place m_number m_fault m_wrongAt m_word m_v m_x m_past m_kept m_acts m_images m_matchNow m_slopsNow m_matchesNow m_slopped m_seatBest m_fedBest m_slopsBest m_sawBest m_leastNow m_stableNow m_fitsNow m_someNow m_everyNow m_otherIn m_askLeft tb_seats tb_slack tb_saw tb_quarrel tb_people tb_pairs tb_forks tb_unsures tb_trieds tb_fed tb_seat tb_one tb_other tb_years tb_kind tb_unsure tb_may tb_tried tb_name) (some .int) R0) args s 0 0 A) (F0 m 62 ls []) := by
      intro x4 hq H locs ls G hl
      subst hq
      have hf := sm_r hf
      refine lv_ldcw hx hb C.2.2.2.1 (C.2.2.2.2.1 _ qX12_388) dX12_inchesOf_62 ?_
      obtain rfl := Option.some.inj hf
      exact xI_ret C G rfl dX12_inchesOf_65
    have Jrx4 : ∀ r, ox4 = .inl r → r = R0 := by
      intro r hq
      subst hq
      exact Option.some.inj hf
    exact w_M_inchesOf_m_M_L38 C Jrx4 Jx4 fu _ _ _ _ G (lv_sub hl [2, 3, 1, 0] rfl) hr
  · have hf := it_t h hf
    refine lv_aload_n hx hb dX12_inchesOf_19 rfl (lv_at hl 1 rfl) ?_
    refine lv_iload_n hx hb dX12_inchesOf_20 rfl (lv_at hl 2 rfl) ?_
    refine lv_iload_n hx hb dX12_inchesOf_21 rfl (lv_at hl 0 rfl) ?_
    obtain ⟨x5, hc, hf⟩ := bd_go hf
    refine xI_V C G (c_M_feedsBy_m_M hc) mX12_feedsBy kX12_324 (wM_at0) rfl ⟨Nat.le_of_ble_eq_true rfl, Nat.le_of_ble_eq_true rfl⟩ rfl hl.1 rfl (Nat.le_of_ble_eq_true rfl) ⟨Nat.le_refl _, Nat.le_refl _⟩ dX12_inchesOf_22 (fun hz5 H locs G => ?_)
    refine lv_if_eq (tgt := 32) hx hb dX12_inchesOf_25 (by decide) (fun h => ?_) (fun h => ?_)
    · have hf := it_t h hf
      refine lv_ldcw hx hb C.2.2.2.1 (C.2.2.2.2.1 _ qX12_388) dX12_inchesOf_32 ?_
      obtain rfl := Option.some.inj hf
      exact xI_ret C G rfl dX12_inchesOf_35
    · have hf := it_f h hf
      refine lv_iconst (v := 0) hx hb dX12_inchesOf_28 (by decide) ?_
      refine lv_goto (tgt := 35) hx hb dX12_inchesOf_29 (by decide) ?_
      obtain rfl := Option.some.inj hf
      exact xI_ret C G rfl dX12_inchesOf_35
set_option maxHeartbeats 4000000 in
set_option maxRecDepth 100000 in
theorem c_M_triesSaw_m_M {l : Launch} {E : xE} {ad : Nat → Nat} {m_thrown m_trouble m_where m_taped m_size m_spot m_sort m_place m_number m_fault m_wrongAt m_acts m_images m_matchNow m_slopsNow m_matchesNow m_fedBest m_slopsBest m_sawBest m_leastNow m_stableNow m_fitsNow m_someNow m_everyNow m_askLeft tb_seats tb_slack tb_saw tb_quarrel tb_people tb_pairs tb_forks tb_unsures tb_trieds tb_fed : Int32} {m_rv : Value} {m_tape m_v m_x m_past m_kept m_slopped m_seatBest m_otherIn tb_seat tb_one tb_other tb_years tb_kind tb_unsure tb_may tb_tried : Nat → Int32} {m_word : Int64} {tb_name : Nat → Int64} {l1 : Int32} {l2 : Int32} {R0 : Int32 × Int32} (hf : f_M_triesSaw l1 l2 m_sawBest m_leastNow = some R0) : xV l E yX12_triesSaw cX12_triesSaw 3 none 0 0 [.ref (ad 0), .int l1, .int l2] (wM E ad m_thrown m_trouble m_where m_rv m_tape m_taped m_size m_spot m_sort m_place m_number m_fault m_wrongAt m_word m_v m_x m_past m_kept m_acts m_images m_matchNow m_slopsNow m_matchesNow m_slopped m_seatBest m_fedBest m_slopsBest m_sawBest m_leastNow m_stableNow m_fitsNow m_someNow m_everyNow m_otherIn m_askLeft tb_seats tb_slack tb_saw tb_quarrel tb_people tb_pairs tb_forks tb_unsures tb_trieds tb_fed tb_seat tb_one tb_other tb_years tb_kind tb_unsure tb_may tb_tried tb_name) (wM E ad m_thrown m_trouble m_where m_rv m_tape m_taped m_size m_spot m_sort m_place m_number m_fault m_wrongAt m_word m_v m_x m_past m_kept m_acts m_images m_matchNow m_slopsNow m_matchesNow m_slopped m_seatBest m_fedBest m_slopsBest R0.1 R0.2 m_stableNow m_fitsNow m_someNow m_everyNow m_otherIn m_askLeft tb_seats tb_slack tb_saw tb_quarrel tb_people tb_pairs tb_forks tb_unsures tb_trieds tb_fed tb_seat tb_one tb_other tb_years tb_kind tb_unsure tb_may tb_tried tb_name) := by
  refine xV_of (by decide) (Nat.le_of_ble_eq_true rfl) (fun p e s m args below meth c A C ls hl G => ?_)
  have hx := C.1
  have hb := C.2.1
  have hl : lv_has ls 3 [(0, .ref (ad 0)), (1, .int l1), (2, .int l2)] := hl
  unfold f_M_triesSaw at hf
  refine lv_iload_n hx hb dX12_triesSaw_0 rfl (lv_at hl 2 rfl) ?_
  refine lv_ldcw hx hb C.2.2.2.1 (C.2.2.2.2.1 _ qX12_388) dX12_triesSaw_1 ?_
  obtain ⟨b1, hr, hf⟩ := bd_go hf
  cases b1 with
  | true =>
    have hf := it_t rfl hf
    have J : ∀ (H : Heap) (locs : List Loc), xG s E A (wM E ad m_thrown m_trouble m_where m_rv m_tape m_taped m_size m_spot m_sort m_place m_number m_fault m_wrongAt m_word m_v m_x m_past m_kept m_acts m_images m_matchNow m_slopsNow m_matchesNow m_slopped m_seatBest m_fedBest m_slopsBest m_sawBest m_leastNow m_stableNow m_fitsNow m_someNow m_everyNow m_otherIn m_askLeft tb_seats tb_slack tb_saw tb_quarrel tb_people tb_pairs tb_forks tb_unsures tb_trieds tb_fed tb_seat tb_one tb_other tb_years tb_kind tb_unsure tb_may tb_tried tb_name) H locs → W p l e (xR 0 0) s m args below meth c H locs 0 0 (MQ below (xqV E A (wM E ad m_thrown m_trouble m_where m_rv m_tape m_taped m_size m_spot m_sort m_place m_number m_fault m_wrongAt m_word m_v m_x m_past m_kept m_acts m_images m_matchNow m_slopsNow m_matchesNow m_slopped m_seatBest m_fedBest m_slopsBest R0.1 R0.2 m_stableNow m_fitsNow m_someNow m_everyNow m_otherIn m_askLeft tb_seats tb_slack tb_saw tb_quarrel tb_people tb_pairs tb_forks tb_unsures tb_trieds tb_fed tb_seat tb_one tb_other tb_years tb_kind tb_unsure tb_may tb_tried tb_name)) args s 0 0 A) (F0 m 40 ls []) := by
      intro H locs G
      obtain rfl := Option.some.inj hf
      exact xV_ret C G dX12_triesSaw_40
    have hf := hr
    clear hr
    refine lv_icmp_ge (tgt := 40) hx hb dX12_triesSaw_4 (by decide) (fun h => ?_) (fun h => ?_)
    · have hf := it_t h hf
      exact J _ _ G
    · have hf := it_f h hf
      refine lv_aload_n hx hb dX12_triesSaw_7 rfl (lv_at hl 0 rfl) ?_
      refine x_get C G fX12_403.g (wM_at0) rfl dX12_triesSaw_8 ?_
      refine lv_bipush (v := -2) hx hb dX12_triesSaw_11 (by decide) ?_
      refine lv_icmp_eq (tgt := 41) hx hb dX12_triesSaw_13 (by decide) (fun h => ?_) (fun h => ?_)
      · have hf := it_t h hf
        exact absurd (Option.some.inj hf) (by decide)
      · have hf := it_f h hf
        refine lv_iload_n hx hb dX12_triesSaw_16 rfl (lv_at hl 2 rfl) ?_
        refine lv_aload_n hx hb dX12_triesSaw_17 rfl (lv_at hl 0 rfl) ?_
        refine x_get C G fX12_406.g (wM_at0) rfl dX12_triesSaw_18 ?_
        refine lv_icmp_gt (tgt := 40) hx hb dX12_triesSaw_21 (by decide) (fun h => ?_) (fun h => ?_)
        · have hf := it_t h hf
          exact J _ _ G
        · have hf := it_f h hf
          refine lv_iload_n hx hb dX12_triesSaw_24 rfl (lv_at hl 2 rfl) ?_
          refine lv_aload_n hx hb dX12_triesSaw_25 rfl (lv_at hl 0 rfl) ?_
          refine x_get C G fX12_406.g (wM_at0) rfl dX12_triesSaw_26 ?_
          refine lv_icmp_ne (tgt := 41) hx hb dX12_triesSaw_29 (by decide) (fun h => ?_) (fun h => ?_)
          · have hf := it_f h hf
            exact absurd (Option.some.inj hf) (by decide)
          · have hf := it_t h hf
            refine lv_iload_n hx hb dX12_triesSaw_32 rfl (lv_at hl 1 rfl) ?_
            refine lv_aload_n hx hb dX12_triesSaw_33 rfl (lv_at hl 0 rfl) ?_
            refine x_get C G fX12_403.g (wM_at0) rfl dX12_triesSaw_34 ?_
            refine lv_icmp_lt (tgt := 41) hx hb dX12_triesSaw_37 (by decide) (fun h => ?_) (fun h => ?_)
            · have hf := it_t h hf
              exact absurd (Option.some.inj hf) (by decide)
            · have hf := it_f h hf
              exact J _ _ G
  | false =>
    have hf := it_f (by decide) hf
    have J : ∀ (H : Heap) (locs : List Loc), xG s E A (wM E ad m_thrown m_trouble m_where m_rv m_tape m_taped m_size m_spot m_sort m_place m_number m_fault m_wrongAt m_word m_v m_x m_past m_kept m_acts m_images m_matchNow m_slopsNow m_matchesNow m_slopped m_seatBest m_fedBest m_slopsBest m_sawBest m_leastNow m_stableNow m_fitsNow m_someNow m_everyNow m_otherIn m_askLeft tb_seats tb_slack tb_saw tb_quarrel tb_people tb_pairs tb_forks tb_unsures tb_trieds tb_fed tb_seat tb_one tb_other tb_years tb_kind tb_unsure tb_may tb_tried tb_name) H locs → W p l e (xR 0 0) s m args below meth c H locs 0 0 (MQ below (xqV E A (wM E ad m_thrown m_trouble m_where m_rv m_tape m_taped m_size m_spot m_sort m_place m_number m_fault m_wrongAt m_word m_v m_x m_past m_kept m_acts m_images m_matchNow m_slopsNow m_matchesNow m_slopped m_seatBest m_fedBest m_slopsBest R0.1 R0.2 m_stableNow m_fitsNow m_someNow m_everyNow m_otherIn m_askLeft tb_seats tb_slack tb_saw tb_quarrel tb_people tb_pairs tb_forks tb_unsures tb_trieds tb_fed tb_seat tb_one tb_other tb_years tb_kind tb_unsure tb_may tb_tried tb_name)) args s 0 0 A) (F0 m 41 ls []) := by
      intro H locs G
      refine lv_aload_n hx hb dX12_triesSaw_41 rfl (lv_at hl 0 rfl) ?_
      refine lv_iload_n hx hb dX12_triesSaw_42 rfl (lv_at hl 1 rfl) ?_
      refine x_put (ws' := (wM E ad m_thrown m_trouble m_where m_rv m_tape m_taped m_size m_spot m_sort m_place m_number m_fault m_wrongAt m_word m_v m_x m_past m_kept m_acts m_images m_matchNow m_slopsNow m_matchesNow m_slopped m_seatBest m_fedBest m_slopsBest l1 m_leastNow m_stableNow m_fitsNow m_someNow m_everyNow m_otherIn m_askLeft tb_seats tb_slack tb_saw tb_quarrel tb_people tb_pairs tb_forks tb_unsures tb_trieds tb_fed tb_seat tb_one tb_other tb_years tb_kind tb_unsure tb_may tb_tried tb_name)) C G fX12_403 (wM_at0) rfl rfl (Nat.le_of_ble_eq_true rfl) wM_set_m_sawBest dX12_triesSaw_43 (fun H locs G => ?_)
      refine lv_aload_n hx hb dX12_triesSaw_46 rfl (lv_at hl 0 rfl) ?_
      refine lv_iload_n hx hb dX12_triesSaw_47 rfl (lv_at hl 2 rfl) ?_
      refine x_put (ws' := (wM E ad m_thrown m_trouble m_where m_rv m_tape m_taped m_size m_spot m_sort m_place m_number m_fault m_wrongAt m_word m_v m_x m_past m_kept m_acts m_images m_matchNow m_slopsNow m_matchesNow m_slopped m_seatBest m_fedBest m_slopsBest l1 l2 m_stableNow m_fitsNow m_someNow m_everyNow m_otherIn m_askLeft tb_seats tb_slack tb_saw tb_quarrel tb_people tb_pairs tb_forks tb_unsures tb_trieds tb_fed tb_seat tb_one tb_other tb_years tb_kind tb_unsure tb_may tb_tried tb_name)) C G fX12_406 (wM_at0) rfl rfl (Nat.le_of_ble_eq_true rfl) wM_set_m_leastNow dX12_triesSaw_48 (fun H locs G => ?_)
      obtain rfl := Option.some.inj hf
      exact xV_ret C G dX12_triesSaw_51
    have hf := hr
    clear hr
    refine lv_icmp_ge (tgt := 40) hx hb dX12_triesSaw_4 (by decide) (fun h => ?_) (fun h => ?_)
    · have hf := it_t h hf
      exact absurd (Option.some.inj hf) (by decide)
    · have hf := it_f h hf
      refine lv_aload_n hx hb dX12_triesSaw_7 rfl (lv_at hl 0 rfl) ?_
      refine x_get C G fX12_403.g (wM_at0) rfl dX12_triesSaw_8 ?_
      refine lv_bipush (v := -2) hx hb dX12_triesSaw_11 (by decide) ?_
      refine lv_icmp_eq (tgt := 41) hx hb dX12_triesSaw_13 (by decide) (fun h => ?_) (fun h => ?_)
      · have hf := it_t h hf
        exact J _ _ G
      · have hf := it_f h hf
        refine lv_iload_n hx hb dX12_triesSaw_16 rfl (lv_at hl 2 rfl) ?_
        refine lv_aload_n hx hb dX12_triesSaw_17 rfl (lv_at hl 0 rfl) ?_
        refine x_get C G fX12_406.g (wM_at0) rfl dX12_triesSaw_18 ?_
        refine lv_icmp_gt (tgt := 40) hx hb dX12_triesSaw_21 (by decide) (fun h => ?_) (fun h => ?_)
        · have hf := it_t h hf
          exact absurd (Option.some.inj hf) (by decide)
        · have hf := it_f h hf
          refine lv_iload_n hx hb dX12_triesSaw_24 rfl (lv_at hl 2 rfl) ?_
          refine lv_aload_n hx hb dX12_triesSaw_25 rfl (lv_at hl 0 rfl) ?_
          refine x_get C G fX12_406.g (wM_at0) rfl dX12_triesSaw_26 ?_
          refine lv_icmp_ne (tgt := 41) hx hb dX12_triesSaw_29 (by decide) (fun h => ?_) (fun h => ?_)
          · have hf := it_f h hf
            exact J _ _ G
          · have hf := it_t h hf
            refine lv_iload_n hx hb dX12_triesSaw_32 rfl (lv_at hl 1 rfl) ?_
            refine lv_aload_n hx hb dX12_triesSaw_33 rfl (lv_at hl 0 rfl) ?_
            refine x_get C G fX12_403.g (wM_at0) rfl dX12_triesSaw_34 ?_
            refine lv_icmp_lt (tgt := 41) hx hb dX12_triesSaw_37 (by decide) (fun h => ?_) (fun h => ?_)
            · have hf := it_t h hf
              exact J _ _ G
            · have hf := it_f h hf
              exact absurd (Option.some.inj hf) (by decide)
set_option maxHeartbeats 4000000 in
set_option maxRecDepth 100000 in
theorem w_M_sawing_m_M_L67 {p : Program} {l : Launch} {e : Env} {s : State} {m : MethodId} {args : Array Value} {below : List Frame} {meth : Method} {c : Code} {A : Nat → Prop} {E : xE} {Q : State → Prop} {ad : Nat → Nat} {m_thrown m_trouble m_where m_taped m_size m_spot m_sort m_place m_number m_fault m_wrongAt m_acts m_images m_matchNow m_slopsNow m_matchesNow m_fedBest m_slopsBest m_stableNow m_fitsNow m_someNow m_everyNow m_askLeft tb_seats tb_slack tb_saw tb_quarrel tb_people tb_pairs tb_forks tb_unsures tb_trieds tb_fed : Int32} {m_rv : Value} {m_tape m_v m_x m_past m_kept m_slopped m_seatBest m_otherIn tb_seat tb_one tb_other tb_years tb_kind tb_unsure tb_may tb_tried : Nat → Int32} {m_word : Int64} {tb_name : Nat → Int64} {l1 : Int32} {l2 : Int32} {o : Int32 × Int32} (C : xC p s m args meth c cX12_sawing 4 RX12 E A (some .int)) (J : ∀ (H : Heap) (locs : List Loc) (ls : Array Slot), xG s E A (wM E ad m_thrown m_trouble m_where m_rv m_tape m_taped m_size m_spot m_sort m_place m_number m_fault m_wrongAt m_word m_v m_x m_past m_kept m_acts m_images m_matchNow m_slopsNow m_matchesNow m_slopped m_seatBest m_fedBest m_slopsBest o.1 o.2 m_stableNow m_fitsNow m_someNow m_everyNow m_otherIn m_askLeft tb_seats tb_slack tb_saw tb_quarrel tb_people tb_pairs tb_forks tb_unsures tb_trieds tb_fed tb_seat tb_one tb_other tb_years tb_kind tb_unsure tb_may tb_tried tb_name) H locs → lv_has ls 4 [(0, .ref (ad 0)), (1, .int l1), (2, .int l2)] → W p l e (xR 4 89) s m args below meth c H locs 0 0 Q (F0 m 120 ls [])) :
    ∀ (n : Nat) (l3 : Int32) (m_sawBest : Int32) (m_leastNow : Int32) (H : Heap) (locs : List Loc) (ls : Array Slot), xG s E A (wM E ad m_thrown m_trouble m_where m_rv m_tape m_taped m_size m_spot m_sort m_place m_number m_fault m_wrongAt m_word m_v m_x m_past m_kept m_acts m_images m_matchNow m_slopsNow m_matchesNow m_slopped m_seatBest m_fedBest m_slopsBest m_sawBest m_leastNow m_stableNow m_fitsNow m_someNow m_everyNow m_otherIn m_askLeft tb_seats tb_slack tb_saw tb_quarrel tb_people tb_pairs tb_forks tb_unsures tb_trieds tb_fed tb_seat tb_one tb_other tb_years tb_kind tb_unsure tb_may tb_tried tb_name) H locs → lv_has ls 4 [(0, .ref (ad 0)), (1, .int l1), (2, .int l2), (3, .int l3)] → f_M_sawing_L67 l1 l2 m_x tb_slack n l3 m_sawBest m_leastNow = some o → W p l e (xR 4 89) s m args below meth c H locs 0 0 Q (F0 m 67 ls []) := by
  have hx := C.1
  have hb := C.2.1
  intro n
  induction n with
  | zero =>
    intro l3 m_sawBest m_leastNow H locs ls G hl hf
    exact nomatch (show (none : Option (Int32 × Int32)) = some o from hf)
  | succ n ih =>
    intro l3 m_sawBest m_leastNow H locs ls G hl hf
    rw [f_M_sawing_L67] at hf
    refine lv_iload_n hx hb dX12_sawing_67 rfl (lv_at hl 3 rfl) ?_
    refine lv_aload_n hx hb dX12_sawing_68 rfl (lv_at hl 0 rfl) ?_
    refine x_get C G fX12_21 (wM_at0) rfl dX12_sawing_69 ?_
    refine lv_bipush (v := 55) hx hb dX12_sawing_72 (by decide) ?_
    have hi := ck_in hf
    have hf := ck_go hf
    refine x_iald C G (wM_at3) hi dX12_sawing_74 ?_
    refine lv_icmp_ge (tgt := 120) hx hb dX12_sawing_75 (by decide) (fun h => ?_) (fun h => ?_)
    · have hf := it_t h hf
      obtain rfl := Option.some.inj hf
      exact J _ _ _ G (lv_sub hl [0, 1, 2] rfl)
    · have hf := it_f h hf
      refine lv_iload_n hx hb dX12_sawing_78 rfl (lv_at hl 1 rfl) ?_
      refine lv_iconst (v := 2) hx hb dX12_sawing_79 (by decide) ?_
      obtain ⟨b6, hr, hf⟩ := bd_go hf
      cases b6 with
      | true =>
        have hf := it_t rfl hf
        have J : ∀ (H : Heap) (locs : List Loc), xG s E A (wM E ad m_thrown m_trouble m_where m_rv m_tape m_taped m_size m_spot m_sort m_place m_number m_fault m_wrongAt m_word m_v m_x m_past m_kept m_acts m_images m_matchNow m_slopsNow m_matchesNow m_slopped m_seatBest m_fedBest m_slopsBest m_sawBest m_leastNow m_stableNow m_fitsNow m_someNow m_everyNow m_otherIn m_askLeft tb_seats tb_slack tb_saw tb_quarrel tb_people tb_pairs tb_forks tb_unsures tb_trieds tb_fed tb_seat tb_one tb_other tb_years tb_kind tb_unsure tb_may tb_tried tb_name) H locs → W p l e (xR 4 89) s m args below meth c H locs 0 0 Q (F0 m 114 ls []) := by
          intro H locs G
          obtain ⟨x7, ex7⟩ : ∃ z : Int32, z = l3 + (1 : Int32) := ⟨_, rfl⟩
          have hf := lt_go ex7 hf
          refine lv_iinc (v := x7) (lv' := [(3, .int x7), (0, .ref (ad 0)), (1, .int l1), (2, .int l2)]) hx hb dX12_sawing_114 hl (k := 3) rfl (by rw [ex7]; rfl) (by decide) rfl (fun ls hl => ?_)
          refine lv_goto (tgt := 67) hx hb dX12_sawing_117 (by decide) ?_
          exact ih x7 m_sawBest m_leastNow _ _ _ G (lv_sub hl [1, 2, 3, 0] rfl) hf
        have hf := hr
        clear hr
        refine lv_icmp_ne (tgt := 114) hx hb dX12_sawing_80 (by decide) (fun h => ?_) (fun h => ?_)
        · have hf := it_f h hf
          exact J _ _ G
        · have hf := it_t h hf
          refine lv_aload_n hx hb dX12_sawing_83 rfl (lv_at hl 0 rfl) ?_
          refine lv_iload_n hx hb dX12_sawing_84 rfl (lv_at hl 2 rfl) ?_
          refine lv_iload_n hx hb dX12_sawing_85 rfl (lv_at hl 3 rfl) ?_
          obtain ⟨x8, hc, hf⟩ := bd_go hf
          refine xI_V C G (c_M_share_m_M hc) mX12_share kX12_363 (wM_at0) rfl ⟨Nat.le_of_ble_eq_true rfl, Nat.le_of_ble_eq_true rfl⟩ rfl hl.1 rfl (Nat.le_of_ble_eq_true rfl) ⟨Nat.le_refl _, Nat.le_refl _⟩ dX12_sawing_86 (fun hz8 H locs G => ?_)
          refine lv_if_ne (tgt := 114) hx hb dX12_sawing_89 (by decide) (fun h => ?_) (fun h => ?_)
          · have hf := it_f h hf
            exact J _ _ G
          · have hf := it_t h hf
            exact absurd (Option.some.inj hf) (by decide)
      | false =>
        have hf := it_f (by decide) hf
        have J : ∀ (H : Heap) (locs : List Loc), xG s E A (wM E ad m_thrown m_trouble m_where m_rv m_tape m_taped m_size m_spot m_sort m_place m_number m_fault m_wrongAt m_word m_v m_x m_past m_kept m_acts m_images m_matchNow m_slopsNow m_matchesNow m_slopped m_seatBest m_fedBest m_slopsBest m_sawBest m_leastNow m_stableNow m_fitsNow m_someNow m_everyNow m_otherIn m_askLeft tb_seats tb_slack tb_saw tb_quarrel tb_people tb_pairs tb_forks tb_unsures tb_trieds tb_fed tb_seat tb_one tb_other tb_years tb_kind tb_unsure tb_may tb_tried tb_name) H locs → W p l e (xR 4 89) s m args below meth c H locs 0 0 Q (F0 m 92 ls []) := by
          intro H locs G
          refine lv_aload_n hx hb dX12_sawing_92 rfl (lv_at hl 0 rfl) ?_
          refine lv_iconst (v := 1) hx hb dX12_sawing_93 (by decide) ?_
          refine lv_iload_n hx hb dX12_sawing_94 rfl (lv_at hl 2 rfl) ?_
          refine lv_ishl hx hb dX12_sawing_95 ?_
          refine lv_iconst (v := 1) hx hb dX12_sawing_96 (by decide) ?_
          refine lv_iload_n hx hb dX12_sawing_97 rfl (lv_at hl 3 rfl) ?_
          refine lv_ishl hx hb dX12_sawing_98 ?_
          refine lv_ior hx hb dX12_sawing_99 ?_
          refine lv_aload_n hx hb dX12_sawing_100 rfl (lv_at hl 0 rfl) ?_
          refine lv_iload_n hx hb dX12_sawing_101 rfl (lv_at hl 2 rfl) ?_
          obtain ⟨x9, hc, hf⟩ := bd_go hf
          refine xI_V C G (c_M_inchesOf_m_M hc) mX12_inchesOf kX12_409 (wM_at0) rfl ⟨Nat.le_of_ble_eq_true rfl, Nat.le_of_ble_eq_true rfl⟩ rfl hl.1 rfl (Nat.le_of_ble_eq_true rfl) ⟨Nat.le_refl _, Nat.le_refl _⟩ dX12_sawing_102 (fun hz H locs G => ?_)
          refine lv_aload_n hx hb dX12_sawing_105 rfl (lv_at hl 0 rfl) ?_
          refine lv_iload_n hx hb dX12_sawing_106 rfl (lv_at hl 3 rfl) ?_
          obtain ⟨x10, hc, hf⟩ := bd_go hf
          refine xI_V C G (c_M_inchesOf_m_M hc) mX12_inchesOf kX12_409 (wM_at0) rfl ⟨Nat.le_of_ble_eq_true rfl, Nat.le_of_ble_eq_true rfl⟩ rfl hl.1 rfl (Nat.le_of_ble_eq_true rfl) ⟨Nat.le_refl _, Nat.le_refl _⟩ dX12_sawing_107 (fun hz H locs G => ?_)
          refine lv_iadd hx hb dX12_sawing_110 ?_
          obtain ⟨x11, hc, hf⟩ := bd_go hf
          refine xV_V C G (c_M_triesSaw_m_M hc) mX12_triesSaw kX12_412 (wM_at0) rfl ⟨Nat.le_of_ble_eq_true rfl, Nat.le_of_ble_eq_true rfl⟩ rfl hl.1 rfl (Nat.le_of_ble_eq_true rfl) ⟨Nat.le_refl _, Nat.le_refl _⟩ dX12_sawing_111 (fun H locs G => ?_)
          obtain ⟨x12, ex12⟩ : ∃ z : Int32, z = l3 + (1 : Int32) := ⟨_, rfl⟩
          have hf := lt_go ex12 hf
          refine lv_iinc (v := x12) (lv' := [(3, .int x12), (0, .ref (ad 0)), (1, .int l1), (2, .int l2)]) hx hb dX12_sawing_114 hl (k := 3) rfl (by rw [ex12]; rfl) (by decide) rfl (fun ls hl => ?_)
          refine lv_goto (tgt := 67) hx hb dX12_sawing_117 (by decide) ?_
          exact ih x12 x11.1 x11.2 _ _ _ G (lv_sub hl [1, 2, 3, 0] rfl) hf
        have hf := hr
        clear hr
        refine lv_icmp_ne (tgt := 114) hx hb dX12_sawing_80 (by decide) (fun h => ?_) (fun h => ?_)
        · have hf := it_f h hf
          exact absurd (Option.some.inj hf) (by decide)
        · have hf := it_t h hf
          refine lv_aload_n hx hb dX12_sawing_83 rfl (lv_at hl 0 rfl) ?_
          refine lv_iload_n hx hb dX12_sawing_84 rfl (lv_at hl 2 rfl) ?_
          refine lv_iload_n hx hb dX12_sawing_85 rfl (lv_at hl 3 rfl) ?_
          obtain ⟨x13, hc, hf⟩ := bd_go hf
          refine xI_V C G (c_M_share_m_M hc) mX12_share kX12_363 (wM_at0) rfl ⟨Nat.le_of_ble_eq_true rfl, Nat.le_of_ble_eq_true rfl⟩ rfl hl.1 rfl (Nat.le_of_ble_eq_true rfl) ⟨Nat.le_refl _, Nat.le_refl _⟩ dX12_sawing_86 (fun hz13 H locs G => ?_)
          refine lv_if_ne (tgt := 114) hx hb dX12_sawing_89 (by decide) (fun h => ?_) (fun h => ?_)
          · have hf := it_f h hf
            exact absurd (Option.some.inj hf) (by decide)
          · have hf := it_t h hf
            exact J _ _ G
set_option maxHeartbeats 4000000 in
set_option maxRecDepth 100000 in
theorem w_M_sawing_m_M_L35 {p : Program} {l : Launch} {e : Env} {s : State} {m : MethodId} {args : Array Value} {below : List Frame} {meth : Method} {c : Code} {A : Nat → Prop} {E : xE} {Q : State → Prop} {ad : Nat → Nat} {m_thrown m_trouble m_where m_taped m_size m_spot m_sort m_place m_number m_fault m_wrongAt m_acts m_images m_matchNow m_slopsNow m_matchesNow m_fedBest m_slopsBest m_stableNow m_fitsNow m_someNow m_everyNow m_askLeft tb_seats tb_slack tb_saw tb_quarrel tb_people tb_pairs tb_forks tb_unsures tb_trieds tb_fed : Int32} {m_rv : Value} {m_tape m_v m_x m_past m_kept m_slopped m_seatBest m_otherIn tb_seat tb_one tb_other tb_years tb_kind tb_unsure tb_may tb_tried : Nat → Int32} {m_word : Int64} {tb_name : Nat → Int64} {l1 : Int32} {o : Int32 × Int32} (C : xC p s m args meth c cX12_sawing 4 RX12 E A (some .int)) (J : ∀ (H : Heap) (locs : List Loc) (ls : Array Slot), xG s E A (wM E ad m_thrown m_trouble m_where m_rv m_tape m_taped m_size m_spot m_sort m_place m_number m_fault m_wrongAt m_word m_v m_x m_past m_kept m_acts m_images m_matchNow m_slopsNow m_matchesNow m_slopped m_seatBest m_fedBest m_slopsBest o.1 o.2 m_stableNow m_fitsNow m_someNow m_everyNow m_otherIn m_askLeft tb_seats tb_slack tb_saw tb_quarrel tb_people tb_pairs tb_forks tb_unsures tb_trieds tb_fed tb_seat tb_one tb_other tb_years tb_kind tb_unsure tb_may tb_tried tb_name) H locs → lv_has ls 4 [(0, .ref (ad 0))] → W p l e (xR 4 89) s m args below meth c H locs 0 0 Q (F0 m 126 ls [])) :
    ∀ (n : Nat) (l2 : Int32) (m_sawBest : Int32) (m_leastNow : Int32) (H : Heap) (locs : List Loc) (ls : Array Slot), xG s E A (wM E ad m_thrown m_trouble m_where m_rv m_tape m_taped m_size m_spot m_sort m_place m_number m_fault m_wrongAt m_word m_v m_x m_past m_kept m_acts m_images m_matchNow m_slopsNow m_matchesNow m_slopped m_seatBest m_fedBest m_slopsBest m_sawBest m_leastNow m_stableNow m_fitsNow m_someNow m_everyNow m_otherIn m_askLeft tb_seats tb_slack tb_saw tb_quarrel tb_people tb_pairs tb_forks tb_unsures tb_trieds tb_fed tb_seat tb_one tb_other tb_years tb_kind tb_unsure tb_may tb_tried tb_name) H locs → lv_has ls 4 [(0, .ref (ad 0)), (1, .int l1), (2, .int l2)] → f_M_sawing_L35 l1 m_x tb_slack n l2 m_sawBest m_leastNow = some o → W p l e (xR 4 89) s m args below meth c H locs 0 0 Q (F0 m 35 ls []) := by
  have hx := C.1
  have hb := C.2.1
  intro n
  induction n with
  | zero =>
    intro l2 m_sawBest m_leastNow H locs ls G hl hf
    exact nomatch (show (none : Option (Int32 × Int32)) = some o from hf)
  | succ n ih =>
    intro l2 m_sawBest m_leastNow H locs ls G hl hf
    rw [f_M_sawing_L35] at hf
    refine lv_iload_n hx hb dX12_sawing_35 rfl (lv_at hl 2 rfl) ?_
    refine lv_aload_n hx hb dX12_sawing_36 rfl (lv_at hl 0 rfl) ?_
    refine x_get C G fX12_21 (wM_at0) rfl dX12_sawing_37 ?_
    refine lv_bipush (v := 55) hx hb dX12_sawing_40 (by decide) ?_
    have hi := ck_in hf
    have hf := ck_go hf
    refine x_iald C G (wM_at3) hi dX12_sawing_42 ?_
    refine lv_icmp_ge (tgt := 126) hx hb dX12_sawing_43 (by decide) (fun h => ?_) (fun h => ?_)
    · have hf := it_t h hf
      obtain rfl := Option.some.inj hf
      exact J _ _ _ G (lv_sub hl [0] rfl)
    · have hf := it_f h hf
      refine lv_iload_n hx hb dX12_sawing_46 rfl (lv_at hl 1 rfl) ?_
      refine lv_iconst (v := 1) hx hb dX12_sawing_47 (by decide) ?_
      obtain ⟨x4, hrx4, hf⟩ := bd_go hf
      have Jx4 : ∀ (H : Heap) (locs : List Loc) (ls : Array Slot), xG s E A (wM E ad m_thrown m_trouble m_where m_rv m_tape m_taped m_size m_spot m_sort m_place m_number m_fault m_wrongAt m_word m_v m_x m_past m_kept m_acts m_images m_matchNow m_slopsNow m_matchesNow m_slopped m_seatBest m_fedBest m_slopsBest x4.1 x4.2 m_stableNow m_fitsNow m_someNow m_everyNow m_otherIn m_askLeft tb_seats tb_slack tb_saw tb_quarrel tb_people tb_pairs tb_forks tb_unsures tb_trieds tb_fed tb_seat tb_one tb_other tb_years tb_kind tb_unsure tb_may tb_tried tb_name) H locs → lv_has ls 4 [(0, .ref (ad 0)), (1, .int l1), (2, .int l2)] → W p l e (xR 4 89) s m args below meth c H locs 0 0 Q (F0 m 63 ls []) := by
        intro H locs ls G hl
        refine lv_iload_n hx hb dX12_sawing_63 rfl (lv_at hl 2 rfl) ?_
        refine lv_iconst (v := 1) hx hb dX12_sawing_64 (by decide) ?_
        refine lv_iadd hx hb dX12_sawing_65 ?_
        refine lv_topi (fun x5 ex5 => ?_)
        have hf := lt_go ex5 hf
        refine lv_istore_n (lv' := [(3, .int x5), (0, .ref (ad 0)), (1, .int l1), (2, .int l2)]) hx hb dX12_sawing_66 rfl hl (by decide) rfl (fun ls hl => ?_)
        obtain ⟨x14, hr, hf⟩ := bd_go hf
        have Jx14 : ∀ (H : Heap) (locs : List Loc) (ls : Array Slot), xG s E A (wM E ad m_thrown m_trouble m_where m_rv m_tape m_taped m_size m_spot m_sort m_place m_number m_fault m_wrongAt m_word m_v m_x m_past m_kept m_acts m_images m_matchNow m_slopsNow m_matchesNow m_slopped m_seatBest m_fedBest m_slopsBest x14.1 x14.2 m_stableNow m_fitsNow m_someNow m_everyNow m_otherIn m_askLeft tb_seats tb_slack tb_saw tb_quarrel tb_people tb_pairs tb_forks tb_unsures tb_trieds tb_fed tb_seat tb_one tb_other tb_years tb_kind tb_unsure tb_may tb_tried tb_name) H locs → lv_has ls 4 [(0, .ref (ad 0)), (1, .int l1), (2, .int l2)] → W p l e (xR 4 89) s m args below meth c H locs 0 0 Q (F0 m 120 ls []) := by
          intro H locs ls G hl
          obtain ⟨x15, ex15⟩ : ∃ z : Int32, z = l2 + (1 : Int32) := ⟨_, rfl⟩
          have hf := lt_go ex15 hf
          refine lv_iinc (v := x15) (lv' := [(2, .int x15), (0, .ref (ad 0)), (1, .int l1)]) hx hb dX12_sawing_120 hl (k := 2) rfl (by rw [ex15]; rfl) (by decide) rfl (fun ls hl => ?_)
          refine lv_goto (tgt := 35) hx hb dX12_sawing_123 (by decide) ?_
          exact ih x15 x14.1 x14.2 _ _ _ G (lv_sub hl [1, 2, 0] rfl) hf
        exact w_M_sawing_m_M_L67 C Jx14 fu _ _ _ _ _ _ G (lv_sub hl [1, 2, 3, 0] rfl) hr
      have hf := hrx4
      refine lv_icmp_ne (tgt := 63) hx hb dX12_sawing_48 (by decide) (fun h => ?_) (fun h => ?_)
      · have hf := it_f h hf
        obtain rfl := Option.some.inj hf
        exact Jx4 _ _ _ G (lv_sub hl [0, 1, 2] rfl)
      · have hf := it_t h hf
        refine lv_aload_n hx hb dX12_sawing_51 rfl (lv_at hl 0 rfl) ?_
        refine lv_iconst (v := 1) hx hb dX12_sawing_52 (by decide) ?_
        refine lv_iload_n hx hb dX12_sawing_53 rfl (lv_at hl 2 rfl) ?_
        refine lv_ishl hx hb dX12_sawing_54 ?_
        refine lv_aload_n hx hb dX12_sawing_55 rfl (lv_at hl 0 rfl) ?_
        refine lv_iload_n hx hb dX12_sawing_56 rfl (lv_at hl 2 rfl) ?_
        obtain ⟨x16, hc, hf⟩ := bd_go hf
        refine xI_V C G (c_M_inchesOf_m_M hc) mX12_inchesOf kX12_409 (wM_at0) rfl ⟨Nat.le_of_ble_eq_true rfl, Nat.le_of_ble_eq_true rfl⟩ rfl hl.1 rfl (Nat.le_of_ble_eq_true rfl) ⟨Nat.le_refl _, Nat.le_refl _⟩ dX12_sawing_57 (fun hz H locs G => ?_)
        obtain ⟨x17, hc, hf⟩ := bd_go hf
        refine xV_V C G (c_M_triesSaw_m_M hc) mX12_triesSaw kX12_412 (wM_at0) rfl ⟨Nat.le_of_ble_eq_true rfl, Nat.le_of_ble_eq_true rfl⟩ rfl hl.1 rfl (Nat.le_of_ble_eq_true rfl) ⟨Nat.le_refl _, Nat.le_refl _⟩ dX12_sawing_60 (fun H locs G => ?_)
        obtain rfl := Option.some.inj hf
        exact Jx4 _ _ _ G (lv_sub hl [0, 1, 2] rfl)
set_option maxHeartbeats 4000000 in
set_option maxRecDepth 100000 in
theorem c_M_sawing_m_M {l : Launch} {E : xE} {ad : Nat → Nat} {m_thrown m_trouble m_where m_taped m_size m_spot m_sort m_place m_number m_fault m_wrongAt m_acts m_images m_matchNow m_slopsNow m_matchesNow m_fedBest m_slopsBest m_sawBest m_leastNow m_stableNow m_fitsNow m_someNow m_everyNow m_askLeft tb_seats tb_slack tb_saw tb_quarrel tb_people tb_pairs tb_forks tb_unsures tb_trieds tb_fed : Int32} {m_rv : Value} {m_tape m_v m_x m_past m_kept m_slopped m_seatBest m_otherIn tb_seat tb_one tb_other tb_years tb_kind tb_unsure tb_may tb_tried : Nat → Int32} {m_word : Int64} {tb_name : Nat → Int64} {R0 : Int32 × (Nat → Int32) × Int32 × Int32} (hf : f_M_sawing m_v m_x tb_slack tb_people = some R0) : xI l E yX12_sawing cX12_sawing 4 (some .int) 4 89 [.ref (ad 0)] (wM E ad m_thrown m_trouble m_where m_rv m_tape m_taped m_size m_spot m_sort m_place m_number m_fault m_wrongAt m_word m_v m_x m_past m_kept m_acts m_images m_matchNow m_slopsNow m_matchesNow m_slopped m_seatBest m_fedBest m_slopsBest m_sawBest m_leastNow m_stableNow m_fitsNow m_someNow m_everyNow m_otherIn m_askLeft tb_seats tb_slack tb_saw tb_quarrel tb_people tb_pairs tb_forks tb_unsures tb_trieds tb_fed tb_seat tb_one tb_other tb_years tb_kind tb_unsure tb_may tb_tried tb_name) (wM E ad m_thrown m_trouble m_where m_rv m_tape m_taped m_size m_spot m_sort m_place m_number m_fault m_wrongAt m_word m_v R0.2.1 m_past m_kept m_acts m_images m_matchNow m_slopsNow m_matchesNow m_slopped m_seatBest m_fedBest m_slopsBest R0.2.2.1 R0.2.2.2 m_stableNow m_fitsNow m_someNow m_everyNow m_otherIn m_askLeft tb_seats tb_slack tb_saw tb_quarrel tb_people tb_pairs tb_forks tb_unsures tb_trieds tb_fed tb_seat tb_one tb_other tb_years tb_kind tb_unsure tb_may tb_tried tb_name) R0.1 := by
  refine xI_of (by decide) (Nat.le_of_ble_eq_true rfl) (fun p e s m args below meth c A C ls hl G => ?_)
  have hx := C.1
  have hb := C.2.1
  have hl : lv_has ls 4 [(0, .ref (ad 0))] := hl
  unfold f_M_sawing at hf
  refine lv_aload_n hx hb dX12_sawing_0 rfl (lv_at hl 0 rfl) ?_
  obtain ⟨x1, hc, hf⟩ := bd_go hf
  refine xV_V C G (c_M_works_m_M hc) mX12_works kX12_333 (wM_at0) rfl ⟨Nat.le_of_ble_eq_true rfl, Nat.le_of_ble_eq_true rfl⟩ rfl hl.1 rfl (Nat.le_of_ble_eq_true rfl) ⟨Nat.le_refl _, Nat.le_refl _⟩ dX12_sawing_1 (fun H locs G => ?_)
  refine lv_aload_n hx hb dX12_sawing_4 rfl (lv_at hl 0 rfl) ?_
  refine x_get C G fX12_298.g (wM_at0) rfl dX12_sawing_5 ?_
  refine x_get C G fX12_177.g (wM_at9) rfl dX12_sawing_8 ?_
  refine lv_iconst (v := 2) hx hb dX12_sawing_11 (by decide) ?_
  refine lv_idiv hx hb dX12_sawing_12 (by decide) ?_
  refine lv_topi (fun x2 ex2 => ?_)
  have hf := lt_go ex2 hf
  refine lv_istore_n (lv' := [(1, .int x2), (0, .ref (ad 0))]) hx hb dX12_sawing_13 rfl hl (by decide) rfl (fun ls hl => ?_)
  refine lv_aload_n hx hb dX12_sawing_14 rfl (lv_at hl 1 rfl) ?_
  refine lv_iload_n hx hb dX12_sawing_15 rfl (lv_at hl 0 rfl) ?_
  obtain ⟨x3, hrx3, hf⟩ := bd_go hf
  have Jx3 : ∀ (H : Heap) (locs : List Loc) (ls : Array Slot), xG s E A (wM E ad m_thrown m_trouble m_where m_rv m_tape m_taped m_size m_spot m_sort m_place m_number m_fault m_wrongAt m_word m_v x1 m_past m_kept m_acts m_images m_matchNow m_slopsNow m_matchesNow m_slopped m_seatBest m_fedBest m_slopsBest m_sawBest m_leastNow m_stableNow m_fitsNow m_someNow m_everyNow m_otherIn m_askLeft tb_seats tb_slack tb_saw tb_quarrel tb_people tb_pairs tb_forks tb_unsures tb_trieds tb_fed tb_seat tb_one tb_other tb_years tb_kind tb_unsure tb_may tb_tried tb_name) H locs → lv_has ls 4 [(0, .ref (ad 0)), (1, .int x2)] → W p l e (xR 4 89) s m args below meth c H locs 0 0 (MQ below (xqI E A (wM E ad m_thrown m_trouble m_where m_rv m_tape m_taped m_size m_spot m_sort m_place m_number m_fault m_wrongAt m_word m_v R0.2.1 m_past m_kept m_acts m_images m_matchNow m_slopsNow m_matchesNow m_slopped m_seatBest m_fedBest m_slopsBest R0.2.2.1 R0.2.2.2 m_stableNow m_fitsNow m_someNow m_everyNow m_otherIn m_askLeft tb_seats tb_slack tb_saw tb_quarrel tb_people tb_pairs tb_forks tb_unsures tb_trieds tb_fed tb_seat tb_one tb_other tb_years tb_kind tb_unsure tb_may tb_tried tb_name) (some .int) R0.1) args s 0 0 A) (F0 m 25 ls [.int x3, .ref (ad 0)]) := by
    intro H locs ls G hl
    refine x_put (ws' := (wM E ad m_thrown m_trouble m_where m_rv m_tape m_taped m_size m_spot m_sort m_place m_number m_fault m_wrongAt m_word m_v x1 m_past m_kept m_acts m_images m_matchNow m_slopsNow m_matchesNow m_slopped m_seatBest m_fedBest m_slopsBest x3 m_leastNow m_stableNow m_fitsNow m_someNow m_everyNow m_otherIn m_askLeft tb_seats tb_slack tb_saw tb_quarrel tb_people tb_pairs tb_forks tb_unsures tb_trieds tb_fed tb_seat tb_one tb_other tb_years tb_kind tb_unsure tb_may tb_tried tb_name)) C G fX12_403 (wM_at0) rfl rfl (Nat.le_of_ble_eq_true rfl) wM_set_m_sawBest dX12_sawing_25 (fun H locs G => ?_)
    refine lv_aload_n hx hb dX12_sawing_28 rfl (lv_at hl 0 rfl) ?_
    refine lv_iconst (v := 0) hx hb dX12_sawing_29 (by decide) ?_
    refine x_put (ws' := (wM E ad m_thrown m_trouble m_where m_rv m_tape m_taped m_size m_spot m_sort m_place m_number m_fault m_wrongAt m_word m_v x1 m_past m_kept m_acts m_images m_matchNow m_slopsNow m_matchesNow m_slopped m_seatBest m_fedBest m_slopsBest x3 (0 : Int32) m_stableNow m_fitsNow m_someNow m_everyNow m_otherIn m_askLeft tb_seats tb_slack tb_saw tb_quarrel tb_people tb_pairs tb_forks tb_unsures tb_trieds tb_fed tb_seat tb_one tb_other tb_years tb_kind tb_unsure tb_may tb_tried tb_name)) C G fX12_406 (wM_at0) rfl rfl (Nat.le_of_ble_eq_true rfl) wM_set_m_leastNow dX12_sawing_30 (fun H locs G => ?_)
    refine lv_iconst (v := 0) hx hb dX12_sawing_33 (by decide) ?_
    refine lv_istore_n (lv' := [(2, .int (0 : Int32)), (0, .ref (ad 0)), (1, .int x2)]) hx hb dX12_sawing_34 rfl hl (by decide) rfl (fun ls hl => ?_)
    obtain ⟨x18, hr, hf⟩ := bd_go hf
    have Jx18 : ∀ (H : Heap) (locs : List Loc) (ls : Array Slot), xG s E A (wM E ad m_thrown m_trouble m_where m_rv m_tape m_taped m_size m_spot m_sort m_place m_number m_fault m_wrongAt m_word m_v x1 m_past m_kept m_acts m_images m_matchNow m_slopsNow m_matchesNow m_slopped m_seatBest m_fedBest m_slopsBest x18.1 x18.2 m_stableNow m_fitsNow m_someNow m_everyNow m_otherIn m_askLeft tb_seats tb_slack tb_saw tb_quarrel tb_people tb_pairs tb_forks tb_unsures tb_trieds tb_fed tb_seat tb_one tb_other tb_years tb_kind tb_unsure tb_may tb_tried tb_name) H locs → lv_has ls 4 [(0, .ref (ad 0))] → W p l e (xR 4 89) s m args below meth c H locs 0 0 (MQ below (xqI E A (wM E ad m_thrown m_trouble m_where m_rv m_tape m_taped m_size m_spot m_sort m_place m_number m_fault m_wrongAt m_word m_v R0.2.1 m_past m_kept m_acts m_images m_matchNow m_slopsNow m_matchesNow m_slopped m_seatBest m_fedBest m_slopsBest R0.2.2.1 R0.2.2.2 m_stableNow m_fitsNow m_someNow m_everyNow m_otherIn m_askLeft tb_seats tb_slack tb_saw tb_quarrel tb_people tb_pairs tb_forks tb_unsures tb_trieds tb_fed tb_seat tb_one tb_other tb_years tb_kind tb_unsure tb_may tb_tried tb_name) (some .int) R0.1) args s 0 0 A) (F0 m 126 ls []) := by
      intro H locs ls G hl
      refine lv_aload_n hx hb dX12_sawing_126 rfl (lv_at hl 0 rfl) ?_
      refine x_get C G fX12_403.g (wM_at0) rfl dX12_sawing_127 ?_
      refine lv_bipush (v := -2) hx hb dX12_sawing_130 (by decide) ?_
      refine lv_icmp_ne (tgt := 140) hx hb dX12_sawing_132 (by decide) (fun h => ?_) (fun h => ?_)
      · have hf := it_f h hf
        refine lv_aload_n hx hb dX12_sawing_140 rfl (lv_at hl 0 rfl) ?_
        refine x_get C G fX12_406.g (wM_at0) rfl dX12_sawing_141 ?_
        obtain rfl := Option.some.inj hf
        exact xI_ret C G rfl dX12_sawing_144
      · have hf := it_t h hf
        refine lv_bipush (v := -2) hx hb dX12_sawing_135 (by decide) ?_
        refine lv_goto (tgt := 144) hx hb dX12_sawing_137 (by decide) ?_
        obtain rfl := Option.some.inj hf
        exact xI_ret C G rfl dX12_sawing_144
    exact w_M_sawing_m_M_L35 C Jx18 fu _ _ _ _ _ _ G (lv_sub hl [1, 2, 0] rfl) hr
  have hf := hrx3
  refine lv_if_ne (tgt := 23) hx hb dX12_sawing_16 (by decide) (fun h => ?_) (fun h => ?_)
  · have hf := it_f h hf
    refine lv_bipush (v := -2) hx hb dX12_sawing_23 (by decide) ?_
    obtain rfl := Option.some.inj hf
    exact Jx3 _ _ _ G (lv_sub hl [1, 0] rfl)
  · have hf := it_t h hf
    refine lv_iconst (v := 0) hx hb dX12_sawing_19 (by decide) ?_
    refine lv_goto (tgt := 25) hx hb dX12_sawing_20 (by decide) ?_
    obtain rfl := Option.some.inj hf
    exact Jx3 _ _ _ G (lv_sub hl [1, 0] rfl)
set_option maxHeartbeats 4000000 in
set_option maxRecDepth 100000 in
theorem c_M_saws_m_M {l : Launch} {E : xE} {ad : Nat → Nat} {m_thrown m_trouble m_where m_taped m_size m_spot m_sort m_place m_number m_fault m_wrongAt m_acts m_images m_matchNow m_slopsNow m_matchesNow m_fedBest m_slopsBest m_sawBest m_leastNow m_stableNow m_fitsNow m_someNow m_everyNow m_askLeft tb_seats tb_slack tb_saw tb_quarrel tb_people tb_pairs tb_forks tb_unsures tb_trieds tb_fed : Int32} {m_rv : Value} {m_tape m_v m_x m_past m_kept m_slopped m_seatBest m_otherIn tb_seat tb_one tb_other tb_years tb_kind tb_unsure tb_may tb_tried : Nat → Int32} {m_word : Int64} {tb_name : Nat → Int64} {R0 : Int32 × Int32 × Int32 × Int32 × (Nat → Int32) × Int32 × Int32} (hf : f_M_saws m_v m_x tb_slack tb_people = some R0) : xI l E yX12_saws cX12_saws 1 (some .int) 5 112 [.ref (ad 0)] (wM E ad m_thrown m_trouble m_where m_rv m_tape m_taped m_size m_spot m_sort m_place m_number m_fault m_wrongAt m_word m_v m_x m_past m_kept m_acts m_images m_matchNow m_slopsNow m_matchesNow m_slopped m_seatBest m_fedBest m_slopsBest m_sawBest m_leastNow m_stableNow m_fitsNow m_someNow m_everyNow m_otherIn m_askLeft tb_seats tb_slack tb_saw tb_quarrel tb_people tb_pairs tb_forks tb_unsures tb_trieds tb_fed tb_seat tb_one tb_other tb_years tb_kind tb_unsure tb_may tb_tried tb_name) (wM E ad R0.2.1 R0.2.2.1 R0.2.2.2.1 m_rv m_tape m_taped m_size m_spot m_sort m_place m_number m_fault m_wrongAt m_word m_v R0.2.2.2.2.1 m_past m_kept m_acts m_images m_matchNow m_slopsNow m_matchesNow m_slopped m_seatBest m_fedBest m_slopsBest R0.2.2.2.2.2.1 R0.2.2.2.2.2.2 m_stableNow m_fitsNow m_someNow m_everyNow m_otherIn m_askLeft tb_seats tb_slack tb_saw tb_quarrel tb_people tb_pairs tb_forks tb_unsures tb_trieds tb_fed tb_seat tb_one tb_other tb_years tb_kind tb_unsure tb_may tb_tried tb_name) R0.1 := by
  refine xI_of (by decide) (Nat.le_of_ble_eq_true rfl) (fun p e s m args below meth c A C ls hl G => ?_)
  have hx := C.1
  have hb := C.2.1
  have hl : lv_has ls 1 [(0, .ref (ad 0))] := hl
  unfold f_M_saws at hf
  refine lv_aload_n hx hb dX12_saws_0 rfl (lv_at hl 0 rfl) ?_
  refine lv_iconst (v := 0) hx hb dX12_saws_1 (by decide) ?_
  refine x_put (ws' := (wM E ad (0 : Int32) m_trouble m_where m_rv m_tape m_taped m_size m_spot m_sort m_place m_number m_fault m_wrongAt m_word m_v m_x m_past m_kept m_acts m_images m_matchNow m_slopsNow m_matchesNow m_slopped m_seatBest m_fedBest m_slopsBest m_sawBest m_leastNow m_stableNow m_fitsNow m_someNow m_everyNow m_otherIn m_askLeft tb_seats tb_slack tb_saw tb_quarrel tb_people tb_pairs tb_forks tb_unsures tb_trieds tb_fed tb_seat tb_one tb_other tb_years tb_kind tb_unsure tb_may tb_tried tb_name)) C G fX12_39 (wM_at0) rfl rfl (Nat.le_of_ble_eq_true rfl) wM_set_m_thrown dX12_saws_2 (fun H locs G => ?_)
  refine lv_aload_n hx hb dX12_saws_5 rfl (lv_at hl 0 rfl) ?_
  refine x_get C G fX12_298.g (wM_at0) rfl dX12_saws_6 ?_
  refine lv_ifnonnull (tgt := 20) hx hb dX12_saws_9 (by decide) ?_
  refine lv_aload_n hx hb dX12_saws_20 rfl (lv_at hl 0 rfl) ?_
  refine lv_aload_n hx hb dX12_saws_21 rfl (lv_at hl 0 rfl) ?_
  obtain ⟨x1, hc, hf⟩ := bd_go hf
  refine xI_V C G (c_M_sawing_m_M hc) mX12_sawing kX12_415 (wM_at0) rfl ⟨Nat.le_of_ble_eq_true rfl, Nat.le_of_ble_eq_true rfl⟩ rfl hl.1 rfl (Nat.le_of_ble_eq_true rfl) ⟨Nat.le_refl _, Nat.le_refl _⟩ dX12_saws_22 (fun hz H locs G => ?_)
  obtain ⟨x2, hc, hf⟩ := bd_go hf
  refine xI_V C G (c_M_good_m_M hc) mX12_good kX12_49 (wM_at0) rfl ⟨Nat.le_of_ble_eq_true rfl, Nat.le_of_ble_eq_true rfl⟩ rfl hl.1 rfl (Nat.le_of_ble_eq_true rfl) ⟨Nat.le_refl _, Nat.le_refl _⟩ dX12_saws_25 (fun hz H locs G => ?_)
  obtain rfl := Option.some.inj hf
  exact xI_ret C G rfl dX12_saws_28
set_option maxHeartbeats 4000000 in
set_option maxRecDepth 100000 in
theorem c_M_sawsOf_m_M {l : Launch} {E : xE} {ad : Nat → Nat} {m_thrown m_trouble m_where m_taped m_size m_spot m_sort m_place m_number m_fault m_wrongAt m_acts m_images m_matchNow m_slopsNow m_matchesNow m_fedBest m_slopsBest m_sawBest m_leastNow m_stableNow m_fitsNow m_someNow m_everyNow m_askLeft tb_seats tb_slack tb_saw tb_quarrel tb_people tb_pairs tb_forks tb_unsures tb_trieds tb_fed : Int32} {m_rv : Value} {m_tape m_v m_x m_past m_kept m_slopped m_seatBest m_otherIn tb_seat tb_one tb_other tb_years tb_kind tb_unsure tb_may tb_tried : Nat → Int32} {m_word : Int64} {tb_name : Nat → Int64} {l1 : Int32} {R0 : Int32 × Int32 × Int32 × Int32 × (Nat → Int32) × Int32 × Int32} (hf : f_M_sawsOf l1 m_v m_x m_sawBest m_leastNow tb_slack tb_people = some R0) : xI l E yX12_sawsOf cX12_sawsOf 2 (some .int) 5 112 [.ref (ad 0), .int l1] (wM E ad m_thrown m_trouble m_where m_rv m_tape m_taped m_size m_spot m_sort m_place m_number m_fault m_wrongAt m_word m_v m_x m_past m_kept m_acts m_images m_matchNow m_slopsNow m_matchesNow m_slopped m_seatBest m_fedBest m_slopsBest m_sawBest m_leastNow m_stableNow m_fitsNow m_someNow m_everyNow m_otherIn m_askLeft tb_seats tb_slack tb_saw tb_quarrel tb_people tb_pairs tb_forks tb_unsures tb_trieds tb_fed tb_seat tb_one tb_other tb_years tb_kind tb_unsure tb_may tb_tried tb_name) (wM E ad R0.2.1 R0.2.2.1 R0.2.2.2.1 m_rv m_tape m_taped m_size m_spot m_sort m_place m_number m_fault m_wrongAt m_word m_v R0.2.2.2.2.1 m_past m_kept m_acts m_images m_matchNow m_slopsNow m_matchesNow m_slopped m_seatBest m_fedBest m_slopsBest R0.2.2.2.2.2.1 R0.2.2.2.2.2.2 m_stableNow m_fitsNow m_someNow m_everyNow m_otherIn m_askLeft tb_seats tb_slack tb_saw tb_quarrel tb_people tb_pairs tb_forks tb_unsures tb_trieds tb_fed tb_seat tb_one tb_other tb_years tb_kind tb_unsure tb_may tb_tried tb_name) R0.1 := by
  refine xI_of (by decide) (Nat.le_of_ble_eq_true rfl) (fun p e s m args below meth c A C ls hl G => ?_)
  have hx := C.1
  have hb := C.2.1
  have hl : lv_has ls 2 [(0, .ref (ad 0)), (1, .int l1)] := hl
  unfold f_M_sawsOf at hf
  refine lv_aload_n hx hb dX12_sawsOf_0 rfl (lv_at hl 0 rfl) ?_
  refine lv_iconst (v := 0) hx hb dX12_sawsOf_1 (by decide) ?_
  refine x_put (ws' := (wM E ad (0 : Int32) m_trouble m_where m_rv m_tape m_taped m_size m_spot m_sort m_place m_number m_fault m_wrongAt m_word m_v m_x m_past m_kept m_acts m_images m_matchNow m_slopsNow m_matchesNow m_slopped m_seatBest m_fedBest m_slopsBest m_sawBest m_leastNow m_stableNow m_fitsNow m_someNow m_everyNow m_otherIn m_askLeft tb_seats tb_slack tb_saw tb_quarrel tb_people tb_pairs tb_forks tb_unsures tb_trieds tb_fed tb_seat tb_one tb_other tb_years tb_kind tb_unsure tb_may tb_tried tb_name)) C G fX12_39 (wM_at0) rfl rfl (Nat.le_of_ble_eq_true rfl) wM_set_m_thrown dX12_sawsOf_2 (fun H locs G => ?_)
  refine lv_aload_n hx hb dX12_sawsOf_5 rfl (lv_at hl 0 rfl) ?_
  refine lv_iload_n hx hb dX12_sawsOf_6 rfl (lv_at hl 1 rfl) ?_
  obtain ⟨x1, hc, hf⟩ := bd_go hf
  refine xI_V C G (c_M_isPair_m_M hc) mX12_isPair kX12_330 (wM_at0) rfl ⟨Nat.le_of_ble_eq_true rfl, Nat.le_of_ble_eq_true rfl⟩ rfl hl.1 rfl (Nat.le_of_ble_eq_true rfl) ⟨Nat.le_refl _, Nat.le_refl _⟩ dX12_sawsOf_7 (fun hz1 H locs G => ?_)
  refine lv_if_ne (tgt := 19) hx hb dX12_sawsOf_10 (by decide) (fun h => ?_) (fun h => ?_)
  · have hf := it_f h hf
    refine lv_aload_n hx hb dX12_sawsOf_19 rfl (lv_at hl 0 rfl) ?_
    obtain ⟨x2, hc, hf⟩ := bd_go hf
    refine xI_V C G (c_M_sawing_m_M hc) mX12_sawing kX12_415 (wM_at0) rfl ⟨Nat.le_of_ble_eq_true rfl, Nat.le_of_ble_eq_true rfl⟩ rfl hl.1 rfl (Nat.le_of_ble_eq_true rfl) ⟨Nat.le_refl _, Nat.le_refl _⟩ dX12_sawsOf_20 (fun hz H locs G => ?_)
    refine lv_bipush (v := -2) hx hb dX12_sawsOf_23 (by decide) ?_
    refine lv_icmp_ne (tgt := 35) hx hb dX12_sawsOf_25 (by decide) (fun h => ?_) (fun h => ?_)
    · have hf := it_f h hf
      refine lv_aload_n hx hb dX12_sawsOf_35 rfl (lv_at hl 0 rfl) ?_
      refine lv_aload_n hx hb dX12_sawsOf_36 rfl (lv_at hl 0 rfl) ?_
      refine x_get C G fX12_403.g (wM_at0) rfl dX12_sawsOf_37 ?_
      refine lv_iload_n hx hb dX12_sawsOf_40 rfl (lv_at hl 1 rfl) ?_
      obtain ⟨x3, hc, hf⟩ := bd_go hf
      refine xI_S C G (c_M_bit_any hc) mX12_bit kX12_237 ⟨Nat.le_of_ble_eq_true rfl, Nat.le_of_ble_eq_true rfl⟩ rfl hl.1 rfl (Nat.le_of_ble_eq_true rfl) ⟨Nat.le_refl _, Nat.le_refl _⟩ dX12_sawsOf_41 (fun hz3 H locs G => ?_)
      obtain ⟨x4, hrx4, hf⟩ := bd_go hf
      have Jx4 : ∀ (H : Heap) (locs : List Loc) (ls : Array Slot), xG s E A (wM E ad (0 : Int32) m_trouble m_where m_rv m_tape m_taped m_size m_spot m_sort m_place m_number m_fault m_wrongAt m_word m_v x2.2.1 m_past m_kept m_acts m_images m_matchNow m_slopsNow m_matchesNow m_slopped m_seatBest m_fedBest m_slopsBest x2.2.2.1 x2.2.2.2 m_stableNow m_fitsNow m_someNow m_everyNow m_otherIn m_askLeft tb_seats tb_slack tb_saw tb_quarrel tb_people tb_pairs tb_forks tb_unsures tb_trieds tb_fed tb_seat tb_one tb_other tb_years tb_kind tb_unsure tb_may tb_tried tb_name) H locs → lv_has ls 2 [] → W p l e (xR 5 112) s m args below meth c H locs 0 0 (MQ below (xqI E A (wM E ad R0.2.1 R0.2.2.1 R0.2.2.2.1 m_rv m_tape m_taped m_size m_spot m_sort m_place m_number m_fault m_wrongAt m_word m_v R0.2.2.2.2.1 m_past m_kept m_acts m_images m_matchNow m_slopsNow m_matchesNow m_slopped m_seatBest m_fedBest m_slopsBest R0.2.2.2.2.2.1 R0.2.2.2.2.2.2 m_stableNow m_fitsNow m_someNow m_everyNow m_otherIn m_askLeft tb_seats tb_slack tb_saw tb_quarrel tb_people tb_pairs tb_forks tb_unsures tb_trieds tb_fed tb_seat tb_one tb_other tb_years tb_kind tb_unsure tb_may tb_tried tb_name) (some .int) R0.1) args s 0 0 A) (F0 m 56 ls [.int x4, .ref (ad 0)]) := by
        intro H locs ls G hl
        obtain ⟨x5, hc, hf⟩ := bd_go hf
        refine xI_V C G (c_M_good_m_M hc) mX12_good kX12_49 (wM_at0) rfl ⟨Nat.le_of_ble_eq_true rfl, Nat.le_of_ble_eq_true rfl⟩ rfl hl.1 rfl (Nat.le_of_ble_eq_true rfl) ⟨Nat.le_refl _, Nat.le_refl _⟩ dX12_sawsOf_56 (fun hz H locs G => ?_)
        obtain rfl := Option.some.inj hf
        exact xI_ret C G rfl dX12_sawsOf_59
      have hf := hrx4
      refine lv_if_eq (tgt := 55) hx hb dX12_sawsOf_44 (by decide) (fun h => ?_) (fun h => ?_)
      · have hf := it_t h hf
        refine lv_iconst (v := 0) hx hb dX12_sawsOf_55 (by decide) ?_
        obtain rfl := Option.some.inj hf
        exact Jx4 _ _ _ G (lv_sub hl [] rfl)
      · have hf := it_f h hf
        refine lv_aload_n hx hb dX12_sawsOf_47 rfl (lv_at hl 0 rfl) ?_
        refine lv_iload_n hx hb dX12_sawsOf_48 rfl (lv_at hl 1 rfl) ?_
        obtain ⟨x6, hc, hf⟩ := bd_go hf
        refine xI_V C G (c_M_inchesOf_m_M hc) mX12_inchesOf kX12_409 (wM_at0) rfl ⟨Nat.le_of_ble_eq_true rfl, Nat.le_of_ble_eq_true rfl⟩ rfl hl.1 rfl (Nat.le_of_ble_eq_true rfl) ⟨Nat.le_refl _, Nat.le_refl _⟩ dX12_sawsOf_49 (fun hz H locs G => ?_)
        refine lv_goto (tgt := 56) hx hb dX12_sawsOf_52 (by decide) ?_
        obtain rfl := Option.some.inj hf
        exact Jx4 _ _ _ G (lv_sub hl [] rfl)
    · have hf := it_t h hf
      refine lv_aload_n hx hb dX12_sawsOf_28 rfl (lv_at hl 0 rfl) ?_
      refine lv_bipush (v := -2) hx hb dX12_sawsOf_29 (by decide) ?_
      obtain ⟨x7, hc, hf⟩ := bd_go hf
      refine xI_V C G (c_M_good_m_M hc) mX12_good kX12_49 (wM_at0) rfl ⟨Nat.le_of_ble_eq_true rfl, Nat.le_of_ble_eq_true rfl⟩ rfl hl.1 rfl (Nat.le_of_ble_eq_true rfl) ⟨Nat.le_refl _, Nat.le_refl _⟩ dX12_sawsOf_31 (fun hz H locs G => ?_)
      obtain rfl := Option.some.inj hf
      exact xI_ret C G rfl dX12_sawsOf_34
  · have hf := it_t h hf
    refine lv_aload_n hx hb dX12_sawsOf_13 rfl (lv_at hl 0 rfl) ?_
    refine lv_iconst (v := 1) hx hb dX12_sawsOf_14 (by decide) ?_
    obtain ⟨x8, hc, hf⟩ := bd_go hf
    refine xI_V C G (c_M_refused_m_M hc) mX12_refused kX12_45 (wM_at0) rfl ⟨Nat.le_of_ble_eq_true rfl, Nat.le_of_ble_eq_true rfl⟩ rfl hl.1 rfl (Nat.le_of_ble_eq_true rfl) ⟨Nat.le_refl _, Nat.le_refl _⟩ dX12_sawsOf_15 (fun hz H locs G => ?_)
    obtain rfl := Option.some.inj hf
    exact xI_ret C G rfl dX12_sawsOf_18
set_option maxHeartbeats 4000000 in
set_option maxRecDepth 100000 in
theorem w_M_bitOf_m_M_L23 {p : Program} {l : Launch} {e : Env} {s : State} {m : MethodId} {args : Array Value} {below : List Frame} {meth : Method} {c : Code} {A : Nat → Prop} {E : xE} {Q : State → Prop} {ad : Nat → Nat} {m_thrown m_trouble m_where m_taped m_size m_spot m_sort m_place m_number m_fault m_wrongAt m_acts m_images m_matchNow m_slopsNow m_matchesNow m_fedBest m_slopsBest m_sawBest m_leastNow m_stableNow m_fitsNow m_someNow m_everyNow m_askLeft tb_seats tb_slack tb_saw tb_quarrel tb_people tb_pairs tb_forks tb_unsures tb_trieds tb_fed : Int32} {m_rv : Value} {m_tape m_v m_x m_past m_kept m_slopped m_seatBest m_otherIn tb_seat tb_one tb_other tb_years tb_kind tb_unsure tb_may tb_tried : Nat → Int32} {m_word : Int64} {tb_name : Nat → Int64} {l1 : Int32} {l2 : Int32} {l4 : Int32} {o : Int32} (C : xC p s m args meth c cX12_bitOf 6 RX12 E A (some .int)) (J : ∀ (H : Heap) (locs : List Loc) (ls : Array Slot), xG s E A (wM E ad m_thrown m_trouble m_where m_rv m_tape m_taped m_size m_spot m_sort m_place m_number m_fault m_wrongAt m_word m_v m_x m_past m_kept m_acts m_images m_matchNow m_slopsNow m_matchesNow m_slopped m_seatBest m_fedBest m_slopsBest m_sawBest m_leastNow m_stableNow m_fitsNow m_someNow m_everyNow m_otherIn m_askLeft tb_seats tb_slack tb_saw tb_quarrel tb_people tb_pairs tb_forks tb_unsures tb_trieds tb_fed tb_seat tb_one tb_other tb_years tb_kind tb_unsure tb_may tb_tried tb_name) H locs → lv_has ls 6 [(0, .ref (ad 0)), (1, .int l1), (2, .int l2), (3, .int o), (4, .int l4)] → W p l e (xR 0 0) s m args below meth c H locs 0 0 Q (F0 m 67 ls [])) :
    ∀ (n : Nat) (l3 : Int32) (l5 : Int32) (H : Heap) (locs : List Loc) (ls : Array Slot), xG s E A (wM E ad m_thrown m_trouble m_where m_rv m_tape m_taped m_size m_spot m_sort m_place m_number m_fault m_wrongAt m_word m_v m_x m_past m_kept m_acts m_images m_matchNow m_slopsNow m_matchesNow m_slopped m_seatBest m_fedBest m_slopsBest m_sawBest m_leastNow m_stableNow m_fitsNow m_someNow m_everyNow m_otherIn m_askLeft tb_seats tb_slack tb_saw tb_quarrel tb_people tb_pairs tb_forks tb_unsures tb_trieds tb_fed tb_seat tb_one tb_other tb_years tb_kind tb_unsure tb_may tb_tried tb_name) H locs → lv_has ls 6 [(0, .ref (ad 0)), (1, .int l1), (2, .int l2), (3, .int l3), (4, .int l4), (5, .int l5)] → f_M_bitOf_L23 l1 l2 l4 tb_people n l3 l5 = some o → W p l e (xR 0 0) s m args below meth c H locs 0 0 Q (F0 m 23 ls []) := by
  have hx := C.1
  have hb := C.2.1
  intro n
  induction n with
  | zero =>
    intro l3 l5 H locs ls G hl hf
    exact nomatch (show (none : Option (Int32)) = some o from hf)
  | succ n ih =>
    intro l3 l5 H locs ls G hl hf
    rw [f_M_bitOf_L23] at hf
    refine lv_iload hx hb dX12_bitOf_23 (lv_at hl 5 rfl) ?_
    refine lv_aload_n hx hb dX12_bitOf_25 rfl (lv_at hl 0 rfl) ?_
    refine x_get C G fX12_298.g (wM_at0) rfl dX12_bitOf_26 ?_
    refine x_get C G fX12_177.g (wM_at9) rfl dX12_bitOf_29 ?_
    refine lv_icmp_ge (tgt := 67) hx hb dX12_bitOf_32 (by decide) (fun h => ?_) (fun h => ?_)
    · have hf := it_t h hf
      obtain rfl := Option.some.inj hf
      exact J _ _ _ G (lv_sub hl [0, 1, 2, 3, 4] rfl)
    · have hf := it_f h hf
      refine lv_iload_n hx hb dX12_bitOf_35 rfl (lv_at hl 3 rfl) ?_
      refine lv_iload hx hb dX12_bitOf_36 (lv_at hl 4 rfl) ?_
      refine lv_iload_n hx hb dX12_bitOf_38 rfl (lv_at hl 1 rfl) ?_
      obtain ⟨x2, hrx2, hf⟩ := bd_go hf
      have Jx2 : ∀ (H : Heap) (locs : List Loc) (ls : Array Slot), xG s E A (wM E ad m_thrown m_trouble m_where m_rv m_tape m_taped m_size m_spot m_sort m_place m_number m_fault m_wrongAt m_word m_v m_x m_past m_kept m_acts m_images m_matchNow m_slopsNow m_matchesNow m_slopped m_seatBest m_fedBest m_slopsBest m_sawBest m_leastNow m_stableNow m_fitsNow m_someNow m_everyNow m_otherIn m_askLeft tb_seats tb_slack tb_saw tb_quarrel tb_people tb_pairs tb_forks tb_unsures tb_trieds tb_fed tb_seat tb_one tb_other tb_years tb_kind tb_unsure tb_may tb_tried tb_name) H locs → lv_has ls 6 [(0, .ref (ad 0)), (1, .int l1), (2, .int l2), (4, .int l4), (5, .int l5)] → W p l e (xR 0 0) s m args below meth c H locs 0 0 Q (F0 m 59 ls [.int x2, .int l3]) := by
        intro H locs ls G hl
        refine lv_iadd hx hb dX12_bitOf_59 ?_
        refine lv_topi (fun x3 ex3 => ?_)
        have hf := lt_go ex3 hf
        refine lv_istore_n (lv' := [(3, .int x3), (0, .ref (ad 0)), (1, .int l1), (2, .int l2), (4, .int l4), (5, .int l5)]) hx hb dX12_bitOf_60 rfl hl (by decide) rfl (fun ls hl => ?_)
        obtain ⟨x4, ex4⟩ : ∃ z : Int32, z = l5 + (1 : Int32) := ⟨_, rfl⟩
        have hf := lt_go ex4 hf
        refine lv_iinc (v := x4) (lv' := [(5, .int x4), (3, .int x3), (0, .ref (ad 0)), (1, .int l1), (2, .int l2), (4, .int l4)]) hx hb dX12_bitOf_61 hl (k := 5) rfl (by rw [ex4]; rfl) (by decide) rfl (fun ls hl => ?_)
        refine lv_goto (tgt := 23) hx hb dX12_bitOf_64 (by decide) ?_
        exact ih x3 x4 _ _ _ G (lv_sub hl [2, 3, 4, 1, 5, 0] rfl) hf
      have hf := hrx2
      obtain ⟨b5, hr, hf⟩ := bd_go hf
      cases b5 with
      | true =>
        have hf := it_t rfl hf
        have J : ∀ (H : Heap) (locs : List Loc), xG s E A (wM E ad m_thrown m_trouble m_where m_rv m_tape m_taped m_size m_spot m_sort m_place m_number m_fault m_wrongAt m_word m_v m_x m_past m_kept m_acts m_images m_matchNow m_slopsNow m_matchesNow m_slopped m_seatBest m_fedBest m_slopsBest m_sawBest m_leastNow m_stableNow m_fitsNow m_someNow m_everyNow m_otherIn m_askLeft tb_seats tb_slack tb_saw tb_quarrel tb_people tb_pairs tb_forks tb_unsures tb_trieds tb_fed tb_seat tb_one tb_other tb_years tb_kind tb_unsure tb_may tb_tried tb_name) H locs → W p l e (xR 0 0) s m args below meth c H locs 0 0 Q (F0 m 54 ls [.int l3]) := by
          intro H locs G
          refine lv_iconst (v := 1) hx hb dX12_bitOf_54 (by decide) ?_
          refine lv_goto (tgt := 59) hx hb dX12_bitOf_55 (by decide) ?_
          obtain rfl := Option.some.inj hf
          exact Jx2 _ _ _ G (lv_sub hl [0, 1, 2, 4, 5] rfl)
        have hf := hr
        clear hr
        refine lv_icmp_lt (tgt := 54) hx hb dX12_bitOf_39 (by decide) (fun h => ?_) (fun h => ?_)
        · have hf := it_t h hf
          exact J _ _ G
        · have hf := it_f h hf
          refine lv_iload hx hb dX12_bitOf_42 (lv_at hl 4 rfl) ?_
          refine lv_iload_n hx hb dX12_bitOf_44 rfl (lv_at hl 1 rfl) ?_
          refine lv_icmp_ne (tgt := 58) hx hb dX12_bitOf_45 (by decide) (fun h => ?_) (fun h => ?_)
          · have hf := it_f h hf
            exact absurd (Option.some.inj hf) (by decide)
          · have hf := it_t h hf
            refine lv_iload hx hb dX12_bitOf_48 (lv_at hl 5 rfl) ?_
            refine lv_iload_n hx hb dX12_bitOf_50 rfl (lv_at hl 2 rfl) ?_
            refine lv_icmp_ge (tgt := 58) hx hb dX12_bitOf_51 (by decide) (fun h => ?_) (fun h => ?_)
            · have hf := it_t h hf
              exact absurd (Option.some.inj hf) (by decide)
            · have hf := it_f h hf
              exact J _ _ G
      | false =>
        have hf := it_f (by decide) hf
        have J : ∀ (H : Heap) (locs : List Loc), xG s E A (wM E ad m_thrown m_trouble m_where m_rv m_tape m_taped m_size m_spot m_sort m_place m_number m_fault m_wrongAt m_word m_v m_x m_past m_kept m_acts m_images m_matchNow m_slopsNow m_matchesNow m_slopped m_seatBest m_fedBest m_slopsBest m_sawBest m_leastNow m_stableNow m_fitsNow m_someNow m_everyNow m_otherIn m_askLeft tb_seats tb_slack tb_saw tb_quarrel tb_people tb_pairs tb_forks tb_unsures tb_trieds tb_fed tb_seat tb_one tb_other tb_years tb_kind tb_unsure tb_may tb_tried tb_name) H locs → W p l e (xR 0 0) s m args below meth c H locs 0 0 Q (F0 m 58 ls [.int l3]) := by
          intro H locs G
          refine lv_iconst (v := 0) hx hb dX12_bitOf_58 (by decide) ?_
          obtain rfl := Option.some.inj hf
          exact Jx2 _ _ _ G (lv_sub hl [0, 1, 2, 4, 5] rfl)
        have hf := hr
        clear hr
        refine lv_icmp_lt (tgt := 54) hx hb dX12_bitOf_39 (by decide) (fun h => ?_) (fun h => ?_)
        · have hf := it_t h hf
          exact absurd (Option.some.inj hf) (by decide)
        · have hf := it_f h hf
          refine lv_iload hx hb dX12_bitOf_42 (lv_at hl 4 rfl) ?_
          refine lv_iload_n hx hb dX12_bitOf_44 rfl (lv_at hl 1 rfl) ?_
          refine lv_icmp_ne (tgt := 58) hx hb dX12_bitOf_45 (by decide) (fun h => ?_) (fun h => ?_)
          · have hf := it_f h hf
            exact J _ _ G
          · have hf := it_t h hf
            refine lv_iload hx hb dX12_bitOf_48 (lv_at hl 5 rfl) ?_
            refine lv_iload_n hx hb dX12_bitOf_50 rfl (lv_at hl 2 rfl) ?_
            refine lv_icmp_ge (tgt := 58) hx hb dX12_bitOf_51 (by decide) (fun h => ?_) (fun h => ?_)
            · have hf := it_t h hf
              exact J _ _ G
            · have hf := it_f h hf
              exact absurd (Option.some.inj hf) (by decide)
set_option maxHeartbeats 4000000 in
set_option maxRecDepth 100000 in
theorem w_M_bitOf_m_M_L5 {p : Program} {l : Launch} {e : Env} {s : State} {m : MethodId} {args : Array Value} {below : List Frame} {meth : Method} {c : Code} {A : Nat → Prop} {E : xE} {Q : State → Prop} {ad : Nat → Nat} {m_thrown m_trouble m_where m_taped m_size m_spot m_sort m_place m_number m_fault m_wrongAt m_acts m_images m_matchNow m_slopsNow m_matchesNow m_fedBest m_slopsBest m_sawBest m_leastNow m_stableNow m_fitsNow m_someNow m_everyNow m_askLeft tb_seats tb_slack tb_saw tb_quarrel tb_people tb_pairs tb_forks tb_unsures tb_trieds tb_fed : Int32} {m_rv : Value} {m_tape m_v m_x m_past m_kept m_slopped m_seatBest m_otherIn tb_seat tb_one tb_other tb_years tb_kind tb_unsure tb_may tb_tried : Nat → Int32} {m_word : Int64} {tb_name : Nat → Int64} {l1 : Int32} {l2 : Int32} {o : Int32} (C : xC p s m args meth c cX12_bitOf 6 RX12 E A (some .int)) (J : ∀ (H : Heap) (locs : List Loc) (ls : Array Slot), xG s E A (wM E ad m_thrown m_trouble m_where m_rv m_tape m_taped m_size m_spot m_sort m_place m_number m_fault m_wrongAt m_word m_v m_x m_past m_kept m_acts m_images m_matchNow m_slopsNow m_matchesNow m_slopped m_seatBest m_fedBest m_slopsBest m_sawBest m_leastNow m_stableNow m_fitsNow m_someNow m_everyNow m_otherIn m_askLeft tb_seats tb_slack tb_saw tb_quarrel tb_people tb_pairs tb_forks tb_unsures tb_trieds tb_fed tb_seat tb_one tb_other tb_years tb_kind tb_unsure tb_may tb_tried tb_name) H locs → lv_has ls 6 [(3, .int o)] → W p l e (xR 0 0) s m args below meth c H locs 0 0 Q (F0 m 73 ls [])) :
    ∀ (n : Nat) (l3 : Int32) (l4 : Int32) (H : Heap) (locs : List Loc) (ls : Array Slot), xG s E A (wM E ad m_thrown m_trouble m_where m_rv m_tape m_taped m_size m_spot m_sort m_place m_number m_fault m_wrongAt m_word m_v m_x m_past m_kept m_acts m_images m_matchNow m_slopsNow m_matchesNow m_slopped m_seatBest m_fedBest m_slopsBest m_sawBest m_leastNow m_stableNow m_fitsNow m_someNow m_everyNow m_otherIn m_askLeft tb_seats tb_slack tb_saw tb_quarrel tb_people tb_pairs tb_forks tb_unsures tb_trieds tb_fed tb_seat tb_one tb_other tb_years tb_kind tb_unsure tb_may tb_tried tb_name) H locs → lv_has ls 6 [(0, .ref (ad 0)), (1, .int l1), (2, .int l2), (3, .int l3), (4, .int l4)] → f_M_bitOf_L5 l1 l2 tb_people n l3 l4 = some o → W p l e (xR 0 0) s m args below meth c H locs 0 0 Q (F0 m 5 ls []) := by
  have hx := C.1
  have hb := C.2.1
  intro n
  induction n with
  | zero =>
    intro l3 l4 H locs ls G hl hf
    exact nomatch (show (none : Option (Int32)) = some o from hf)
  | succ n ih =>
    intro l3 l4 H locs ls G hl hf
    rw [f_M_bitOf_L5] at hf
    refine lv_iload hx hb dX12_bitOf_5 (lv_at hl 4 rfl) ?_
    refine lv_aload_n hx hb dX12_bitOf_7 rfl (lv_at hl 0 rfl) ?_
    refine x_get C G fX12_298.g (wM_at0) rfl dX12_bitOf_8 ?_
    refine x_get C G fX12_177.g (wM_at9) rfl dX12_bitOf_11 ?_
    refine lv_icmp_ge (tgt := 73) hx hb dX12_bitOf_14 (by decide) (fun h => ?_) (fun h => ?_)
    · have hf := it_t h hf
      obtain rfl := Option.some.inj hf
      exact J _ _ _ G (lv_sub hl [3] rfl)
    · have hf := it_f h hf
      refine lv_iload hx hb dX12_bitOf_17 (lv_at hl 4 rfl) ?_
      refine lv_iconst (v := 1) hx hb dX12_bitOf_19 (by decide) ?_
      refine lv_iadd hx hb dX12_bitOf_20 ?_
      refine lv_topi (fun x1 ex1 => ?_)
      have hf := lt_go ex1 hf
      refine lv_istore (lv' := [(5, .int x1), (0, .ref (ad 0)), (1, .int l1), (2, .int l2), (3, .int l3), (4, .int l4)]) hx hb dX12_bitOf_21 hl (by decide) rfl (fun ls hl => ?_)
      obtain ⟨x6, hr, hf⟩ := bd_go hf
      have Jx6 : ∀ (H : Heap) (locs : List Loc) (ls : Array Slot), xG s E A (wM E ad m_thrown m_trouble m_where m_rv m_tape m_taped m_size m_spot m_sort m_place m_number m_fault m_wrongAt m_word m_v m_x m_past m_kept m_acts m_images m_matchNow m_slopsNow m_matchesNow m_slopped m_seatBest m_fedBest m_slopsBest m_sawBest m_leastNow m_stableNow m_fitsNow m_someNow m_everyNow m_otherIn m_askLeft tb_seats tb_slack tb_saw tb_quarrel tb_people tb_pairs tb_forks tb_unsures tb_trieds tb_fed tb_seat tb_one tb_other tb_years tb_kind tb_unsure tb_may tb_tried tb_name) H locs → lv_has ls 6 [(0, .ref (ad 0)), (1, .int l1), (2, .int l2), (3, .int x6), (4, .int l4)] → W p l e (xR 0 0) s m args below meth c H locs 0 0 Q (F0 m 67 ls []) := by
        intro H locs ls G hl
        obtain ⟨x7, ex7⟩ : ∃ z : Int32, z = l4 + (1 : Int32) := ⟨_, rfl⟩
        have hf := lt_go ex7 hf
        refine lv_iinc (v := x7) (lv' := [(4, .int x7), (0, .ref (ad 0)), (1, .int l1), (2, .int l2), (3, .int x6)]) hx hb dX12_bitOf_67 hl (k := 4) rfl (by rw [ex7]; rfl) (by decide) rfl (fun ls hl => ?_)
        refine lv_goto (tgt := 5) hx hb dX12_bitOf_70 (by decide) ?_
        exact ih x6 x7 _ _ _ G (lv_sub hl [1, 2, 3, 4, 0] rfl) hf
      exact w_M_bitOf_m_M_L23 C Jx6 fu _ _ _ _ _ G (lv_sub hl [1, 2, 3, 4, 5, 0] rfl) hr
set_option maxHeartbeats 4000000 in
set_option maxRecDepth 100000 in
theorem c_M_bitOf_m_M {l : Launch} {E : xE} {ad : Nat → Nat} {m_thrown m_trouble m_where m_taped m_size m_spot m_sort m_place m_number m_fault m_wrongAt m_acts m_images m_matchNow m_slopsNow m_matchesNow m_fedBest m_slopsBest m_sawBest m_leastNow m_stableNow m_fitsNow m_someNow m_everyNow m_askLeft tb_seats tb_slack tb_saw tb_quarrel tb_people tb_pairs tb_forks tb_unsures tb_trieds tb_fed : Int32} {m_rv : Value} {m_tape m_v m_x m_past m_kept m_slopped m_seatBest m_otherIn tb_seat tb_one tb_other tb_years tb_kind tb_unsure tb_may tb_tried : Nat → Int32} {m_word : Int64} {tb_name : Nat → Int64} {l1 : Int32} {l2 : Int32} {R0 : Int32} (hf : f_M_bitOf l1 l2 tb_people = some R0) : xI l E yX12_bitOf cX12_bitOf 6 (some .int) 0 0 [.ref (ad 0), .int l1, .int l2] (wM E ad m_thrown m_trouble m_where m_rv m_tape m_taped m_size m_spot m_sort m_place m_number m_fault m_wrongAt m_word m_v m_x m_past m_kept m_acts m_images m_matchNow m_slopsNow m_matchesNow m_slopped m_seatBest m_fedBest m_slopsBest m_sawBest m_leastNow m_stableNow m_fitsNow m_someNow m_everyNow m_otherIn m_askLeft tb_seats tb_slack tb_saw tb_quarrel tb_people tb_pairs tb_forks tb_unsures tb_trieds tb_fed tb_seat tb_one tb_other tb_years tb_kind tb_unsure tb_may tb_tried tb_name) (wM E ad m_thrown m_trouble m_where m_rv m_tape m_taped m_size m_spot m_sort m_place m_number m_fault m_wrongAt m_word m_v m_x m_past m_kept m_acts m_images m_matchNow m_slopsNow m_matchesNow m_slopped m_seatBest m_fedBest m_slopsBest m_sawBest m_leastNow m_stableNow m_fitsNow m_someNow m_everyNow m_otherIn m_askLeft tb_seats tb_slack tb_saw tb_quarrel tb_people tb_pairs tb_forks tb_unsures tb_trieds tb_fed tb_seat tb_one tb_other tb_years tb_kind tb_unsure tb_may tb_tried tb_name) R0 := by
  refine xI_of (by decide) (Nat.le_of_ble_eq_true rfl) (fun p e s m args below meth c A C ls hl G => ?_)
  have hx := C.1
  have hb := C.2.1
  have hl : lv_has ls 6 [(0, .ref (ad 0)), (1, .int l1), (2, .int l2)] := hl
  unfold f_M_bitOf at hf
  refine lv_iconst (v := 0) hx hb dX12_bitOf_0 (by decide) ?_
  refine lv_istore_n (lv' := [(3, .int (0 : Int32)), (0, .ref (ad 0)), (1, .int l1), (2, .int l2)]) hx hb dX12_bitOf_1 rfl hl (by decide) rfl (fun ls hl => ?_)
  refine lv_iconst (v := 0) hx hb dX12_bitOf_2 (by decide) ?_
  refine lv_istore (lv' := [(4, .int (0 : Int32)), (3, .int (0 : Int32)), (0, .ref (ad 0)), (1, .int l1), (2, .int l2)]) hx hb dX12_bitOf_3 hl (by decide) rfl (fun ls hl => ?_)
  obtain ⟨x8, hr, hf⟩ := bd_go hf
  have Jx8 : ∀ (H : Heap) (locs : List Loc) (ls : Array Slot), xG s E A (wM E ad m_thrown m_trouble m_where m_rv m_tape m_taped m_size m_spot m_sort m_place m_number m_fault m_wrongAt m_word m_v m_x m_past m_kept m_acts m_images m_matchNow m_slopsNow m_matchesNow m_slopped m_seatBest m_fedBest m_slopsBest m_sawBest m_leastNow m_stableNow m_fitsNow m_someNow m_everyNow m_otherIn m_askLeft tb_seats tb_slack tb_saw tb_quarrel tb_people tb_pairs tb_forks tb_unsures tb_trieds tb_fed tb_seat tb_one tb_other tb_years tb_kind tb_unsure tb_may tb_tried tb_name) H locs → lv_has ls 6 [(3, .int x8)] → W p l e (xR 0 0) s m args below meth c H locs 0 0 (MQ below (xqI E A (wM E ad m_thrown m_trouble m_where m_rv m_tape m_taped m_size m_spot m_sort m_place m_number m_fault m_wrongAt m_word m_v m_x m_past m_kept m_acts m_images m_matchNow m_slopsNow m_matchesNow m_slopped m_seatBest m_fedBest m_slopsBest m_sawBest m_leastNow m_stableNow m_fitsNow m_someNow m_everyNow m_otherIn m_askLeft tb_seats tb_slack tb_saw tb_quarrel tb_people tb_pairs tb_forks tb_unsures tb_trieds tb_fed tb_seat tb_one tb_other tb_years tb_kind tb_unsure tb_may tb_tried tb_name) (some .int) R0) args s 0 0 A) (F0 m 73 ls []) := by
    intro H locs ls G hl
    refine lv_iload_n hx hb dX12_bitOf_73 rfl (lv_at hl 0 rfl) ?_
    obtain rfl := Option.some.inj hf
    exact xI_ret C G rfl dX12_bitOf_74
  exact w_M_bitOf_m_M_L5 C Jx8 fu _ _ _ _ _ G (lv_sub hl [2, 3, 4, 1, 0] rfl) hr
set_option maxHeartbeats 4000000 in
set_option maxRecDepth 100000 in
theorem c_M_knows_m_M {l : Launch} {E : xE} {ad : Nat → Nat} {m_thrown m_trouble m_where m_taped m_size m_spot m_sort m_place m_number m_fault m_wrongAt m_acts m_images m_matchNow m_slopsNow m_matchesNow m_fedBest m_slopsBest m_sawBest m_leastNow m_stableNow m_fitsNow m_someNow m_everyNow m_askLeft tb_seats tb_slack tb_saw tb_quarrel tb_people tb_pairs tb_forks tb_unsures tb_trieds tb_fed : Int32} {m_rv : Value} {m_tape m_v m_x m_past m_kept m_slopped m_seatBest m_otherIn tb_seat tb_one tb_other tb_years tb_kind tb_unsure tb_may tb_tried : Nat → Int32} {m_word : Int64} {tb_name : Nat → Int64} {l1 : Int32} {l2 : Int32} {R0 : (Nat → Int32)} (hf : f_M_knows l1 l2 m_x = some R0) : xV l E yX12_knows cX12_knows 4 none 0 0 [.ref (ad 0), .int l1, .int l2] (wM E ad m_thrown m_trouble m_where m_rv m_tape m_taped m_size m_spot m_sort m_place m_number m_fault m_wrongAt m_word m_v m_x m_past m_kept m_acts m_images m_matchNow m_slopsNow m_matchesNow m_slopped m_seatBest m_fedBest m_slopsBest m_sawBest m_leastNow m_stableNow m_fitsNow m_someNow m_everyNow m_otherIn m_askLeft tb_seats tb_slack tb_saw tb_quarrel tb_people tb_pairs tb_forks tb_unsures tb_trieds tb_fed tb_seat tb_one tb_other tb_years tb_kind tb_unsure tb_may tb_tried tb_name) (wM E ad m_thrown m_trouble m_where m_rv m_tape m_taped m_size m_spot m_sort m_place m_number m_fault m_wrongAt m_word m_v R0 m_past m_kept m_acts m_images m_matchNow m_slopsNow m_matchesNow m_slopped m_seatBest m_fedBest m_slopsBest m_sawBest m_leastNow m_stableNow m_fitsNow m_someNow m_everyNow m_otherIn m_askLeft tb_seats tb_slack tb_saw tb_quarrel tb_people tb_pairs tb_forks tb_unsures tb_trieds tb_fed tb_seat tb_one tb_other tb_years tb_kind tb_unsure tb_may tb_tried tb_name) := by
  refine xV_of (by decide) (Nat.le_of_ble_eq_true rfl) (fun p e s m args below meth c A C ls hl G => ?_)
  have hx := C.1
  have hb := C.2.1
  have hl : lv_has ls 4 [(0, .ref (ad 0)), (1, .int l1), (2, .int l2)] := hl
  unfold f_M_knows at hf
  refine lv_aload_n hx hb dX12_knows_0 rfl (lv_at hl 0 rfl) ?_
  refine x_get C G fX12_21 (wM_at0) rfl dX12_knows_1 ?_
  refine lv_bipush (v := 55) hx hb dX12_knows_4 (by decide) ?_
  have hi := ck_in hf
  have hf := ck_go hf
  refine x_iald C G (wM_at3) hi dX12_knows_6 ?_
  refine lv_topi (fun x1 ex1 => ?_)
  have hf := lt_go ex1 hf
  refine lv_istore_n (lv' := [(3, .int x1), (0, .ref (ad 0)), (1, .int l1), (2, .int l2)]) hx hb dX12_knows_7 rfl hl (by decide) rfl (fun ls hl => ?_)
  refine lv_aload_n hx hb dX12_knows_8 rfl (lv_at hl 1 rfl) ?_
  refine x_get C G fX12_21 (wM_at0) rfl dX12_knows_9 ?_
  refine lv_iconst (v := 5) hx hb dX12_knows_12 (by decide) ?_
  refine lv_iload_n hx hb dX12_knows_13 rfl (lv_at hl 0 rfl) ?_
  refine lv_iadd hx hb dX12_knows_14 ?_
  refine lv_iload_n hx hb dX12_knows_15 rfl (lv_at hl 2 rfl) ?_
  have hi := ck_in hf
  have hf := ck_go hf
  refine x_iast (ws' := (wM E ad m_thrown m_trouble m_where m_rv m_tape m_taped m_size m_spot m_sort m_place m_number m_fault m_wrongAt m_word m_v (upd m_x ((5 : Int32) + x1).toNatClampNeg l1) m_past m_kept m_acts m_images m_matchNow m_slopsNow m_matchesNow m_slopped m_seatBest m_fedBest m_slopsBest m_sawBest m_leastNow m_stableNow m_fitsNow m_someNow m_everyNow m_otherIn m_askLeft tb_seats tb_slack tb_saw tb_quarrel tb_people tb_pairs tb_forks tb_unsures tb_trieds tb_fed tb_seat tb_one tb_other tb_years tb_kind tb_unsure tb_may tb_tried tb_name)) C G (wM_at3) hi wM_set_m_x dX12_knows_16 (fun H locs G => ?_)
  refine lv_aload_n hx hb dX12_knows_17 rfl (lv_at hl 1 rfl) ?_
  refine x_get C G fX12_21 (wM_at0) rfl dX12_knows_18 ?_
  refine lv_bipush (v := 15) hx hb dX12_knows_21 (by decide) ?_
  refine lv_iload_n hx hb dX12_knows_23 rfl (lv_at hl 0 rfl) ?_
  refine lv_iadd hx hb dX12_knows_24 ?_
  refine lv_iload_n hx hb dX12_knows_25 rfl (lv_at hl 3 rfl) ?_
  have hi := ck_in hf
  have hf := ck_go hf
  refine x_iast (ws' := (wM E ad m_thrown m_trouble m_where m_rv m_tape m_taped m_size m_spot m_sort m_place m_number m_fault m_wrongAt m_word m_v (upd (upd m_x ((5 : Int32) + x1).toNatClampNeg l1) ((15 : Int32) + x1).toNatClampNeg l2) m_past m_kept m_acts m_images m_matchNow m_slopsNow m_matchesNow m_slopped m_seatBest m_fedBest m_slopsBest m_sawBest m_leastNow m_stableNow m_fitsNow m_someNow m_everyNow m_otherIn m_askLeft tb_seats tb_slack tb_saw tb_quarrel tb_people tb_pairs tb_forks tb_unsures tb_trieds tb_fed tb_seat tb_one tb_other tb_years tb_kind tb_unsure tb_may tb_tried tb_name)) C G (wM_at3) hi wM_set_m_x dX12_knows_26 (fun H locs G => ?_)
  refine lv_aload_n hx hb dX12_knows_27 rfl (lv_at hl 1 rfl) ?_
  refine x_get C G fX12_21 (wM_at0) rfl dX12_knows_28 ?_
  refine lv_bipush (v := 25) hx hb dX12_knows_31 (by decide) ?_
  refine lv_iload_n hx hb dX12_knows_33 rfl (lv_at hl 0 rfl) ?_
  refine lv_iadd hx hb dX12_knows_34 ?_
  refine lv_iconst (v := 0) hx hb dX12_knows_35 (by decide) ?_
  have hi := ck_in hf
  have hf := ck_go hf
  refine x_iast (ws' := (wM E ad m_thrown m_trouble m_where m_rv m_tape m_taped m_size m_spot m_sort m_place m_number m_fault m_wrongAt m_word m_v (upd (upd (upd m_x ((5 : Int32) + x1).toNatClampNeg l1) ((15 : Int32) + x1).toNatClampNeg l2) ((25 : Int32) + x1).toNatClampNeg (0 : Int32)) m_past m_kept m_acts m_images m_matchNow m_slopsNow m_matchesNow m_slopped m_seatBest m_fedBest m_slopsBest m_sawBest m_leastNow m_stableNow m_fitsNow m_someNow m_everyNow m_otherIn m_askLeft tb_seats tb_slack tb_saw tb_quarrel tb_people tb_pairs tb_forks tb_unsures tb_trieds tb_fed tb_seat tb_one tb_other tb_years tb_kind tb_unsure tb_may tb_tried tb_name)) C G (wM_at3) hi wM_set_m_x dX12_knows_36 (fun H locs G => ?_)
  refine lv_aload_n hx hb dX12_knows_37 rfl (lv_at hl 1 rfl) ?_
  refine x_get C G fX12_21 (wM_at0) rfl dX12_knows_38 ?_
  refine lv_bipush (v := 35) hx hb dX12_knows_41 (by decide) ?_
  refine lv_iload_n hx hb dX12_knows_43 rfl (lv_at hl 0 rfl) ?_
  refine lv_iadd hx hb dX12_knows_44 ?_
  refine lv_iconst (v := 0) hx hb dX12_knows_45 (by decide) ?_
  have hi := ck_in hf
  have hf := ck_go hf
  refine x_iast (ws' := (wM E ad m_thrown m_trouble m_where m_rv m_tape m_taped m_size m_spot m_sort m_place m_number m_fault m_wrongAt m_word m_v (upd (upd (upd (upd m_x ((5 : Int32) + x1).toNatClampNeg l1) ((15 : Int32) + x1).toNatClampNeg l2) ((25 : Int32) + x1).toNatClampNeg (0 : Int32)) ((35 : Int32) + x1).toNatClampNeg (0 : Int32)) m_past m_kept m_acts m_images m_matchNow m_slopsNow m_matchesNow m_slopped m_seatBest m_fedBest m_slopsBest m_sawBest m_leastNow m_stableNow m_fitsNow m_someNow m_everyNow m_otherIn m_askLeft tb_seats tb_slack tb_saw tb_quarrel tb_people tb_pairs tb_forks tb_unsures tb_trieds tb_fed tb_seat tb_one tb_other tb_years tb_kind tb_unsure tb_may tb_tried tb_name)) C G (wM_at3) hi wM_set_m_x dX12_knows_46 (fun H locs G => ?_)
  refine lv_aload_n hx hb dX12_knows_47 rfl (lv_at hl 1 rfl) ?_
  refine x_get C G fX12_21 (wM_at0) rfl dX12_knows_48 ?_
  refine lv_bipush (v := 45) hx hb dX12_knows_51 (by decide) ?_
  refine lv_iload_n hx hb dX12_knows_53 rfl (lv_at hl 0 rfl) ?_
  refine lv_iadd hx hb dX12_knows_54 ?_
  refine lv_iconst (v := 0) hx hb dX12_knows_55 (by decide) ?_
  have hi := ck_in hf
  have hf := ck_go hf
  refine x_iast (ws' := (wM E ad m_thrown m_trouble m_where m_rv m_tape m_taped m_size m_spot m_sort m_place m_number m_fault m_wrongAt m_word m_v (upd (upd (upd (upd (upd m_x ((5 : Int32) + x1).toNatClampNeg l1) ((15 : Int32) + x1).toNatClampNeg l2) ((25 : Int32) + x1).toNatClampNeg (0 : Int32)) ((35 : Int32) + x1).toNatClampNeg (0 : Int32)) ((45 : Int32) + x1).toNatClampNeg (0 : Int32)) m_past m_kept m_acts m_images m_matchNow m_slopsNow m_matchesNow m_slopped m_seatBest m_fedBest m_slopsBest m_sawBest m_leastNow m_stableNow m_fitsNow m_someNow m_everyNow m_otherIn m_askLeft tb_seats tb_slack tb_saw tb_quarrel tb_people tb_pairs tb_forks tb_unsures tb_trieds tb_fed tb_seat tb_one tb_other tb_years tb_kind tb_unsure tb_may tb_tried tb_name)) C G (wM_at3) hi wM_set_m_x dX12_knows_56 (fun H locs G => ?_)
  refine lv_aload_n hx hb dX12_knows_57 rfl (lv_at hl 1 rfl) ?_
  refine x_get C G fX12_21 (wM_at0) rfl dX12_knows_58 ?_
  refine lv_bipush (v := 55) hx hb dX12_knows_61 (by decide) ?_
  refine lv_dup2_11 hx hb dX12_knows_63 rfl rfl ?_
  have hi := ck_in hf
  have hf := ck_go hf
  refine x_iald C G (wM_at3) hi dX12_knows_64 ?_
  refine lv_iconst (v := 1) hx hb dX12_knows_65 (by decide) ?_
  refine lv_iadd hx hb dX12_knows_66 ?_
  have hi := ck_in hf
  have hf := ck_go hf
  refine x_iast (ws' := (wM E ad m_thrown m_trouble m_where m_rv m_tape m_taped m_size m_spot m_sort m_place m_number m_fault m_wrongAt m_word m_v (upd (upd (upd (upd (upd (upd m_x ((5 : Int32) + x1).toNatClampNeg l1) ((15 : Int32) + x1).toNatClampNeg l2) ((25 : Int32) + x1).toNatClampNeg (0 : Int32)) ((35 : Int32) + x1).toNatClampNeg (0 : Int32)) ((45 : Int32) + x1).toNatClampNeg (0 : Int32)) (55 : Int32).toNatClampNeg (((upd (upd (upd (upd (upd m_x ((5 : Int32) + x1).toNatClampNeg l1) ((15 : Int32) + x1).toNatClampNeg l2) ((25 : Int32) + x1).toNatClampNeg (0 : Int32)) ((35 : Int32) + x1).toNatClampNeg (0 : Int32)) ((45 : Int32) + x1).toNatClampNeg (0 : Int32)) (55 : Int32).toNatClampNeg) + (1 : Int32))) m_past m_kept m_acts m_images m_matchNow m_slopsNow m_matchesNow m_slopped m_seatBest m_fedBest m_slopsBest m_sawBest m_leastNow m_stableNow m_fitsNow m_someNow m_everyNow m_otherIn m_askLeft tb_seats tb_slack tb_saw tb_quarrel tb_people tb_pairs tb_forks tb_unsures tb_trieds tb_fed tb_seat tb_one tb_other tb_years tb_kind tb_unsure tb_may tb_tried tb_name)) C G (wM_at3) hi wM_set_m_x dX12_knows_67 (fun H locs G => ?_)
  obtain rfl := Option.some.inj hf
  exact xV_ret C G dX12_knows_68
set_option maxHeartbeats 4000000 in
set_option maxRecDepth 100000 in
theorem w_M_fedMeeting_m_M_L22 {p : Program} {l : Launch} {e : Env} {s : State} {m : MethodId} {args : Array Value} {below : List Frame} {meth : Method} {c : Code} {A : Nat → Prop} {E : xE} {ad : Nat → Nat} {m_thrown m_trouble m_where m_taped m_size m_spot m_sort m_place m_number m_fault m_wrongAt m_acts m_images m_matchNow m_slopsNow m_matchesNow m_fedBest m_slopsBest m_sawBest m_leastNow m_stableNow m_fitsNow m_someNow m_everyNow m_askLeft tb_seats tb_slack tb_saw tb_quarrel tb_people tb_pairs tb_forks tb_unsures tb_trieds tb_fed : Int32} {m_rv : Value} {m_tape m_v m_past m_kept m_slopped m_seatBest m_otherIn tb_seat tb_one tb_other tb_years tb_kind tb_unsure tb_may tb_tried : Nat → Int32} {m_word : Int64} {tb_name : Nat → Int64} {l1 : Int32} {l2 : Int32} {l3 : Int32} {o : (Int32 × (Nat → Int32) × Int32 × Int32 × Int32 × (Nat → Int32)) ⊕ ((Nat → Int32))} {R0 : Int32 × (Nat → Int32) × Int32 × Int32 × Int32 × (Nat → Int32)} (C : xC p s m args meth c cX12_fedMeeting 5 RX12 E A (some .int)) (Jr : ∀ r, o = .inl r → r = R0) (J : ∀ t, o = .inr t → ∀ (H : Heap) (locs : List Loc) (ls : Array Slot), xG s E A (wM E ad m_thrown m_trouble m_where m_rv m_tape m_taped m_size m_spot m_sort m_place m_number m_fault m_wrongAt m_word m_v t m_past m_kept m_acts m_images m_matchNow m_slopsNow m_matchesNow m_slopped m_seatBest m_fedBest m_slopsBest m_sawBest m_leastNow m_stableNow m_fitsNow m_someNow m_everyNow m_otherIn m_askLeft tb_seats tb_slack tb_saw tb_quarrel tb_people tb_pairs tb_forks tb_unsures tb_trieds tb_fed tb_seat tb_one tb_other tb_years tb_kind tb_unsure tb_may tb_tried tb_name) H locs → lv_has ls 5 [(0, .ref (ad 0)), (1, .int l1), (2, .int l2), (3, .int l3)] → W p l e (xR 5 109) s m args below meth c H locs 0 0 (MQ below (xqI E A (wM E ad m_thrown m_trouble m_where m_rv m_tape m_taped m_size m_spot m_sort m_place m_number m_fault m_wrongAt m_word m_v R0.2.1 m_past m_kept m_acts m_images R0.2.2.1 R0.2.2.2.1 R0.2.2.2.2.1 R0.2.2.2.2.2 m_seatBest m_fedBest m_slopsBest m_sawBest m_leastNow m_stableNow m_fitsNow m_someNow m_everyNow m_otherIn m_askLeft tb_seats tb_slack tb_saw tb_quarrel tb_people tb_pairs tb_forks tb_unsures tb_trieds tb_fed tb_seat tb_one tb_other tb_years tb_kind tb_unsure tb_may tb_tried tb_name) (some .int) R0.1) args s 0 0 A) (F0 m 78 ls [])) :
    ∀ (n : Nat) (l4 : Int32) (m_x : Nat → Int32) (H : Heap) (locs : List Loc) (ls : Array Slot), xG s E A (wM E ad m_thrown m_trouble m_where m_rv m_tape m_taped m_size m_spot m_sort m_place m_number m_fault m_wrongAt m_word m_v m_x m_past m_kept m_acts m_images m_matchNow m_slopsNow m_matchesNow m_slopped m_seatBest m_fedBest m_slopsBest m_sawBest m_leastNow m_stableNow m_fitsNow m_someNow m_everyNow m_otherIn m_askLeft tb_seats tb_slack tb_saw tb_quarrel tb_people tb_pairs tb_forks tb_unsures tb_trieds tb_fed tb_seat tb_one tb_other tb_years tb_kind tb_unsure tb_may tb_tried tb_name) H locs → lv_has ls 5 [(0, .ref (ad 0)), (1, .int l1), (2, .int l2), (3, .int l3), (4, .int l4)] → f_M_fedMeeting_L22 l1 l3 m_matchNow m_slopsNow m_matchesNow m_slopped tb_people n l4 m_x = some o → W p l e (xR 5 109) s m args below meth c H locs 0 0 (MQ below (xqI E A (wM E ad m_thrown m_trouble m_where m_rv m_tape m_taped m_size m_spot m_sort m_place m_number m_fault m_wrongAt m_word m_v R0.2.1 m_past m_kept m_acts m_images R0.2.2.1 R0.2.2.2.1 R0.2.2.2.2.1 R0.2.2.2.2.2 m_seatBest m_fedBest m_slopsBest m_sawBest m_leastNow m_stableNow m_fitsNow m_someNow m_everyNow m_otherIn m_askLeft tb_seats tb_slack tb_saw tb_quarrel tb_people tb_pairs tb_forks tb_unsures tb_trieds tb_fed tb_seat tb_one tb_other tb_years tb_kind tb_unsure tb_may tb_tried tb_name) (some .int) R0.1) args s 0 0 A) (F0 m 22 ls []) := by
  have hx := C.1
  have hb := C.2.1
  intro n
  induction n with
  | zero =>
    intro l4 m_x H locs ls G hl hf
    exact nomatch (show (none : Option ((Int32 × (Nat → Int32) × Int32 × Int32 × Int32 × (Nat → Int32)) ⊕ ((Nat → Int32)))) = some o from hf)
  | succ n ih =>
    intro l4 m_x H locs ls G hl hf
    rw [f_M_fedMeeting_L22] at hf
    refine lv_iload hx hb dX12_fedMeeting_22 (lv_at hl 4 rfl) ?_
    refine lv_aload_n hx hb dX12_fedMeeting_24 rfl (lv_at hl 0 rfl) ?_
    refine x_get C G fX12_298.g (wM_at0) rfl dX12_fedMeeting_25 ?_
    refine x_get C G fX12_177.g (wM_at9) rfl dX12_fedMeeting_28 ?_
    refine lv_icmp_ge (tgt := 78) hx hb dX12_fedMeeting_31 (by decide) (fun h => ?_) (fun h => ?_)
    · have hf := it_t h hf
      exact J _ (Option.some.inj hf).symm _ _ _ G (lv_sub hl [0, 1, 2, 3] rfl)
    · have hf := it_f h hf
      refine lv_iload_n hx hb dX12_fedMeeting_34 rfl (lv_at hl 1 rfl) ?_
      refine lv_aload_n hx hb dX12_fedMeeting_35 rfl (lv_at hl 0 rfl) ?_
      refine lv_iload_n hx hb dX12_fedMeeting_36 rfl (lv_at hl 3 rfl) ?_
      refine lv_iload hx hb dX12_fedMeeting_37 (lv_at hl 4 rfl) ?_
      obtain ⟨x3, hc, hf⟩ := bd_go hf
      refine xI_V C G (c_M_bitOf_m_M hc) mX12_bitOf kX12_418 (wM_at0) rfl ⟨Nat.le_of_ble_eq_true rfl, Nat.le_of_ble_eq_true rfl⟩ rfl hl.1 rfl (Nat.le_of_ble_eq_true rfl) ⟨Nat.le_refl _, Nat.le_refl _⟩ dX12_fedMeeting_39 (fun hz H locs G => ?_)
      obtain ⟨x4, hc, hf⟩ := bd_go hf
      refine xI_S C G (c_M_bit_any hc) mX12_bit kX12_237 ⟨Nat.le_of_ble_eq_true rfl, Nat.le_of_ble_eq_true rfl⟩ rfl hl.1 rfl (Nat.le_of_ble_eq_true rfl) ⟨Nat.le_refl _, Nat.le_refl _⟩ dX12_fedMeeting_42 (fun hz4 H locs G => ?_)
      refine lv_if_ne (tgt := 51) hx hb dX12_fedMeeting_45 (by decide) (fun h => ?_) (fun h => ?_)
      · have hf := it_f h hf
        refine lv_aload_n hx hb dX12_fedMeeting_51 rfl (lv_at hl 0 rfl) ?_
        refine lv_iload_n hx hb dX12_fedMeeting_52 rfl (lv_at hl 3 rfl) ?_
        refine lv_iload hx hb dX12_fedMeeting_53 (lv_at hl 4 rfl) ?_
        obtain ⟨x5, hc, hf⟩ := bd_go hf
        refine xI_V C G (c_M_pairBy_m_M hc) mX12_pairBy kX12_345 (wM_at0) rfl ⟨Nat.le_of_ble_eq_true rfl, Nat.le_of_ble_eq_true rfl⟩ rfl hl.1 rfl (Nat.le_of_ble_eq_true rfl) ⟨Nat.le_refl _, Nat.le_refl _⟩ dX12_fedMeeting_55 (fun hz H locs G => ?_)
        refine lv_bipush (v := -2) hx hb dX12_fedMeeting_58 (by decide) ?_
        refine lv_icmp_eq (tgt := 65) hx hb dX12_fedMeeting_60 (by decide) (fun h => ?_) (fun h => ?_)
        · have hf := it_t h hf
          refine lv_aload_n hx hb dX12_fedMeeting_65 rfl (lv_at hl 0 rfl) ?_
          refine lv_iload_n hx hb dX12_fedMeeting_66 rfl (lv_at hl 3 rfl) ?_
          refine lv_iload hx hb dX12_fedMeeting_67 (lv_at hl 4 rfl) ?_
          obtain ⟨x6, hc, hf⟩ := bd_go hf
          refine xV_V C G (c_M_knows_m_M hc) mX12_knows kX12_421 (wM_at0) rfl ⟨Nat.le_of_ble_eq_true rfl, Nat.le_of_ble_eq_true rfl⟩ rfl hl.1 rfl (Nat.le_of_ble_eq_true rfl) ⟨Nat.le_refl _, Nat.le_refl _⟩ dX12_fedMeeting_69 (fun H locs G => ?_)
          obtain ⟨x7, ex7⟩ : ∃ z : Int32, z = l4 + (1 : Int32) := ⟨_, rfl⟩
          have hf := lt_go ex7 hf
          refine lv_iinc (v := x7) (lv' := [(4, .int x7), (0, .ref (ad 0)), (1, .int l1), (2, .int l2), (3, .int l3)]) hx hb dX12_fedMeeting_72 hl (k := 4) rfl (by rw [ex7]; rfl) (by decide) rfl (fun ls hl => ?_)
          refine lv_goto (tgt := 22) hx hb dX12_fedMeeting_75 (by decide) ?_
          exact ih x7 x6 _ _ _ G (lv_sub hl [1, 2, 3, 4, 0] rfl) hf
        · have hf := it_f h hf
          refine lv_iconst (v := -1) hx hb dX12_fedMeeting_63 (by decide) ?_
          obtain rfl := Jr _ (Option.some.inj hf).symm
          exact xI_ret C G rfl dX12_fedMeeting_64
      · have hf := it_t h hf
        refine lv_goto (tgt := 72) hx hb dX12_fedMeeting_48 (by decide) ?_
        obtain ⟨x8, ex8⟩ : ∃ z : Int32, z = l4 + (1 : Int32) := ⟨_, rfl⟩
        have hf := lt_go ex8 hf
        refine lv_iinc (v := x8) (lv' := [(4, .int x8), (0, .ref (ad 0)), (1, .int l1), (2, .int l2), (3, .int l3)]) hx hb dX12_fedMeeting_72 hl (k := 4) rfl (by rw [ex8]; rfl) (by decide) rfl (fun ls hl => ?_)
        refine lv_goto (tgt := 22) hx hb dX12_fedMeeting_75 (by decide) ?_
        exact ih x8 m_x _ _ _ G (lv_sub hl [1, 2, 3, 4, 0] rfl) hf
set_option maxHeartbeats 4000000 in
set_option maxRecDepth 100000 in
theorem w_M_fedMeeting_m_M_L6 {p : Program} {l : Launch} {e : Env} {s : State} {m : MethodId} {args : Array Value} {below : List Frame} {meth : Method} {c : Code} {A : Nat → Prop} {E : xE} {ad : Nat → Nat} {m_thrown m_trouble m_where m_taped m_size m_spot m_sort m_place m_number m_fault m_wrongAt m_acts m_images m_matchNow m_slopsNow m_matchesNow m_fedBest m_slopsBest m_sawBest m_leastNow m_stableNow m_fitsNow m_someNow m_everyNow m_askLeft tb_seats tb_slack tb_saw tb_quarrel tb_people tb_pairs tb_forks tb_unsures tb_trieds tb_fed : Int32} {m_rv : Value} {m_tape m_v m_past m_kept m_slopped m_seatBest m_otherIn tb_seat tb_one tb_other tb_years tb_kind tb_unsure tb_may tb_tried : Nat → Int32} {m_word : Int64} {tb_name : Nat → Int64} {l1 : Int32} {l2 : Int32} {o : (Int32 × (Nat → Int32) × Int32 × Int32 × Int32 × (Nat → Int32)) ⊕ ((Nat → Int32))} {R0 : Int32 × (Nat → Int32) × Int32 × Int32 × Int32 × (Nat → Int32)} (C : xC p s m args meth c cX12_fedMeeting 5 RX12 E A (some .int)) (Jr : ∀ r, o = .inl r → r = R0) (J : ∀ t, o = .inr t → ∀ (H : Heap) (locs : List Loc) (ls : Array Slot), xG s E A (wM E ad m_thrown m_trouble m_where m_rv m_tape m_taped m_size m_spot m_sort m_place m_number m_fault m_wrongAt m_word m_v t m_past m_kept m_acts m_images m_matchNow m_slopsNow m_matchesNow m_slopped m_seatBest m_fedBest m_slopsBest m_sawBest m_leastNow m_stableNow m_fitsNow m_someNow m_everyNow m_otherIn m_askLeft tb_seats tb_slack tb_saw tb_quarrel tb_people tb_pairs tb_forks tb_unsures tb_trieds tb_fed tb_seat tb_one tb_other tb_years tb_kind tb_unsure tb_may tb_tried tb_name) H locs → lv_has ls 5 [(0, .ref (ad 0)), (2, .int l2)] → W p l e (xR 5 109) s m args below meth c H locs 0 0 (MQ below (xqI E A (wM E ad m_thrown m_trouble m_where m_rv m_tape m_taped m_size m_spot m_sort m_place m_number m_fault m_wrongAt m_word m_v R0.2.1 m_past m_kept m_acts m_images R0.2.2.1 R0.2.2.2.1 R0.2.2.2.2.1 R0.2.2.2.2.2 m_seatBest m_fedBest m_slopsBest m_sawBest m_leastNow m_stableNow m_fitsNow m_someNow m_everyNow m_otherIn m_askLeft tb_seats tb_slack tb_saw tb_quarrel tb_people tb_pairs tb_forks tb_unsures tb_trieds tb_fed tb_seat tb_one tb_other tb_years tb_kind tb_unsure tb_may tb_tried tb_name) (some .int) R0.1) args s 0 0 A) (F0 m 84 ls [])) :
    ∀ (n : Nat) (l3 : Int32) (m_x : Nat → Int32) (H : Heap) (locs : List Loc) (ls : Array Slot), xG s E A (wM E ad m_thrown m_trouble m_where m_rv m_tape m_taped m_size m_spot m_sort m_place m_number m_fault m_wrongAt m_word m_v m_x m_past m_kept m_acts m_images m_matchNow m_slopsNow m_matchesNow m_slopped m_seatBest m_fedBest m_slopsBest m_sawBest m_leastNow m_stableNow m_fitsNow m_someNow m_everyNow m_otherIn m_askLeft tb_seats tb_slack tb_saw tb_quarrel tb_people tb_pairs tb_forks tb_unsures tb_trieds tb_fed tb_seat tb_one tb_other tb_years tb_kind tb_unsure tb_may tb_tried tb_name) H locs → lv_has ls 5 [(0, .ref (ad 0)), (1, .int l1), (2, .int l2), (3, .int l3)] → f_M_fedMeeting_L6 l1 m_matchNow m_slopsNow m_matchesNow m_slopped tb_people n l3 m_x = some o → W p l e (xR 5 109) s m args below meth c H locs 0 0 (MQ below (xqI E A (wM E ad m_thrown m_trouble m_where m_rv m_tape m_taped m_size m_spot m_sort m_place m_number m_fault m_wrongAt m_word m_v R0.2.1 m_past m_kept m_acts m_images R0.2.2.1 R0.2.2.2.1 R0.2.2.2.2.1 R0.2.2.2.2.2 m_seatBest m_fedBest m_slopsBest m_sawBest m_leastNow m_stableNow m_fitsNow m_someNow m_everyNow m_otherIn m_askLeft tb_seats tb_slack tb_saw tb_quarrel tb_people tb_pairs tb_forks tb_unsures tb_trieds tb_fed tb_seat tb_one tb_other tb_years tb_kind tb_unsure tb_may tb_tried tb_name) (some .int) R0.1) args s 0 0 A) (F0 m 6 ls []) := by
  have hx := C.1
  have hb := C.2.1
  intro n
  induction n with
  | zero =>
    intro l3 m_x H locs ls G hl hf
    exact nomatch (show (none : Option ((Int32 × (Nat → Int32) × Int32 × Int32 × Int32 × (Nat → Int32)) ⊕ ((Nat → Int32)))) = some o from hf)
  | succ n ih =>
    intro l3 m_x H locs ls G hl hf
    rw [f_M_fedMeeting_L6] at hf
    refine lv_iload_n hx hb dX12_fedMeeting_6 rfl (lv_at hl 3 rfl) ?_
    refine lv_aload_n hx hb dX12_fedMeeting_7 rfl (lv_at hl 0 rfl) ?_
    refine x_get C G fX12_298.g (wM_at0) rfl dX12_fedMeeting_8 ?_
    refine x_get C G fX12_177.g (wM_at9) rfl dX12_fedMeeting_11 ?_
    refine lv_icmp_ge (tgt := 84) hx hb dX12_fedMeeting_14 (by decide) (fun h => ?_) (fun h => ?_)
    · have hf := it_t h hf
      exact J _ (Option.some.inj hf).symm _ _ _ G (lv_sub hl [0, 2] rfl)
    · have hf := it_f h hf
      refine lv_iload_n hx hb dX12_fedMeeting_17 rfl (lv_at hl 3 rfl) ?_
      refine lv_iconst (v := 1) hx hb dX12_fedMeeting_18 (by decide) ?_
      refine lv_iadd hx hb dX12_fedMeeting_19 ?_
      refine lv_topi (fun x2 ex2 => ?_)
      have hf := lt_go ex2 hf
      refine lv_istore (lv' := [(4, .int x2), (0, .ref (ad 0)), (1, .int l1), (2, .int l2), (3, .int l3)]) hx hb dX12_fedMeeting_20 hl (by decide) rfl (fun ls hl => ?_)
      obtain ⟨ox9, hr, hf⟩ := bd_go hf
      have Jx9 : ∀ x9, ox9 = .inr x9 → ∀ (H : Heap) (locs : List Loc) (ls : Array Slot), xG s E A (wM E ad m_thrown m_trouble m_where m_rv m_tape m_taped m_size m_spot m_sort m_place m_number m_fault m_wrongAt m_word m_v x9 m_past m_kept m_acts m_images m_matchNow m_slopsNow m_matchesNow m_slopped m_seatBest m_fedBest m_slopsBest m_sawBest m_leastNow m_stableNow m_fitsNow m_someNow m_everyNow m_otherIn m_askLeft tb_seats tb_slack tb_saw tb_quarrel tb_people tb_pairs tb_forks tb_unsures tb_trieds tb_fed tb_seat tb_one tb_other tb_years tb_kind tb_unsure tb_may tb_tried tb_name) H locs → lv_has ls 5 [(0, .ref (ad 0)), (1, .int l1), (2, .int l2), (3, .int l3)] → W p l e (xR 5 109) s m args below meth c H locs 0 0 (MQ below (xqI E A (wM E ad m_thrown m_trouble m_where m_rv m_tape m_taped m_size m_spot m_sort m_place m_number m_fault m_wrongAt m_word m_v R0.2.1 m_past m_kept m_acts m_images R0.2.2.1 R0.2.2.2.1 R0.2.2.2.2.1 R0.2.2.2.2.2 m_seatBest m_fedBest m_slopsBest m_sawBest m_leastNow m_stableNow m_fitsNow m_someNow m_everyNow m_otherIn m_askLeft tb_seats tb_slack tb_saw tb_quarrel tb_people tb_pairs tb_forks tb_unsures tb_trieds tb_fed tb_seat tb_one tb_other tb_years tb_kind tb_unsure tb_may tb_tried tb_name) (some .int) R0.1) args s 0 0 A) (F0 m 78 ls []) := by
        intro x9 hq H locs ls G hl
        subst hq
        have hf := sn_r hf
        obtain ⟨x10, ex10⟩ : ∃ z : Int32, z = l3 + (1 : Int32) := ⟨_, rfl⟩
        have hf := lt_go ex10 hf
        refine lv_iinc (v := x10) (lv' := [(3, .int x10), (0, .ref (ad 0)), (1, .int l1), (2, .int l2)]) hx hb dX12_fedMeeting_78 hl (k := 3) rfl (by rw [ex10]; rfl) (by decide) rfl (fun ls hl => ?_)
        refine lv_goto (tgt := 6) hx hb dX12_fedMeeting_81 (by decide) ?_
        exact ih x10 x9 _ _ _ G (lv_sub hl [1, 2, 3, 0] rfl) hf
      have Jrx9 : ∀ r, ox9 = .inl r → r = R0 := by
        intro r hq
        subst hq
        exact Jr r (Option.some.inj hf).symm
      exact w_M_fedMeeting_m_M_L22 C Jrx9 Jx9 fu _ _ _ _ _ G (lv_sub hl [1, 2, 3, 4, 0] rfl) hr
set_option maxHeartbeats 4000000 in
set_option maxRecDepth 100000 in
theorem w_M_fedMeeting_m_M_L86 {p : Program} {l : Launch} {e : Env} {s : State} {m : MethodId} {args : Array Value} {below : List Frame} {meth : Method} {c : Code} {A : Nat → Prop} {E : xE} {Q : State → Prop} {ad : Nat → Nat} {m_thrown m_trouble m_where m_taped m_size m_spot m_sort m_place m_number m_fault m_wrongAt m_acts m_images m_matchNow m_slopsNow m_matchesNow m_fedBest m_slopsBest m_sawBest m_leastNow m_stableNow m_fitsNow m_someNow m_everyNow m_askLeft tb_seats tb_slack tb_saw tb_quarrel tb_people tb_pairs tb_forks tb_unsures tb_trieds tb_fed : Int32} {m_rv : Value} {m_tape m_v m_past m_kept m_slopped m_seatBest m_otherIn tb_seat tb_one tb_other tb_years tb_kind tb_unsure tb_may tb_tried : Nat → Int32} {m_word : Int64} {tb_name : Nat → Int64} {l2 : Int32} {o : (Nat → Int32)} (C : xC p s m args meth c cX12_fedMeeting 5 RX12 E A (some .int)) (J : ∀ (H : Heap) (locs : List Loc) (ls : Array Slot), xG s E A (wM E ad m_thrown m_trouble m_where m_rv m_tape m_taped m_size m_spot m_sort m_place m_number m_fault m_wrongAt m_word m_v o m_past m_kept m_acts m_images m_matchNow m_slopsNow m_matchesNow m_slopped m_seatBest m_fedBest m_slopsBest m_sawBest m_leastNow m_stableNow m_fitsNow m_someNow m_everyNow m_otherIn m_askLeft tb_seats tb_slack tb_saw tb_quarrel tb_people tb_pairs tb_forks tb_unsures tb_trieds tb_fed tb_seat tb_one tb_other tb_years tb_kind tb_unsure tb_may tb_tried tb_name) H locs → lv_has ls 5 [(0, .ref (ad 0))] → W p l e (xR 5 109) s m args below meth c H locs 0 0 Q (F0 m 116 ls [])) :
    ∀ (n : Nat) (l3 : Int32) (m_x : Nat → Int32) (H : Heap) (locs : List Loc) (ls : Array Slot), xG s E A (wM E ad m_thrown m_trouble m_where m_rv m_tape m_taped m_size m_spot m_sort m_place m_number m_fault m_wrongAt m_word m_v m_x m_past m_kept m_acts m_images m_matchNow m_slopsNow m_matchesNow m_slopped m_seatBest m_fedBest m_slopsBest m_sawBest m_leastNow m_stableNow m_fitsNow m_someNow m_everyNow m_otherIn m_askLeft tb_seats tb_slack tb_saw tb_quarrel tb_people tb_pairs tb_forks tb_unsures tb_trieds tb_fed tb_seat tb_one tb_other tb_years tb_kind tb_unsure tb_may tb_tried tb_name) H locs → lv_has ls 5 [(0, .ref (ad 0)), (2, .int l2), (3, .int l3)] → f_M_fedMeeting_L86 l2 n l3 m_x = some o → W p l e (xR 5 109) s m args below meth c H locs 0 0 Q (F0 m 86 ls []) := by
  have hx := C.1
  have hb := C.2.1
  intro n
  induction n with
  | zero =>
    intro l3 m_x H locs ls G hl hf
    exact nomatch (show (none : Option ((Nat → Int32))) = some o from hf)
  | succ n ih =>
    intro l3 m_x H locs ls G hl hf
    rw [f_M_fedMeeting_L86] at hf
    refine lv_iload_n hx hb dX12_fedMeeting_86 rfl (lv_at hl 2 rfl) ?_
    refine lv_aload_n hx hb dX12_fedMeeting_87 rfl (lv_at hl 0 rfl) ?_
    refine x_get C G fX12_21 (wM_at0) rfl dX12_fedMeeting_88 ?_
    refine lv_bipush (v := 55) hx hb dX12_fedMeeting_91 (by decide) ?_
    have hi := ck_in hf
    have hf := ck_go hf
    refine x_iald C G (wM_at3) hi dX12_fedMeeting_93 ?_
    refine lv_icmp_ge (tgt := 116) hx hb dX12_fedMeeting_94 (by decide) (fun h => ?_) (fun h => ?_)
    · have hf := it_t h hf
      obtain rfl := Option.some.inj hf
      exact J _ _ _ G (lv_sub hl [0] rfl)
    · have hf := it_f h hf
      refine lv_aload_n hx hb dX12_fedMeeting_97 rfl (lv_at hl 0 rfl) ?_
      refine x_get C G fX12_21 (wM_at0) rfl dX12_fedMeeting_98 ?_
      refine lv_bipush (v := 25) hx hb dX12_fedMeeting_101 (by decide) ?_
      refine lv_iload_n hx hb dX12_fedMeeting_103 rfl (lv_at hl 2 rfl) ?_
      refine lv_iadd hx hb dX12_fedMeeting_104 ?_
      refine lv_topi (fun x12 ex12 => ?_)
      have hf := lt_go ex12 hf
      refine lv_dup2_11 hx hb dX12_fedMeeting_105 rfl rfl ?_
      have hi := ck_in hf
      have hf := ck_go hf
      refine x_iald C G (wM_at3) hi dX12_fedMeeting_106 ?_
      refine lv_iload_n hx hb dX12_fedMeeting_107 rfl (lv_at hl 1 rfl) ?_
      refine lv_iadd hx hb dX12_fedMeeting_108 ?_
      have hi := ck_in hf
      have hf := ck_go hf
      refine x_iast (ws' := (wM E ad m_thrown m_trouble m_where m_rv m_tape m_taped m_size m_spot m_sort m_place m_number m_fault m_wrongAt m_word m_v (upd m_x x12.toNatClampNeg ((m_x x12.toNatClampNeg) + l2)) m_past m_kept m_acts m_images m_matchNow m_slopsNow m_matchesNow m_slopped m_seatBest m_fedBest m_slopsBest m_sawBest m_leastNow m_stableNow m_fitsNow m_someNow m_everyNow m_otherIn m_askLeft tb_seats tb_slack tb_saw tb_quarrel tb_people tb_pairs tb_forks tb_unsures tb_trieds tb_fed tb_seat tb_one tb_other tb_years tb_kind tb_unsure tb_may tb_tried tb_name)) C G (wM_at3) hi wM_set_m_x dX12_fedMeeting_109 (fun H locs G => ?_)
      obtain ⟨x13, ex13⟩ : ∃ z : Int32, z = l3 + (1 : Int32) := ⟨_, rfl⟩
      have hf := lt_go ex13 hf
      refine lv_iinc (v := x13) (lv' := [(3, .int x13), (0, .ref (ad 0)), (2, .int l2)]) hx hb dX12_fedMeeting_110 hl (k := 2) rfl (by rw [ex13]; rfl) (by decide) rfl (fun ls hl => ?_)
      refine lv_goto (tgt := 86) hx hb dX12_fedMeeting_113 (by decide) ?_
      exact ih x13 (upd m_x x12.toNatClampNeg ((m_x x12.toNatClampNeg) + l2)) _ _ _ G (lv_sub hl [1, 2, 0] rfl) hf
set_option maxHeartbeats 4000000 in
set_option maxRecDepth 100000 in
theorem c_M_fedMeeting_m_M {l : Launch} {E : xE} {ad : Nat → Nat} {m_thrown m_trouble m_where m_taped m_size m_spot m_sort m_place m_number m_fault m_wrongAt m_acts m_images m_matchNow m_slopsNow m_matchesNow m_fedBest m_slopsBest m_sawBest m_leastNow m_stableNow m_fitsNow m_someNow m_everyNow m_askLeft tb_seats tb_slack tb_saw tb_quarrel tb_people tb_pairs tb_forks tb_unsures tb_trieds tb_fed : Int32} {m_rv : Value} {m_tape m_v m_x m_past m_kept m_slopped m_seatBest m_otherIn tb_seat tb_one tb_other tb_years tb_kind tb_unsure tb_may tb_tried : Nat → Int32} {m_word : Int64} {tb_name : Nat → Int64} {l1 : Int32} {l2 : Int32} {R0 : Int32 × (Nat → Int32) × Int32 × Int32 × Int32 × (Nat → Int32)} (hf : f_M_fedMeeting l1 l2 m_v m_x m_matchNow m_slopsNow m_matchesNow m_slopped tb_seats tb_slack tb_people = some R0) : xI l E yX12_fedMeeting cX12_fedMeeting 5 (some .int) 5 109 [.ref (ad 0), .int l1, .int l2] (wM E ad m_thrown m_trouble m_where m_rv m_tape m_taped m_size m_spot m_sort m_place m_number m_fault m_wrongAt m_word m_v m_x m_past m_kept m_acts m_images m_matchNow m_slopsNow m_matchesNow m_slopped m_seatBest m_fedBest m_slopsBest m_sawBest m_leastNow m_stableNow m_fitsNow m_someNow m_everyNow m_otherIn m_askLeft tb_seats tb_slack tb_saw tb_quarrel tb_people tb_pairs tb_forks tb_unsures tb_trieds tb_fed tb_seat tb_one tb_other tb_years tb_kind tb_unsure tb_may tb_tried tb_name) (wM E ad m_thrown m_trouble m_where m_rv m_tape m_taped m_size m_spot m_sort m_place m_number m_fault m_wrongAt m_word m_v R0.2.1 m_past m_kept m_acts m_images R0.2.2.1 R0.2.2.2.1 R0.2.2.2.2.1 R0.2.2.2.2.2 m_seatBest m_fedBest m_slopsBest m_sawBest m_leastNow m_stableNow m_fitsNow m_someNow m_everyNow m_otherIn m_askLeft tb_seats tb_slack tb_saw tb_quarrel tb_people tb_pairs tb_forks tb_unsures tb_trieds tb_fed tb_seat tb_one tb_other tb_years tb_kind tb_unsure tb_may tb_tried tb_name) R0.1 := by
  refine xI_of (by decide) (Nat.le_of_ble_eq_true rfl) (fun p e s m args below meth c A C ls hl G => ?_)
  have hx := C.1
  have hb := C.2.1
  have hl : lv_has ls 5 [(0, .ref (ad 0)), (1, .int l1), (2, .int l2)] := hl
  unfold f_M_fedMeeting at hf
  refine lv_aload_n hx hb dX12_fedMeeting_0 rfl (lv_at hl 0 rfl) ?_
  obtain ⟨x1, hc, hf⟩ := bd_go hf
  refine xV_V C G (c_M_works_m_M hc) mX12_works kX12_333 (wM_at0) rfl ⟨Nat.le_of_ble_eq_true rfl, Nat.le_of_ble_eq_true rfl⟩ rfl hl.1 rfl (Nat.le_of_ble_eq_true rfl) ⟨Nat.le_refl _, Nat.le_refl _⟩ dX12_fedMeeting_1 (fun H locs G => ?_)
  refine lv_iconst (v := 0) hx hb dX12_fedMeeting_4 (by decide) ?_
  refine lv_istore_n (lv' := [(3, .int (0 : Int32)), (0, .ref (ad 0)), (1, .int l1), (2, .int l2)]) hx hb dX12_fedMeeting_5 rfl hl (by decide) rfl (fun ls hl => ?_)
  obtain ⟨ox11, hr, hf⟩ := bd_go hf
  have Jx11 : ∀ x11, ox11 = .inr x11 → ∀ (H : Heap) (locs : List Loc) (ls : Array Slot), xG s E A (wM E ad m_thrown m_trouble m_where m_rv m_tape m_taped m_size m_spot m_sort m_place m_number m_fault m_wrongAt m_word m_v x11 m_past m_kept m_acts m_images m_matchNow m_slopsNow m_matchesNow m_slopped m_seatBest m_fedBest m_slopsBest m_sawBest m_leastNow m_stableNow m_fitsNow m_someNow m_everyNow m_otherIn m_askLeft tb_seats tb_slack tb_saw tb_quarrel tb_people tb_pairs tb_forks tb_unsures tb_trieds tb_fed tb_seat tb_one tb_other tb_years tb_kind tb_unsure tb_may tb_tried tb_name) H locs → lv_has ls 5 [(0, .ref (ad 0)), (2, .int l2)] → W p l e (xR 5 109) s m args below meth c H locs 0 0 (MQ below (xqI E A (wM E ad m_thrown m_trouble m_where m_rv m_tape m_taped m_size m_spot m_sort m_place m_number m_fault m_wrongAt m_word m_v R0.2.1 m_past m_kept m_acts m_images R0.2.2.1 R0.2.2.2.1 R0.2.2.2.2.1 R0.2.2.2.2.2 m_seatBest m_fedBest m_slopsBest m_sawBest m_leastNow m_stableNow m_fitsNow m_someNow m_everyNow m_otherIn m_askLeft tb_seats tb_slack tb_saw tb_quarrel tb_people tb_pairs tb_forks tb_unsures tb_trieds tb_fed tb_seat tb_one tb_other tb_years tb_kind tb_unsure tb_may tb_tried tb_name) (some .int) R0.1) args s 0 0 A) (F0 m 84 ls []) := by
    intro x11 hq H locs ls G hl
    subst hq
    have hf := sm_r hf
    refine lv_iconst (v := 0) hx hb dX12_fedMeeting_84 (by decide) ?_
    refine lv_istore_n (lv' := [(3, .int (0 : Int32)), (0, .ref (ad 0)), (2, .int l2)]) hx hb dX12_fedMeeting_85 rfl hl (by decide) rfl (fun ls hl => ?_)
    obtain ⟨x14, hr, hf⟩ := bd_go hf
    have Jx14 : ∀ (H : Heap) (locs : List Loc) (ls : Array Slot), xG s E A (wM E ad m_thrown m_trouble m_where m_rv m_tape m_taped m_size m_spot m_sort m_place m_number m_fault m_wrongAt m_word m_v x14 m_past m_kept m_acts m_images m_matchNow m_slopsNow m_matchesNow m_slopped m_seatBest m_fedBest m_slopsBest m_sawBest m_leastNow m_stableNow m_fitsNow m_someNow m_everyNow m_otherIn m_askLeft tb_seats tb_slack tb_saw tb_quarrel tb_people tb_pairs tb_forks tb_unsures tb_trieds tb_fed tb_seat tb_one tb_other tb_years tb_kind tb_unsure tb_may tb_tried tb_name) H locs → lv_has ls 5 [(0, .ref (ad 0))] → W p l e (xR 5 109) s m args below meth c H locs 0 0 (MQ below (xqI E A (wM E ad m_thrown m_trouble m_where m_rv m_tape m_taped m_size m_spot m_sort m_place m_number m_fault m_wrongAt m_word m_v R0.2.1 m_past m_kept m_acts m_images R0.2.2.1 R0.2.2.2.1 R0.2.2.2.2.1 R0.2.2.2.2.2 m_seatBest m_fedBest m_slopsBest m_sawBest m_leastNow m_stableNow m_fitsNow m_someNow m_everyNow m_otherIn m_askLeft tb_seats tb_slack tb_saw tb_quarrel tb_people tb_pairs tb_forks tb_unsures tb_trieds tb_fed tb_seat tb_one tb_other tb_years tb_kind tb_unsure tb_may tb_tried tb_name) (some .int) R0.1) args s 0 0 A) (F0 m 116 ls []) := by
      intro H locs ls G hl
      refine lv_aload_n hx hb dX12_fedMeeting_116 rfl (lv_at hl 0 rfl) ?_
      obtain ⟨x15, hc, hf⟩ := bd_go hf
      refine xI_V C G (c_M_matching_m_M hc) mX12_matching kX12_366 (wM_at0) rfl ⟨Nat.le_of_ble_eq_true rfl, Nat.le_of_ble_eq_true rfl⟩ rfl hl.1 rfl (Nat.le_of_ble_eq_true rfl) ⟨Nat.le_refl _, Nat.le_refl _⟩ dX12_fedMeeting_117 (fun hz H locs G => ?_)
      obtain rfl := Option.some.inj hf
      exact xI_ret C G rfl dX12_fedMeeting_120
    exact w_M_fedMeeting_m_M_L86 C Jx14 fu _ _ _ _ _ G (lv_sub hl [1, 2, 0] rfl) hr
  have Jrx11 : ∀ r, ox11 = .inl r → r = R0 := by
    intro r hq
    subst hq
    exact Option.some.inj hf
  exact w_M_fedMeeting_m_M_L6 C Jrx11 Jx11 fu _ _ _ _ _ G (lv_sub hl [1, 2, 3, 0] rfl) hr
set_option maxHeartbeats 4000000 in
set_option maxRecDepth 100000 in
theorem w_M_meeting_m_M_L26 {p : Program} {l : Launch} {e : Env} {s : State} {m : MethodId} {args : Array Value} {below : List Frame} {meth : Method} {c : Code} {A : Nat → Prop} {E : xE} {Q : State → Prop} {ad : Nat → Nat} {m_thrown m_trouble m_where m_taped m_size m_spot m_sort m_place m_number m_fault m_wrongAt m_acts m_images m_fedBest m_slopsBest m_sawBest m_leastNow m_stableNow m_fitsNow m_someNow m_everyNow m_askLeft tb_seats tb_slack tb_saw tb_quarrel tb_people tb_pairs tb_forks tb_unsures tb_trieds tb_fed : Int32} {m_rv : Value} {m_tape m_v m_past m_kept m_seatBest m_otherIn tb_seat tb_one tb_other tb_years tb_kind tb_unsure tb_may tb_tried : Nat → Int32} {m_word : Int64} {tb_name : Nat → Int64} {l1 : Int32} {l3 : Int32} {o : Int32 × (Nat → Int32) × Int32 × Int32 × Int32 × (Nat → Int32)} (C : xC p s m args meth c cX12_meeting 5 RX12 E A (some .int)) (J : ∀ (H : Heap) (locs : List Loc) (ls : Array Slot), xG s E A (wM E ad m_thrown m_trouble m_where m_rv m_tape m_taped m_size m_spot m_sort m_place m_number m_fault m_wrongAt m_word m_v o.2.1 m_past m_kept m_acts m_images o.2.2.1 o.2.2.2.1 o.2.2.2.2.1 o.2.2.2.2.2 m_seatBest m_fedBest m_slopsBest m_sawBest m_leastNow m_stableNow m_fitsNow m_someNow m_everyNow m_otherIn m_askLeft tb_seats tb_slack tb_saw tb_quarrel tb_people tb_pairs tb_forks tb_unsures tb_trieds tb_fed tb_seat tb_one tb_other tb_years tb_kind tb_unsure tb_may tb_tried tb_name) H locs → lv_has ls 5 [(2, .int o.1)] → W p l e (xR 6 133) s m args below meth c H locs 0 0 Q (F0 m 83 ls [])) :
    ∀ (n : Nat) (l2 : Int32) (l4 : Int32) (m_x : Nat → Int32) (m_matchNow : Int32) (m_slopsNow : Int32) (m_matchesNow : Int32) (m_slopped : Nat → Int32) (H : Heap) (locs : List Loc) (ls : Array Slot), xG s E A (wM E ad m_thrown m_trouble m_where m_rv m_tape m_taped m_size m_spot m_sort m_place m_number m_fault m_wrongAt m_word m_v m_x m_past m_kept m_acts m_images m_matchNow m_slopsNow m_matchesNow m_slopped m_seatBest m_fedBest m_slopsBest m_sawBest m_leastNow m_stableNow m_fitsNow m_someNow m_everyNow m_otherIn m_askLeft tb_seats tb_slack tb_saw tb_quarrel tb_people tb_pairs tb_forks tb_unsures tb_trieds tb_fed tb_seat tb_one tb_other tb_years tb_kind tb_unsure tb_may tb_tried tb_name) H locs → lv_has ls 5 [(0, .ref (ad 0)), (1, .int l1), (2, .int l2), (3, .int l3), (4, .int l4)] → f_M_meeting_L26 l1 l3 m_v tb_seats tb_slack tb_people n l2 l4 m_x m_matchNow m_slopsNow m_matchesNow m_slopped = some o → W p l e (xR 6 133) s m args below meth c H locs 0 0 Q (F0 m 26 ls []) := by
  have hx := C.1
  have hb := C.2.1
  intro n
  induction n with
  | zero =>
    intro l2 l4 m_x m_matchNow m_slopsNow m_matchesNow m_slopped H locs ls G hl hf
    exact nomatch (show (none : Option (Int32 × (Nat → Int32) × Int32 × Int32 × Int32 × (Nat → Int32))) = some o from hf)
  | succ n ih =>
    intro l2 l4 m_x m_matchNow m_slopsNow m_matchesNow m_slopped H locs ls G hl hf
    rw [f_M_meeting_L26] at hf
    refine lv_iload hx hb dX12_meeting_26 (lv_at hl 4 rfl) ?_
    refine lv_iconst (v := 1) hx hb dX12_meeting_28 (by decide) ?_
    refine lv_iload_n hx hb dX12_meeting_29 rfl (lv_at hl 3 rfl) ?_
    refine lv_ishl hx hb dX12_meeting_30 ?_
    refine lv_icmp_ge (tgt := 83) hx hb dX12_meeting_31 (by decide) (fun h => ?_) (fun h => ?_)
    · have hf := it_t h hf
      obtain rfl := Option.some.inj hf
      exact J _ _ _ G (lv_sub hl [2] rfl)
    · have hf := it_f h hf
      refine lv_iload_n hx hb dX12_meeting_34 rfl (lv_at hl 2 rfl) ?_
      refine lv_bipush (v := -2) hx hb dX12_meeting_35 (by decide) ?_
      obtain ⟨b2, hr, hf⟩ := bd_go hf
      cases b2 with
      | true =>
        have hf := it_t rfl hf
        have J : ∀ (H : Heap) (locs : List Loc), xG s E A (wM E ad m_thrown m_trouble m_where m_rv m_tape m_taped m_size m_spot m_sort m_place m_number m_fault m_wrongAt m_word m_v m_x m_past m_kept m_acts m_images m_matchNow m_slopsNow m_matchesNow m_slopped m_seatBest m_fedBest m_slopsBest m_sawBest m_leastNow m_stableNow m_fitsNow m_someNow m_everyNow m_otherIn m_askLeft tb_seats tb_slack tb_saw tb_quarrel tb_people tb_pairs tb_forks tb_unsures tb_trieds tb_fed tb_seat tb_one tb_other tb_years tb_kind tb_unsure tb_may tb_tried tb_name) H locs → W p l e (xR 6 133) s m args below meth c H locs 0 0 Q (F0 m 55 ls []) := by
          intro H locs G
          refine lv_aload_n hx hb dX12_meeting_55 rfl (lv_at hl 0 rfl) ?_
          refine lv_iload hx hb dX12_meeting_56 (lv_at hl 4 rfl) ?_
          refine lv_iload_n hx hb dX12_meeting_58 rfl (lv_at hl 1 rfl) ?_
          obtain ⟨x3, hc, hf⟩ := bd_go hf
          refine xI_V C G (c_M_fedMeeting_m_M hc) mX12_fedMeeting kX12_424 (wM_at0) rfl ⟨Nat.le_of_ble_eq_true rfl, Nat.le_of_ble_eq_true rfl⟩ rfl hl.1 rfl (Nat.le_of_ble_eq_true rfl) ⟨Nat.le_refl _, Nat.le_refl _⟩ dX12_meeting_59 (fun hz H locs G => ?_)
          refine lv_aload_n hx hb dX12_meeting_62 rfl (lv_at hl 0 rfl) ?_
          refine x_get C G fX12_298.g (wM_at0) rfl dX12_meeting_63 ?_
          refine x_get C G fX12_177.g (wM_at9) rfl dX12_meeting_66 ?_
          refine lv_iconst (v := 1) hx hb dX12_meeting_69 (by decide) ?_
          refine lv_isub hx hb dX12_meeting_70 ?_
          refine lv_icmp_lt (tgt := 77) hx hb dX12_meeting_71 (by decide) (fun h => ?_) (fun h => ?_)
          · have hf := it_t h hf
            obtain ⟨x4, ex4⟩ : ∃ z : Int32, z = l4 + (1 : Int32) := ⟨_, rfl⟩
            have hf := lt_go ex4 hf
            refine lv_iinc (v := x4) (lv' := [(4, .int x4), (0, .ref (ad 0)), (1, .int l1), (2, .int l2), (3, .int l3)]) hx hb dX12_meeting_77 hl (k := 4) rfl (by rw [ex4]; rfl) (by decide) rfl (fun ls hl => ?_)
            refine lv_goto (tgt := 26) hx hb dX12_meeting_80 (by decide) ?_
            exact ih l2 x4 x3.2.1 x3.2.2.1 x3.2.2.2.1 x3.2.2.2.2.1 x3.2.2.2.2.2 _ _ _ G (lv_sub hl [1, 2, 3, 4, 0] rfl) hf
          · have hf := it_f h hf
            refine lv_iload hx hb dX12_meeting_74 (lv_at hl 4 rfl) ?_
            refine lv_istore_n (lv' := [(2, .int l4), (0, .ref (ad 0)), (1, .int l1), (3, .int l3), (4, .int l4)]) hx hb dX12_meeting_76 rfl hl (by decide) rfl (fun ls hl => ?_)
            obtain ⟨x5, ex5⟩ : ∃ z : Int32, z = l4 + (1 : Int32) := ⟨_, rfl⟩
            have hf := lt_go ex5 hf
            refine lv_iinc (v := x5) (lv' := [(4, .int x5), (2, .int l4), (0, .ref (ad 0)), (1, .int l1), (3, .int l3)]) hx hb dX12_meeting_77 hl (k := 4) rfl (by rw [ex5]; rfl) (by decide) rfl (fun ls hl => ?_)
            refine lv_goto (tgt := 26) hx hb dX12_meeting_80 (by decide) ?_
            exact ih l4 x5 x3.2.1 x3.2.2.1 x3.2.2.2.1 x3.2.2.2.2.1 x3.2.2.2.2.2 _ _ _ G (lv_sub hl [2, 3, 1, 4, 0] rfl) hf
        have hf := hr
        clear hr
        refine lv_icmp_eq (tgt := 55) hx hb dX12_meeting_37 (by decide) (fun h => ?_) (fun h => ?_)
        · have hf := it_t h hf
          exact J _ _ G
        · have hf := it_f h hf
          refine lv_iload hx hb dX12_meeting_40 (lv_at hl 4 rfl) ?_
          obtain ⟨x6, hc, hf⟩ := bd_go hf
          refine xI_S C G (c_M_bits_any hc) mX12_bits kX12_234 ⟨Nat.le_of_ble_eq_true rfl, Nat.le_of_ble_eq_true rfl⟩ rfl hl.1 rfl (Nat.le_of_ble_eq_true rfl) ⟨Nat.le_refl _, Nat.le_refl _⟩ dX12_meeting_42 (fun hz H locs G => ?_)
          refine lv_iload_n hx hb dX12_meeting_45 rfl (lv_at hl 2 rfl) ?_
          obtain ⟨x7, hc, hf⟩ := bd_go hf
          refine xI_S C G (c_M_bits_any hc) mX12_bits kX12_234 ⟨Nat.le_of_ble_eq_true rfl, Nat.le_of_ble_eq_true rfl⟩ rfl hl.1 rfl (Nat.le_of_ble_eq_true rfl) ⟨Nat.le_refl _, Nat.le_refl _⟩ dX12_meeting_46 (fun hz H locs G => ?_)
          refine lv_icmp_lt (tgt := 55) hx hb dX12_meeting_49 (by decide) (fun h => ?_) (fun h => ?_)
          · have hf := it_t h hf
            exact J _ _ G
          · have hf := it_f h hf
            exact absurd (Option.some.inj hf) (by decide)
      | false =>
        have hf := it_f (by decide) hf
        have J : ∀ (H : Heap) (locs : List Loc), xG s E A (wM E ad m_thrown m_trouble m_where m_rv m_tape m_taped m_size m_spot m_sort m_place m_number m_fault m_wrongAt m_word m_v m_x m_past m_kept m_acts m_images m_matchNow m_slopsNow m_matchesNow m_slopped m_seatBest m_fedBest m_slopsBest m_sawBest m_leastNow m_stableNow m_fitsNow m_someNow m_everyNow m_otherIn m_askLeft tb_seats tb_slack tb_saw tb_quarrel tb_people tb_pairs tb_forks tb_unsures tb_trieds tb_fed tb_seat tb_one tb_other tb_years tb_kind tb_unsure tb_may tb_tried tb_name) H locs → W p l e (xR 6 133) s m args below meth c H locs 0 0 Q (F0 m 52 ls []) := by
          intro H locs G
          refine lv_goto (tgt := 77) hx hb dX12_meeting_52 (by decide) ?_
          obtain ⟨x8, ex8⟩ : ∃ z : Int32, z = l4 + (1 : Int32) := ⟨_, rfl⟩
          have hf := lt_go ex8 hf
          refine lv_iinc (v := x8) (lv' := [(4, .int x8), (0, .ref (ad 0)), (1, .int l1), (2, .int l2), (3, .int l3)]) hx hb dX12_meeting_77 hl (k := 4) rfl (by rw [ex8]; rfl) (by decide) rfl (fun ls hl => ?_)
          refine lv_goto (tgt := 26) hx hb dX12_meeting_80 (by decide) ?_
          exact ih l2 x8 m_x m_matchNow m_slopsNow m_matchesNow m_slopped _ _ _ G (lv_sub hl [1, 2, 3, 4, 0] rfl) hf
        have hf := hr
        clear hr
        refine lv_icmp_eq (tgt := 55) hx hb dX12_meeting_37 (by decide) (fun h => ?_) (fun h => ?_)
        · have hf := it_t h hf
          exact absurd (Option.some.inj hf) (by decide)
        · have hf := it_f h hf
          refine lv_iload hx hb dX12_meeting_40 (lv_at hl 4 rfl) ?_
          obtain ⟨x9, hc, hf⟩ := bd_go hf
          refine xI_S C G (c_M_bits_any hc) mX12_bits kX12_234 ⟨Nat.le_of_ble_eq_true rfl, Nat.le_of_ble_eq_true rfl⟩ rfl hl.1 rfl (Nat.le_of_ble_eq_true rfl) ⟨Nat.le_refl _, Nat.le_refl _⟩ dX12_meeting_42 (fun hz H locs G => ?_)
          refine lv_iload_n hx hb dX12_meeting_45 rfl (lv_at hl 2 rfl) ?_
          obtain ⟨x10, hc, hf⟩ := bd_go hf
          refine xI_S C G (c_M_bits_any hc) mX12_bits kX12_234 ⟨Nat.le_of_ble_eq_true rfl, Nat.le_of_ble_eq_true rfl⟩ rfl hl.1 rfl (Nat.le_of_ble_eq_true rfl) ⟨Nat.le_refl _, Nat.le_refl _⟩ dX12_meeting_46 (fun hz H locs G => ?_)
          refine lv_icmp_lt (tgt := 55) hx hb dX12_meeting_49 (by decide) (fun h => ?_) (fun h => ?_)
          · have hf := it_t h hf
            exact absurd (Option.some.inj hf) (by decide)
          · have hf := it_f h hf
            exact J _ _ G
set_option maxHeartbeats 4000000 in
set_option maxRecDepth 100000 in
theorem c_M_meeting_m_M {l : Launch} {E : xE} {ad : Nat → Nat} {m_thrown m_trouble m_where m_taped m_size m_spot m_sort m_place m_number m_fault m_wrongAt m_acts m_images m_matchNow m_slopsNow m_matchesNow m_fedBest m_slopsBest m_sawBest m_leastNow m_stableNow m_fitsNow m_someNow m_everyNow m_askLeft tb_seats tb_slack tb_saw tb_quarrel tb_people tb_pairs tb_forks tb_unsures tb_trieds tb_fed : Int32} {m_rv : Value} {m_tape m_v m_x m_past m_kept m_slopped m_seatBest m_otherIn tb_seat tb_one tb_other tb_years tb_kind tb_unsure tb_may tb_tried : Nat → Int32} {m_word : Int64} {tb_name : Nat → Int64} {l1 : Int32} {R0 : Int32 × (Nat → Int32) × Int32 × Int32 × Int32 × (Nat → Int32)} (hf : f_M_meeting l1 m_v m_x m_matchNow m_slopsNow m_matchesNow m_slopped tb_seats tb_slack tb_people = some R0) : xI l E yX12_meeting cX12_meeting 5 (some .int) 6 133 [.ref (ad 0), .int l1] (wM E ad m_thrown m_trouble m_where m_rv m_tape m_taped m_size m_spot m_sort m_place m_number m_fault m_wrongAt m_word m_v m_x m_past m_kept m_acts m_images m_matchNow m_slopsNow m_matchesNow m_slopped m_seatBest m_fedBest m_slopsBest m_sawBest m_leastNow m_stableNow m_fitsNow m_someNow m_everyNow m_otherIn m_askLeft tb_seats tb_slack tb_saw tb_quarrel tb_people tb_pairs tb_forks tb_unsures tb_trieds tb_fed tb_seat tb_one tb_other tb_years tb_kind tb_unsure tb_may tb_tried tb_name) (wM E ad m_thrown m_trouble m_where m_rv m_tape m_taped m_size m_spot m_sort m_place m_number m_fault m_wrongAt m_word m_v R0.2.1 m_past m_kept m_acts m_images R0.2.2.1 R0.2.2.2.1 R0.2.2.2.2.1 R0.2.2.2.2.2 m_seatBest m_fedBest m_slopsBest m_sawBest m_leastNow m_stableNow m_fitsNow m_someNow m_everyNow m_otherIn m_askLeft tb_seats tb_slack tb_saw tb_quarrel tb_people tb_pairs tb_forks tb_unsures tb_trieds tb_fed tb_seat tb_one tb_other tb_years tb_kind tb_unsure tb_may tb_tried tb_name) R0.1 := by
  refine xI_of (by decide) (Nat.le_of_ble_eq_true rfl) (fun p e s m args below meth c A C ls hl G => ?_)
  have hx := C.1
  have hb := C.2.1
  have hl : lv_has ls 5 [(0, .ref (ad 0)), (1, .int l1)] := hl
  unfold f_M_meeting at hf
  refine lv_bipush (v := -2) hx hb dX12_meeting_0 (by decide) ?_
  refine lv_istore_n (lv' := [(2, .int (-2 : Int32)), (0, .ref (ad 0)), (1, .int l1)]) hx hb dX12_meeting_2 rfl hl (by decide) rfl (fun ls hl => ?_)
  refine lv_aload_n hx hb dX12_meeting_3 rfl (lv_at hl 1 rfl) ?_
  refine x_get C G fX12_298.g (wM_at0) rfl dX12_meeting_4 ?_
  refine x_get C G fX12_177.g (wM_at9) rfl dX12_meeting_7 ?_
  refine lv_aload_n hx hb dX12_meeting_10 rfl (lv_at hl 1 rfl) ?_
  refine x_get C G fX12_298.g (wM_at0) rfl dX12_meeting_11 ?_
  refine x_get C G fX12_177.g (wM_at9) rfl dX12_meeting_14 ?_
  refine lv_iconst (v := 1) hx hb dX12_meeting_17 (by decide) ?_
  refine lv_isub hx hb dX12_meeting_18 ?_
  refine lv_imul hx hb dX12_meeting_19 ?_
  refine lv_iconst (v := 2) hx hb dX12_meeting_20 (by decide) ?_
  refine lv_idiv hx hb dX12_meeting_21 (by decide) ?_
  refine lv_topi (fun x1 ex1 => ?_)
  have hf := lt_go ex1 hf
  refine lv_istore_n (lv' := [(3, .int x1), (2, .int (-2 : Int32)), (0, .ref (ad 0)), (1, .int l1)]) hx hb dX12_meeting_22 rfl hl (by decide) rfl (fun ls hl => ?_)
  refine lv_iconst (v := 0) hx hb dX12_meeting_23 (by decide) ?_
  refine lv_istore (lv' := [(4, .int (0 : Int32)), (3, .int x1), (2, .int (-2 : Int32)), (0, .ref (ad 0)), (1, .int l1)]) hx hb dX12_meeting_24 hl (by decide) rfl (fun ls hl => ?_)
  obtain ⟨x11, hr, hf⟩ := bd_go hf
  have Jx11 : ∀ (H : Heap) (locs : List Loc) (ls : Array Slot), xG s E A (wM E ad m_thrown m_trouble m_where m_rv m_tape m_taped m_size m_spot m_sort m_place m_number m_fault m_wrongAt m_word m_v x11.2.1 m_past m_kept m_acts m_images x11.2.2.1 x11.2.2.2.1 x11.2.2.2.2.1 x11.2.2.2.2.2 m_seatBest m_fedBest m_slopsBest m_sawBest m_leastNow m_stableNow m_fitsNow m_someNow m_everyNow m_otherIn m_askLeft tb_seats tb_slack tb_saw tb_quarrel tb_people tb_pairs tb_forks tb_unsures tb_trieds tb_fed tb_seat tb_one tb_other tb_years tb_kind tb_unsure tb_may tb_tried tb_name) H locs → lv_has ls 5 [(2, .int x11.1)] → W p l e (xR 6 133) s m args below meth c H locs 0 0 (MQ below (xqI E A (wM E ad m_thrown m_trouble m_where m_rv m_tape m_taped m_size m_spot m_sort m_place m_number m_fault m_wrongAt m_word m_v R0.2.1 m_past m_kept m_acts m_images R0.2.2.1 R0.2.2.2.1 R0.2.2.2.2.1 R0.2.2.2.2.2 m_seatBest m_fedBest m_slopsBest m_sawBest m_leastNow m_stableNow m_fitsNow m_someNow m_everyNow m_otherIn m_askLeft tb_seats tb_slack tb_saw tb_quarrel tb_people tb_pairs tb_forks tb_unsures tb_trieds tb_fed tb_seat tb_one tb_other tb_years tb_kind tb_unsure tb_may tb_tried tb_name) (some .int) R0.1) args s 0 0 A) (F0 m 83 ls []) := by
    intro H locs ls G hl
    refine lv_iload_n hx hb dX12_meeting_83 rfl (lv_at hl 0 rfl) ?_
    obtain rfl := Option.some.inj hf
    exact xI_ret C G rfl dX12_meeting_84
  exact w_M_meeting_m_M_L26 C Jx11 fu _ _ _ _ _ _ _ _ _ _ G (lv_sub hl [3, 4, 2, 1, 0] rfl) hr
set_option maxHeartbeats 4000000 in
set_option maxRecDepth 100000 in
theorem c_M_meet_m_M {l : Launch} {E : xE} {ad : Nat → Nat} {m_thrown m_trouble m_where m_taped m_size m_spot m_sort m_place m_number m_fault m_wrongAt m_acts m_images m_matchNow m_slopsNow m_matchesNow m_fedBest m_slopsBest m_sawBest m_leastNow m_stableNow m_fitsNow m_someNow m_everyNow m_askLeft tb_seats tb_slack tb_saw tb_quarrel tb_people tb_pairs tb_forks tb_unsures tb_trieds tb_fed : Int32} {m_rv : Value} {m_tape m_v m_x m_past m_kept m_slopped m_seatBest m_otherIn tb_seat tb_one tb_other tb_years tb_kind tb_unsure tb_may tb_tried : Nat → Int32} {m_word : Int64} {tb_name : Nat → Int64} {l1 : Int32} {R0 : Int32 × Int32 × Int32 × Int32 × (Nat → Int32) × Int32 × Int32 × Int32 × (Nat → Int32)} (hf : f_M_meet l1 m_v m_x m_matchNow m_slopsNow m_matchesNow m_slopped tb_seats tb_slack tb_people = some R0) : xI l E yX12_meet cX12_meet 4 (some .int) 7 157 [.ref (ad 0), .int l1] (wM E ad m_thrown m_trouble m_where m_rv m_tape m_taped m_size m_spot m_sort m_place m_number m_fault m_wrongAt m_word m_v m_x m_past m_kept m_acts m_images m_matchNow m_slopsNow m_matchesNow m_slopped m_seatBest m_fedBest m_slopsBest m_sawBest m_leastNow m_stableNow m_fitsNow m_someNow m_everyNow m_otherIn m_askLeft tb_seats tb_slack tb_saw tb_quarrel tb_people tb_pairs tb_forks tb_unsures tb_trieds tb_fed tb_seat tb_one tb_other tb_years tb_kind tb_unsure tb_may tb_tried tb_name) (wM E ad R0.2.1 R0.2.2.1 R0.2.2.2.1 m_rv m_tape m_taped m_size m_spot m_sort m_place m_number m_fault m_wrongAt m_word m_v R0.2.2.2.2.1 m_past m_kept m_acts m_images R0.2.2.2.2.2.1 R0.2.2.2.2.2.2.1 R0.2.2.2.2.2.2.2.1 R0.2.2.2.2.2.2.2.2 m_seatBest m_fedBest m_slopsBest m_sawBest m_leastNow m_stableNow m_fitsNow m_someNow m_everyNow m_otherIn m_askLeft tb_seats tb_slack tb_saw tb_quarrel tb_people tb_pairs tb_forks tb_unsures tb_trieds tb_fed tb_seat tb_one tb_other tb_years tb_kind tb_unsure tb_may tb_tried tb_name) R0.1 := by
  refine xI_of (by decide) (Nat.le_of_ble_eq_true rfl) (fun p e s m args below meth c A C ls hl G => ?_)
  have hx := C.1
  have hb := C.2.1
  have hl : lv_has ls 4 [(0, .ref (ad 0)), (1, .int l1)] := hl
  unfold f_M_meet at hf
  refine lv_aload_n hx hb dX12_meet_0 rfl (lv_at hl 0 rfl) ?_
  refine lv_iconst (v := 0) hx hb dX12_meet_1 (by decide) ?_
  refine x_put (ws' := (wM E ad (0 : Int32) m_trouble m_where m_rv m_tape m_taped m_size m_spot m_sort m_place m_number m_fault m_wrongAt m_word m_v m_x m_past m_kept m_acts m_images m_matchNow m_slopsNow m_matchesNow m_slopped m_seatBest m_fedBest m_slopsBest m_sawBest m_leastNow m_stableNow m_fitsNow m_someNow m_everyNow m_otherIn m_askLeft tb_seats tb_slack tb_saw tb_quarrel tb_people tb_pairs tb_forks tb_unsures tb_trieds tb_fed tb_seat tb_one tb_other tb_years tb_kind tb_unsure tb_may tb_tried tb_name)) C G fX12_39 (wM_at0) rfl rfl (Nat.le_of_ble_eq_true rfl) wM_set_m_thrown dX12_meet_2 (fun H locs G => ?_)
  refine lv_aload_n hx hb dX12_meet_5 rfl (lv_at hl 0 rfl) ?_
  refine lv_aload_n hx hb dX12_meet_6 rfl (lv_at hl 0 rfl) ?_
  refine x_get C G fX12_298.g (wM_at0) rfl dX12_meet_7 ?_
  refine lv_ifnull hx hb dX12_meet_10 ?_
  refine lv_iconst (v := 1) hx hb dX12_meet_13 (by decide) ?_
  refine lv_goto (tgt := 18) hx hb dX12_meet_14 (by decide) ?_
  refine lv_iload_n hx hb dX12_meet_18 rfl (lv_at hl 1 rfl) ?_
  obtain ⟨x1, hc, hf⟩ := bd_go hf
  refine xI_V C G (c_M_refusesYears_m_M hc) mX12_refusesYears kX12_372 (wM_at0) rfl ⟨Nat.le_of_ble_eq_true rfl, Nat.le_of_ble_eq_true rfl⟩ rfl hl.1 rfl (Nat.le_of_ble_eq_true rfl) ⟨Nat.le_refl _, Nat.le_refl _⟩ dX12_meet_19 (fun hz H locs G => ?_)
  refine lv_istore_n (lv' := [(2, .int x1), (0, .ref (ad 0)), (1, .int l1)]) hx hb dX12_meet_22 rfl hl (by decide) rfl (fun ls hl => ?_)
  refine lv_iload_n hx hb dX12_meet_23 rfl (lv_at hl 0 rfl) ?_
  refine lv_if_le (tgt := 33) hx hb dX12_meet_24 (by decide) (fun h => ?_) (fun h => ?_)
  · have hf := it_t h hf
    refine lv_aload_n hx hb dX12_meet_33 rfl (lv_at hl 1 rfl) ?_
    refine lv_iload_n hx hb dX12_meet_34 rfl (lv_at hl 2 rfl) ?_
    obtain ⟨x2, hc, hf⟩ := bd_go hf
    refine xI_V C G (c_M_meeting_m_M hc) mX12_meeting kX12_427 (wM_at0) rfl ⟨Nat.le_of_ble_eq_true rfl, Nat.le_of_ble_eq_true rfl⟩ rfl hl.1 rfl (Nat.le_of_ble_eq_true rfl) ⟨Nat.le_refl _, Nat.le_refl _⟩ dX12_meet_35 (fun hz H locs G => ?_)
    refine lv_istore_n (lv' := [(3, .int x2.1), (2, .int x1), (0, .ref (ad 0)), (1, .int l1)]) hx hb dX12_meet_38 rfl hl (by decide) rfl (fun ls hl => ?_)
    refine lv_aload_n hx hb dX12_meet_39 rfl (lv_at hl 2 rfl) ?_
    refine lv_iload_n hx hb dX12_meet_40 rfl (lv_at hl 0 rfl) ?_
    refine lv_bipush (v := -2) hx hb dX12_meet_41 (by decide) ?_
    obtain ⟨x3, hrx3, hf⟩ := bd_go hf
    have Jx3 : ∀ (H : Heap) (locs : List Loc) (ls : Array Slot), xG s E A (wM E ad (0 : Int32) m_trouble m_where m_rv m_tape m_taped m_size m_spot m_sort m_place m_number m_fault m_wrongAt m_word m_v x2.2.1 m_past m_kept m_acts m_images x2.2.2.1 x2.2.2.2.1 x2.2.2.2.2.1 x2.2.2.2.2.2 m_seatBest m_fedBest m_slopsBest m_sawBest m_leastNow m_stableNow m_fitsNow m_someNow m_everyNow m_otherIn m_askLeft tb_seats tb_slack tb_saw tb_quarrel tb_people tb_pairs tb_forks tb_unsures tb_trieds tb_fed tb_seat tb_one tb_other tb_years tb_kind tb_unsure tb_may tb_tried tb_name) H locs → lv_has ls 4 [] → W p l e (xR 7 157) s m args below meth c H locs 0 0 (MQ below (xqI E A (wM E ad R0.2.1 R0.2.2.1 R0.2.2.2.1 m_rv m_tape m_taped m_size m_spot m_sort m_place m_number m_fault m_wrongAt m_word m_v R0.2.2.2.2.1 m_past m_kept m_acts m_images R0.2.2.2.2.2.1 R0.2.2.2.2.2.2.1 R0.2.2.2.2.2.2.2.1 R0.2.2.2.2.2.2.2.2 m_seatBest m_fedBest m_slopsBest m_sawBest m_leastNow m_stableNow m_fitsNow m_someNow m_everyNow m_otherIn m_askLeft tb_seats tb_slack tb_saw tb_quarrel tb_people tb_pairs tb_forks tb_unsures tb_trieds tb_fed tb_seat tb_one tb_other tb_years tb_kind tb_unsure tb_may tb_tried tb_name) (some .int) R0.1) args s 0 0 A) (F0 m 55 ls [.int x3, .ref (ad 0)]) := by
      intro H locs ls G hl
      obtain ⟨x4, hc, hf⟩ := bd_go hf
      refine xI_V C G (c_M_good_m_M hc) mX12_good kX12_49 (wM_at0) rfl ⟨Nat.le_of_ble_eq_true rfl, Nat.le_of_ble_eq_true rfl⟩ rfl hl.1 rfl (Nat.le_of_ble_eq_true rfl) ⟨Nat.le_refl _, Nat.le_refl _⟩ dX12_meet_55 (fun hz H locs G => ?_)
      obtain rfl := Option.some.inj hf
      exact xI_ret C G rfl dX12_meet_58
    have hf := hrx3
    refine lv_icmp_ne (tgt := 51) hx hb dX12_meet_43 (by decide) (fun h => ?_) (fun h => ?_)
    · have hf := it_f h hf
      refine lv_iload_n hx hb dX12_meet_51 rfl (lv_at hl 0 rfl) ?_
      obtain ⟨x5, hc, hf⟩ := bd_go hf
      refine xI_S C G (c_M_bits_any hc) mX12_bits kX12_234 ⟨Nat.le_of_ble_eq_true rfl, Nat.le_of_ble_eq_true rfl⟩ rfl hl.1 rfl (Nat.le_of_ble_eq_true rfl) ⟨Nat.le_refl _, Nat.le_refl _⟩ dX12_meet_52 (fun hz H locs G => ?_)
      obtain rfl := Option.some.inj hf
      exact Jx3 _ _ _ G (lv_sub hl [] rfl)
    · have hf := it_t h hf
      refine lv_bipush (v := -2) hx hb dX12_meet_46 (by decide) ?_
      refine lv_goto (tgt := 55) hx hb dX12_meet_48 (by decide) ?_
      obtain rfl := Option.some.inj hf
      exact Jx3 _ _ _ G (lv_sub hl [] rfl)
  · have hf := it_f h hf
    refine lv_aload_n hx hb dX12_meet_27 rfl (lv_at hl 1 rfl) ?_
    refine lv_iload_n hx hb dX12_meet_28 rfl (lv_at hl 0 rfl) ?_
    obtain ⟨x6, hc, hf⟩ := bd_go hf
    refine xI_V C G (c_M_refused_m_M hc) mX12_refused kX12_45 (wM_at0) rfl ⟨Nat.le_of_ble_eq_true rfl, Nat.le_of_ble_eq_true rfl⟩ rfl hl.1 rfl (Nat.le_of_ble_eq_true rfl) ⟨Nat.le_refl _, Nat.le_refl _⟩ dX12_meet_29 (fun hz H locs G => ?_)
    obtain rfl := Option.some.inj hf
    exact xI_ret C G rfl dX12_meet_32
set_option maxHeartbeats 4000000 in
set_option maxRecDepth 100000 in
theorem c_M_meetAt_m_M {l : Launch} {E : xE} {ad : Nat → Nat} {m_thrown m_trouble m_where m_taped m_size m_spot m_sort m_place m_number m_fault m_wrongAt m_acts m_images m_matchNow m_slopsNow m_matchesNow m_fedBest m_slopsBest m_sawBest m_leastNow m_stableNow m_fitsNow m_someNow m_everyNow m_askLeft tb_seats tb_slack tb_saw tb_quarrel tb_people tb_pairs tb_forks tb_unsures tb_trieds tb_fed : Int32} {m_rv : Value} {m_tape m_v m_x m_past m_kept m_slopped m_seatBest m_otherIn tb_seat tb_one tb_other tb_years tb_kind tb_unsure tb_may tb_tried : Nat → Int32} {m_word : Int64} {tb_name : Nat → Int64} {l1 : Int32} {R0 : Int32 × Int32 × Int32 × Int32 × (Nat → Int32) × Int32 × Int32 × Int32 × (Nat → Int32)} (hf : f_M_meetAt l1 m_v m_x m_matchNow m_slopsNow m_matchesNow m_slopped tb_seats tb_slack tb_people = some R0) : xI l E yX12_meetAt cX12_meetAt 3 (some .int) 7 157 [.ref (ad 0), .int l1] (wM E ad m_thrown m_trouble m_where m_rv m_tape m_taped m_size m_spot m_sort m_place m_number m_fault m_wrongAt m_word m_v m_x m_past m_kept m_acts m_images m_matchNow m_slopsNow m_matchesNow m_slopped m_seatBest m_fedBest m_slopsBest m_sawBest m_leastNow m_stableNow m_fitsNow m_someNow m_everyNow m_otherIn m_askLeft tb_seats tb_slack tb_saw tb_quarrel tb_people tb_pairs tb_forks tb_unsures tb_trieds tb_fed tb_seat tb_one tb_other tb_years tb_kind tb_unsure tb_may tb_tried tb_name) (wM E ad R0.2.1 R0.2.2.1 R0.2.2.2.1 m_rv m_tape m_taped m_size m_spot m_sort m_place m_number m_fault m_wrongAt m_word m_v R0.2.2.2.2.1 m_past m_kept m_acts m_images R0.2.2.2.2.2.1 R0.2.2.2.2.2.2.1 R0.2.2.2.2.2.2.2.1 R0.2.2.2.2.2.2.2.2 m_seatBest m_fedBest m_slopsBest m_sawBest m_leastNow m_stableNow m_fitsNow m_someNow m_everyNow m_otherIn m_askLeft tb_seats tb_slack tb_saw tb_quarrel tb_people tb_pairs tb_forks tb_unsures tb_trieds tb_fed tb_seat tb_one tb_other tb_years tb_kind tb_unsure tb_may tb_tried tb_name) R0.1 := by
  refine xI_of (by decide) (Nat.le_of_ble_eq_true rfl) (fun p e s m args below meth c A C ls hl G => ?_)
  have hx := C.1
  have hb := C.2.1
  have hl : lv_has ls 3 [(0, .ref (ad 0)), (1, .int l1)] := hl
  unfold f_M_meetAt at hf
  refine lv_aload_n hx hb dX12_meetAt_0 rfl (lv_at hl 0 rfl) ?_
  refine lv_iconst (v := 0) hx hb dX12_meetAt_1 (by decide) ?_
  refine x_put (ws' := (wM E ad (0 : Int32) m_trouble m_where m_rv m_tape m_taped m_size m_spot m_sort m_place m_number m_fault m_wrongAt m_word m_v m_x m_past m_kept m_acts m_images m_matchNow m_slopsNow m_matchesNow m_slopped m_seatBest m_fedBest m_slopsBest m_sawBest m_leastNow m_stableNow m_fitsNow m_someNow m_everyNow m_otherIn m_askLeft tb_seats tb_slack tb_saw tb_quarrel tb_people tb_pairs tb_forks tb_unsures tb_trieds tb_fed tb_seat tb_one tb_other tb_years tb_kind tb_unsure tb_may tb_tried tb_name)) C G fX12_39 (wM_at0) rfl rfl (Nat.le_of_ble_eq_true rfl) wM_set_m_thrown dX12_meetAt_2 (fun H locs G => ?_)
  refine lv_aload_n hx hb dX12_meetAt_5 rfl (lv_at hl 0 rfl) ?_
  refine lv_aload_n hx hb dX12_meetAt_6 rfl (lv_at hl 0 rfl) ?_
  refine x_get C G fX12_298.g (wM_at0) rfl dX12_meetAt_7 ?_
  refine lv_ifnull hx hb dX12_meetAt_10 ?_
  refine lv_iconst (v := 1) hx hb dX12_meetAt_13 (by decide) ?_
  refine lv_goto (tgt := 18) hx hb dX12_meetAt_14 (by decide) ?_
  refine lv_iload_n hx hb dX12_meetAt_18 rfl (lv_at hl 1 rfl) ?_
  obtain ⟨x1, hc, hf⟩ := bd_go hf
  refine xI_V C G (c_M_refusesYears_m_M hc) mX12_refusesYears kX12_372 (wM_at0) rfl ⟨Nat.le_of_ble_eq_true rfl, Nat.le_of_ble_eq_true rfl⟩ rfl hl.1 rfl (Nat.le_of_ble_eq_true rfl) ⟨Nat.le_refl _, Nat.le_refl _⟩ dX12_meetAt_19 (fun hz H locs G => ?_)
  refine lv_istore_n (lv' := [(2, .int x1), (0, .ref (ad 0)), (1, .int l1)]) hx hb dX12_meetAt_22 rfl hl (by decide) rfl (fun ls hl => ?_)
  refine lv_iload_n hx hb dX12_meetAt_23 rfl (lv_at hl 0 rfl) ?_
  refine lv_if_le (tgt := 35) hx hb dX12_meetAt_24 (by decide) (fun h => ?_) (fun h => ?_)
  · have hf := it_t h hf
    refine lv_aload_n hx hb dX12_meetAt_35 rfl (lv_at hl 1 rfl) ?_
    refine lv_aload_n hx hb dX12_meetAt_36 rfl (lv_at hl 1 rfl) ?_
    refine lv_iload_n hx hb dX12_meetAt_37 rfl (lv_at hl 2 rfl) ?_
    obtain ⟨x2, hc, hf⟩ := bd_go hf
    refine xI_V C G (c_M_meeting_m_M hc) mX12_meeting kX12_427 (wM_at0) rfl ⟨Nat.le_of_ble_eq_true rfl, Nat.le_of_ble_eq_true rfl⟩ rfl hl.1 rfl (Nat.le_of_ble_eq_true rfl) ⟨Nat.le_refl _, Nat.le_refl _⟩ dX12_meetAt_38 (fun hz H locs G => ?_)
    obtain ⟨x3, hc, hf⟩ := bd_go hf
    refine xI_V C G (c_M_good_m_M hc) mX12_good kX12_49 (wM_at0) rfl ⟨Nat.le_of_ble_eq_true rfl, Nat.le_of_ble_eq_true rfl⟩ rfl hl.1 rfl (Nat.le_of_ble_eq_true rfl) ⟨Nat.le_refl _, Nat.le_refl _⟩ dX12_meetAt_41 (fun hz H locs G => ?_)
    obtain rfl := Option.some.inj hf
    exact xI_ret C G rfl dX12_meetAt_44
  · have hf := it_f h hf
    refine lv_aload_n hx hb dX12_meetAt_27 rfl (lv_at hl 1 rfl) ?_
    refine lv_iload_n hx hb dX12_meetAt_28 rfl (lv_at hl 0 rfl) ?_
    obtain ⟨x4, hc, hf⟩ := bd_go hf
    refine xI_V C G (c_M_refused_m_M hc) mX12_refused kX12_45 (wM_at0) rfl ⟨Nat.le_of_ble_eq_true rfl, Nat.le_of_ble_eq_true rfl⟩ rfl hl.1 rfl (Nat.le_of_ble_eq_true rfl) ⟨Nat.le_refl _, Nat.le_refl _⟩ dX12_meetAt_29 (fun hz H locs G => ?_)
    refine lv_goto (tgt := 44) hx hb dX12_meetAt_32 (by decide) ?_
    obtain rfl := Option.some.inj hf
    exact xI_ret C G rfl dX12_meetAt_44
set_option maxHeartbeats 4000000 in
set_option maxRecDepth 100000 in
theorem w_M_isMatch_m_M_L36 {p : Program} {l : Launch} {e : Env} {s : State} {m : MethodId} {args : Array Value} {below : List Frame} {meth : Method} {c : Code} {A : Nat → Prop} {E : xE} {ad : Nat → Nat} {m_thrown m_trouble m_where m_taped m_size m_spot m_sort m_place m_number m_fault m_wrongAt m_acts m_images m_matchNow m_slopsNow m_matchesNow m_fedBest m_slopsBest m_sawBest m_leastNow m_stableNow m_fitsNow m_someNow m_everyNow m_askLeft tb_seats tb_slack tb_saw tb_quarrel tb_people tb_pairs tb_forks tb_unsures tb_trieds tb_fed : Int32} {m_rv : Value} {m_tape m_v m_x m_past m_kept m_slopped m_seatBest m_otherIn tb_seat tb_one tb_other tb_years tb_kind tb_unsure tb_may tb_tried : Nat → Int32} {m_word : Int64} {tb_name : Nat → Int64} {l1 : Int32} {l2 : Int32} {o : (Int32) ⊕ (Unit)} {R0 : Int32} (C : xC p s m args meth c cX12_isMatch 4 RX12 E A (some .boolean)) (Jr : ∀ r, o = .inl r → r = R0) (J : ∀ t, o = .inr t → ∀ (H : Heap) (locs : List Loc) (ls : Array Slot), xG s E A (wM E ad m_thrown m_trouble m_where m_rv m_tape m_taped m_size m_spot m_sort m_place m_number m_fault m_wrongAt m_word m_v m_x m_past m_kept m_acts m_images m_matchNow m_slopsNow m_matchesNow m_slopped m_seatBest m_fedBest m_slopsBest m_sawBest m_leastNow m_stableNow m_fitsNow m_someNow m_everyNow m_otherIn m_askLeft tb_seats tb_slack tb_saw tb_quarrel tb_people tb_pairs tb_forks tb_unsures tb_trieds tb_fed tb_seat tb_one tb_other tb_years tb_kind tb_unsure tb_may tb_tried tb_name) H locs → lv_has ls 4 [(0, .ref (ad 0)), (1, .int l1), (2, .int l2)] → W p l e (xR 4 87) s m args below meth c H locs 0 0 (MQ below (xqI E A (wM E ad m_thrown m_trouble m_where m_rv m_tape m_taped m_size m_spot m_sort m_place m_number m_fault m_wrongAt m_word m_v m_x m_past m_kept m_acts m_images m_matchNow m_slopsNow m_matchesNow m_slopped m_seatBest m_fedBest m_slopsBest m_sawBest m_leastNow m_stableNow m_fitsNow m_someNow m_everyNow m_otherIn m_askLeft tb_seats tb_slack tb_saw tb_quarrel tb_people tb_pairs tb_forks tb_unsures tb_trieds tb_fed tb_seat tb_one tb_other tb_years tb_kind tb_unsure tb_may tb_tried tb_name) (some .boolean) R0) args s 0 0 A) (F0 m 66 ls [])) :
    ∀ (n : Nat) (l3 : Int32) (H : Heap) (locs : List Loc) (ls : Array Slot), xG s E A (wM E ad m_thrown m_trouble m_where m_rv m_tape m_taped m_size m_spot m_sort m_place m_number m_fault m_wrongAt m_word m_v m_x m_past m_kept m_acts m_images m_matchNow m_slopsNow m_matchesNow m_slopped m_seatBest m_fedBest m_slopsBest m_sawBest m_leastNow m_stableNow m_fitsNow m_someNow m_everyNow m_otherIn m_askLeft tb_seats tb_slack tb_saw tb_quarrel tb_people tb_pairs tb_forks tb_unsures tb_trieds tb_fed tb_seat tb_one tb_other tb_years tb_kind tb_unsure tb_may tb_tried tb_name) H locs → lv_has ls 4 [(0, .ref (ad 0)), (1, .int l1), (2, .int l2), (3, .int l3)] → f_M_isMatch_L36 l1 l2 m_x n l3 = some o → W p l e (xR 4 87) s m args below meth c H locs 0 0 (MQ below (xqI E A (wM E ad m_thrown m_trouble m_where m_rv m_tape m_taped m_size m_spot m_sort m_place m_number m_fault m_wrongAt m_word m_v m_x m_past m_kept m_acts m_images m_matchNow m_slopsNow m_matchesNow m_slopped m_seatBest m_fedBest m_slopsBest m_sawBest m_leastNow m_stableNow m_fitsNow m_someNow m_everyNow m_otherIn m_askLeft tb_seats tb_slack tb_saw tb_quarrel tb_people tb_pairs tb_forks tb_unsures tb_trieds tb_fed tb_seat tb_one tb_other tb_years tb_kind tb_unsure tb_may tb_tried tb_name) (some .boolean) R0) args s 0 0 A) (F0 m 36 ls []) := by
  have hx := C.1
  have hb := C.2.1
  intro n
  induction n with
  | zero =>
    intro l3 H locs ls G hl hf
    exact nomatch (show (none : Option ((Int32) ⊕ (Unit))) = some o from hf)
  | succ n ih =>
    intro l3 H locs ls G hl hf
    rw [f_M_isMatch_L36] at hf
    refine lv_iload_n hx hb dX12_isMatch_36 rfl (lv_at hl 3 rfl) ?_
    refine lv_iload_n hx hb dX12_isMatch_37 rfl (lv_at hl 2 rfl) ?_
    refine lv_icmp_ge (tgt := 66) hx hb dX12_isMatch_38 (by decide) (fun h => ?_) (fun h => ?_)
    · have hf := it_t h hf
      exact J _ (Option.some.inj hf).symm _ _ _ G (lv_sub hl [0, 1, 2] rfl)
    · have hf := it_f h hf
      refine lv_iload_n hx hb dX12_isMatch_41 rfl (lv_at hl 1 rfl) ?_
      refine lv_iload_n hx hb dX12_isMatch_42 rfl (lv_at hl 3 rfl) ?_
      obtain ⟨x3, hc, hf⟩ := bd_go hf
      refine xI_S C G (c_M_bit_any hc) mX12_bit kX12_237 ⟨Nat.le_of_ble_eq_true rfl, Nat.le_of_ble_eq_true rfl⟩ rfl hl.1 rfl (Nat.le_of_ble_eq_true rfl) ⟨Nat.le_refl _, Nat.le_refl _⟩ dX12_isMatch_43 (fun hz3 H locs G => ?_)
      obtain ⟨b4, hr, hf⟩ := bd_go hf
      cases b4 with
      | true =>
        have hf := it_t rfl hf
        have J : ∀ (H : Heap) (locs : List Loc), xG s E A (wM E ad m_thrown m_trouble m_where m_rv m_tape m_taped m_size m_spot m_sort m_place m_number m_fault m_wrongAt m_word m_v m_x m_past m_kept m_acts m_images m_matchNow m_slopsNow m_matchesNow m_slopped m_seatBest m_fedBest m_slopsBest m_sawBest m_leastNow m_stableNow m_fitsNow m_someNow m_everyNow m_otherIn m_askLeft tb_seats tb_slack tb_saw tb_quarrel tb_people tb_pairs tb_forks tb_unsures tb_trieds tb_fed tb_seat tb_one tb_other tb_years tb_kind tb_unsure tb_may tb_tried tb_name) H locs → W p l e (xR 4 87) s m args below meth c H locs 0 0 (MQ below (xqI E A (wM E ad m_thrown m_trouble m_where m_rv m_tape m_taped m_size m_spot m_sort m_place m_number m_fault m_wrongAt m_word m_v m_x m_past m_kept m_acts m_images m_matchNow m_slopsNow m_matchesNow m_slopped m_seatBest m_fedBest m_slopsBest m_sawBest m_leastNow m_stableNow m_fitsNow m_someNow m_everyNow m_otherIn m_askLeft tb_seats tb_slack tb_saw tb_quarrel tb_people tb_pairs tb_forks tb_unsures tb_trieds tb_fed tb_seat tb_one tb_other tb_years tb_kind tb_unsure tb_may tb_tried tb_name) (some .boolean) R0) args s 0 0 A) (F0 m 60 ls []) := by
          intro H locs G
          obtain ⟨x5, ex5⟩ : ∃ z : Int32, z = l3 + (1 : Int32) := ⟨_, rfl⟩
          have hf := lt_go ex5 hf
          refine lv_iinc (v := x5) (lv' := [(3, .int x5), (0, .ref (ad 0)), (1, .int l1), (2, .int l2)]) hx hb dX12_isMatch_60 hl (k := 3) rfl (by rw [ex5]; rfl) (by decide) rfl (fun ls hl => ?_)
          refine lv_goto (tgt := 36) hx hb dX12_isMatch_63 (by decide) ?_
          exact ih x5 _ _ _ G (lv_sub hl [1, 2, 3, 0] rfl) hf
        have hf := hr
        clear hr
        refine lv_if_eq (tgt := 60) hx hb dX12_isMatch_46 (by decide) (fun h => ?_) (fun h => ?_)
        · have hf := it_t h hf
          exact J _ _ G
        · have hf := it_f h hf
          refine lv_aload_n hx hb dX12_isMatch_49 rfl (lv_at hl 0 rfl) ?_
          refine lv_iload_n hx hb dX12_isMatch_50 rfl (lv_at hl 2 rfl) ?_
          refine lv_iload_n hx hb dX12_isMatch_51 rfl (lv_at hl 3 rfl) ?_
          obtain ⟨x6, hc, hf⟩ := bd_go hf
          refine xI_V C G (c_M_share_m_M hc) mX12_share kX12_363 (wM_at0) rfl ⟨Nat.le_of_ble_eq_true rfl, Nat.le_of_ble_eq_true rfl⟩ rfl hl.1 rfl (Nat.le_of_ble_eq_true rfl) ⟨Nat.le_refl _, Nat.le_refl _⟩ dX12_isMatch_52 (fun hz6 H locs G => ?_)
          refine lv_if_eq (tgt := 60) hx hb dX12_isMatch_55 (by decide) (fun h => ?_) (fun h => ?_)
          · have hf := it_t h hf
            exact J _ _ G
          · have hf := it_f h hf
            exact absurd (Option.some.inj hf) (by decide)
      | false =>
        have hf := it_f (by decide) hf
        have J : ∀ (H : Heap) (locs : List Loc), xG s E A (wM E ad m_thrown m_trouble m_where m_rv m_tape m_taped m_size m_spot m_sort m_place m_number m_fault m_wrongAt m_word m_v m_x m_past m_kept m_acts m_images m_matchNow m_slopsNow m_matchesNow m_slopped m_seatBest m_fedBest m_slopsBest m_sawBest m_leastNow m_stableNow m_fitsNow m_someNow m_everyNow m_otherIn m_askLeft tb_seats tb_slack tb_saw tb_quarrel tb_people tb_pairs tb_forks tb_unsures tb_trieds tb_fed tb_seat tb_one tb_other tb_years tb_kind tb_unsure tb_may tb_tried tb_name) H locs → W p l e (xR 4 87) s m args below meth c H locs 0 0 (MQ below (xqI E A (wM E ad m_thrown m_trouble m_where m_rv m_tape m_taped m_size m_spot m_sort m_place m_number m_fault m_wrongAt m_word m_v m_x m_past m_kept m_acts m_images m_matchNow m_slopsNow m_matchesNow m_slopped m_seatBest m_fedBest m_slopsBest m_sawBest m_leastNow m_stableNow m_fitsNow m_someNow m_everyNow m_otherIn m_askLeft tb_seats tb_slack tb_saw tb_quarrel tb_people tb_pairs tb_forks tb_unsures tb_trieds tb_fed tb_seat tb_one tb_other tb_years tb_kind tb_unsure tb_may tb_tried tb_name) (some .boolean) R0) args s 0 0 A) (F0 m 58 ls []) := by
          intro H locs G
          refine lv_iconst (v := 0) hx hb dX12_isMatch_58 (by decide) ?_
          obtain rfl := Jr _ (Option.some.inj hf).symm
          exact xI_ret (r := (0 : Int32)) C G rfl dX12_isMatch_59
        have hf := hr
        clear hr
        refine lv_if_eq (tgt := 60) hx hb dX12_isMatch_46 (by decide) (fun h => ?_) (fun h => ?_)
        · have hf := it_t h hf
          exact absurd (Option.some.inj hf) (by decide)
        · have hf := it_f h hf
          refine lv_aload_n hx hb dX12_isMatch_49 rfl (lv_at hl 0 rfl) ?_
          refine lv_iload_n hx hb dX12_isMatch_50 rfl (lv_at hl 2 rfl) ?_
          refine lv_iload_n hx hb dX12_isMatch_51 rfl (lv_at hl 3 rfl) ?_
          obtain ⟨x7, hc, hf⟩ := bd_go hf
          refine xI_V C G (c_M_share_m_M hc) mX12_share kX12_363 (wM_at0) rfl ⟨Nat.le_of_ble_eq_true rfl, Nat.le_of_ble_eq_true rfl⟩ rfl hl.1 rfl (Nat.le_of_ble_eq_true rfl) ⟨Nat.le_refl _, Nat.le_refl _⟩ dX12_isMatch_52 (fun hz7 H locs G => ?_)
          refine lv_if_eq (tgt := 60) hx hb dX12_isMatch_55 (by decide) (fun h => ?_) (fun h => ?_)
          · have hf := it_t h hf
            exact absurd (Option.some.inj hf) (by decide)
          · have hf := it_f h hf
            exact J _ _ G
set_option maxHeartbeats 4000000 in
set_option maxRecDepth 100000 in
theorem w_M_isMatch_m_M_L2 {p : Program} {l : Launch} {e : Env} {s : State} {m : MethodId} {args : Array Value} {below : List Frame} {meth : Method} {c : Code} {A : Nat → Prop} {E : xE} {ad : Nat → Nat} {m_thrown m_trouble m_where m_taped m_size m_spot m_sort m_place m_number m_fault m_wrongAt m_acts m_images m_matchNow m_slopsNow m_matchesNow m_fedBest m_slopsBest m_sawBest m_leastNow m_stableNow m_fitsNow m_someNow m_everyNow m_askLeft tb_seats tb_slack tb_saw tb_quarrel tb_people tb_pairs tb_forks tb_unsures tb_trieds tb_fed : Int32} {m_rv : Value} {m_tape m_v m_x m_past m_kept m_slopped m_seatBest m_otherIn tb_seat tb_one tb_other tb_years tb_kind tb_unsure tb_may tb_tried : Nat → Int32} {m_word : Int64} {tb_name : Nat → Int64} {l1 : Int32} {o : (Int32) ⊕ (Unit)} {R0 : Int32} (C : xC p s m args meth c cX12_isMatch 4 RX12 E A (some .boolean)) (Jr : ∀ r, o = .inl r → r = R0) (J : ∀ t, o = .inr t → ∀ (H : Heap) (locs : List Loc) (ls : Array Slot), xG s E A (wM E ad m_thrown m_trouble m_where m_rv m_tape m_taped m_size m_spot m_sort m_place m_number m_fault m_wrongAt m_word m_v m_x m_past m_kept m_acts m_images m_matchNow m_slopsNow m_matchesNow m_slopped m_seatBest m_fedBest m_slopsBest m_sawBest m_leastNow m_stableNow m_fitsNow m_someNow m_everyNow m_otherIn m_askLeft tb_seats tb_slack tb_saw tb_quarrel tb_people tb_pairs tb_forks tb_unsures tb_trieds tb_fed tb_seat tb_one tb_other tb_years tb_kind tb_unsure tb_may tb_tried tb_name) H locs → lv_has ls 4 [] → W p l e (xR 4 87) s m args below meth c H locs 0 0 (MQ below (xqI E A (wM E ad m_thrown m_trouble m_where m_rv m_tape m_taped m_size m_spot m_sort m_place m_number m_fault m_wrongAt m_word m_v m_x m_past m_kept m_acts m_images m_matchNow m_slopsNow m_matchesNow m_slopped m_seatBest m_fedBest m_slopsBest m_sawBest m_leastNow m_stableNow m_fitsNow m_someNow m_everyNow m_otherIn m_askLeft tb_seats tb_slack tb_saw tb_quarrel tb_people tb_pairs tb_forks tb_unsures tb_trieds tb_fed tb_seat tb_one tb_other tb_years tb_kind tb_unsure tb_may tb_tried tb_name) (some .boolean) R0) args s 0 0 A) (F0 m 72 ls [])) :
    ∀ (n : Nat) (l2 : Int32) (H : Heap) (locs : List Loc) (ls : Array Slot), xG s E A (wM E ad m_thrown m_trouble m_where m_rv m_tape m_taped m_size m_spot m_sort m_place m_number m_fault m_wrongAt m_word m_v m_x m_past m_kept m_acts m_images m_matchNow m_slopsNow m_matchesNow m_slopped m_seatBest m_fedBest m_slopsBest m_sawBest m_leastNow m_stableNow m_fitsNow m_someNow m_everyNow m_otherIn m_askLeft tb_seats tb_slack tb_saw tb_quarrel tb_people tb_pairs tb_forks tb_unsures tb_trieds tb_fed tb_seat tb_one tb_other tb_years tb_kind tb_unsure tb_may tb_tried tb_name) H locs → lv_has ls 4 [(0, .ref (ad 0)), (1, .int l1), (2, .int l2)] → f_M_isMatch_L2 l1 m_x tb_slack n l2 = some o → W p l e (xR 4 87) s m args below meth c H locs 0 0 (MQ below (xqI E A (wM E ad m_thrown m_trouble m_where m_rv m_tape m_taped m_size m_spot m_sort m_place m_number m_fault m_wrongAt m_word m_v m_x m_past m_kept m_acts m_images m_matchNow m_slopsNow m_matchesNow m_slopped m_seatBest m_fedBest m_slopsBest m_sawBest m_leastNow m_stableNow m_fitsNow m_someNow m_everyNow m_otherIn m_askLeft tb_seats tb_slack tb_saw tb_quarrel tb_people tb_pairs tb_forks tb_unsures tb_trieds tb_fed tb_seat tb_one tb_other tb_years tb_kind tb_unsure tb_may tb_tried tb_name) (some .boolean) R0) args s 0 0 A) (F0 m 2 ls []) := by
  have hx := C.1
  have hb := C.2.1
  intro n
  induction n with
  | zero =>
    intro l2 H locs ls G hl hf
    exact nomatch (show (none : Option ((Int32) ⊕ (Unit))) = some o from hf)
  | succ n ih =>
    intro l2 H locs ls G hl hf
    rw [f_M_isMatch_L2] at hf
    refine lv_iload_n hx hb dX12_isMatch_2 rfl (lv_at hl 2 rfl) ?_
    refine lv_aload_n hx hb dX12_isMatch_3 rfl (lv_at hl 0 rfl) ?_
    refine x_get C G fX12_21 (wM_at0) rfl dX12_isMatch_4 ?_
    refine lv_bipush (v := 55) hx hb dX12_isMatch_7 (by decide) ?_
    have hi := ck_in hf
    have hf := ck_go hf
    refine x_iald C G (wM_at3) hi dX12_isMatch_9 ?_
    refine lv_icmp_ge (tgt := 72) hx hb dX12_isMatch_10 (by decide) (fun h => ?_) (fun h => ?_)
    · have hf := it_t h hf
      exact J _ (Option.some.inj hf).symm _ _ _ G (lv_sub hl [] rfl)
    · have hf := it_f h hf
      refine lv_iload_n hx hb dX12_isMatch_13 rfl (lv_at hl 1 rfl) ?_
      refine lv_iload_n hx hb dX12_isMatch_14 rfl (lv_at hl 2 rfl) ?_
      obtain ⟨x1, hc, hf⟩ := bd_go hf
      refine xI_S C G (c_M_bit_any hc) mX12_bit kX12_237 ⟨Nat.le_of_ble_eq_true rfl, Nat.le_of_ble_eq_true rfl⟩ rfl hl.1 rfl (Nat.le_of_ble_eq_true rfl) ⟨Nat.le_refl _, Nat.le_refl _⟩ dX12_isMatch_15 (fun hz1 H locs G => ?_)
      refine lv_if_ne (tgt := 24) hx hb dX12_isMatch_18 (by decide) (fun h => ?_) (fun h => ?_)
      · have hf := it_f h hf
        refine lv_aload_n hx hb dX12_isMatch_24 rfl (lv_at hl 0 rfl) ?_
        refine lv_iload_n hx hb dX12_isMatch_25 rfl (lv_at hl 2 rfl) ?_
        obtain ⟨x2, hc, hf⟩ := bd_go hf
        refine xI_V C G (c_M_isFeeding_m_M hc) mX12_isFeeding kX12_336 (wM_at0) rfl ⟨Nat.le_of_ble_eq_true rfl, Nat.le_of_ble_eq_true rfl⟩ rfl hl.1 rfl (Nat.le_of_ble_eq_true rfl) ⟨Nat.le_refl _, Nat.le_refl _⟩ dX12_isMatch_26 (fun hz2 H locs G => ?_)
        refine lv_if_ne (tgt := 34) hx hb dX12_isMatch_29 (by decide) (fun h => ?_) (fun h => ?_)
        · have hf := it_f h hf
          refine lv_iconst (v := 0) hx hb dX12_isMatch_34 (by decide) ?_
          refine lv_istore_n (lv' := [(3, .int (0 : Int32)), (0, .ref (ad 0)), (1, .int l1), (2, .int l2)]) hx hb dX12_isMatch_35 rfl hl (by decide) rfl (fun ls hl => ?_)
          obtain ⟨ox8, hr, hf⟩ := bd_go hf
          have Jx8 : ∀ x8, ox8 = .inr x8 → ∀ (H : Heap) (locs : List Loc) (ls : Array Slot), xG s E A (wM E ad m_thrown m_trouble m_where m_rv m_tape m_taped m_size m_spot m_sort m_place m_number m_fault m_wrongAt m_word m_v m_x m_past m_kept m_acts m_images m_matchNow m_slopsNow m_matchesNow m_slopped m_seatBest m_fedBest m_slopsBest m_sawBest m_leastNow m_stableNow m_fitsNow m_someNow m_everyNow m_otherIn m_askLeft tb_seats tb_slack tb_saw tb_quarrel tb_people tb_pairs tb_forks tb_unsures tb_trieds tb_fed tb_seat tb_one tb_other tb_years tb_kind tb_unsure tb_may tb_tried tb_name) H locs → lv_has ls 4 [(0, .ref (ad 0)), (1, .int l1), (2, .int l2)] → W p l e (xR 4 87) s m args below meth c H locs 0 0 (MQ below (xqI E A (wM E ad m_thrown m_trouble m_where m_rv m_tape m_taped m_size m_spot m_sort m_place m_number m_fault m_wrongAt m_word m_v m_x m_past m_kept m_acts m_images m_matchNow m_slopsNow m_matchesNow m_slopped m_seatBest m_fedBest m_slopsBest m_sawBest m_leastNow m_stableNow m_fitsNow m_someNow m_everyNow m_otherIn m_askLeft tb_seats tb_slack tb_saw tb_quarrel tb_people tb_pairs tb_forks tb_unsures tb_trieds tb_fed tb_seat tb_one tb_other tb_years tb_kind tb_unsure tb_may tb_tried tb_name) (some .boolean) R0) args s 0 0 A) (F0 m 66 ls []) := by
            intro x8 hq H locs ls G hl
            subst hq
            have hf := sn_r hf
            obtain ⟨x9, ex9⟩ : ∃ z : Int32, z = l2 + (1 : Int32) := ⟨_, rfl⟩
            have hf := lt_go ex9 hf
            refine lv_iinc (v := x9) (lv' := [(2, .int x9), (0, .ref (ad 0)), (1, .int l1)]) hx hb dX12_isMatch_66 hl (k := 2) rfl (by rw [ex9]; rfl) (by decide) rfl (fun ls hl => ?_)
            refine lv_goto (tgt := 2) hx hb dX12_isMatch_69 (by decide) ?_
            exact ih x9 _ _ _ G (lv_sub hl [1, 2, 0] rfl) hf
          have Jrx8 : ∀ r, ox8 = .inl r → r = R0 := by
            intro r hq
            subst hq
            exact Jr r (Option.some.inj hf).symm
          exact w_M_isMatch_m_M_L36 C Jrx8 Jx8 fu _ _ _ _ G (lv_sub hl [1, 2, 3, 0] rfl) hr
        · have hf := it_t h hf
          refine lv_iconst (v := 0) hx hb dX12_isMatch_32 (by decide) ?_
          obtain rfl := Jr _ (Option.some.inj hf).symm
          exact xI_ret (r := (0 : Int32)) C G rfl dX12_isMatch_33
      · have hf := it_t h hf
        refine lv_goto (tgt := 66) hx hb dX12_isMatch_21 (by decide) ?_
        obtain ⟨x10, ex10⟩ : ∃ z : Int32, z = l2 + (1 : Int32) := ⟨_, rfl⟩
        have hf := lt_go ex10 hf
        refine lv_iinc (v := x10) (lv' := [(2, .int x10), (0, .ref (ad 0)), (1, .int l1)]) hx hb dX12_isMatch_66 hl (k := 2) rfl (by rw [ex10]; rfl) (by decide) rfl (fun ls hl => ?_)
        refine lv_goto (tgt := 2) hx hb dX12_isMatch_69 (by decide) ?_
        exact ih x10 _ _ _ G (lv_sub hl [1, 2, 0] rfl) hf
set_option maxHeartbeats 4000000 in
set_option maxRecDepth 100000 in
theorem c_M_isMatch_m_M {l : Launch} {E : xE} {ad : Nat → Nat} {m_thrown m_trouble m_where m_taped m_size m_spot m_sort m_place m_number m_fault m_wrongAt m_acts m_images m_matchNow m_slopsNow m_matchesNow m_fedBest m_slopsBest m_sawBest m_leastNow m_stableNow m_fitsNow m_someNow m_everyNow m_askLeft tb_seats tb_slack tb_saw tb_quarrel tb_people tb_pairs tb_forks tb_unsures tb_trieds tb_fed : Int32} {m_rv : Value} {m_tape m_v m_x m_past m_kept m_slopped m_seatBest m_otherIn tb_seat tb_one tb_other tb_years tb_kind tb_unsure tb_may tb_tried : Nat → Int32} {m_word : Int64} {tb_name : Nat → Int64} {l1 : Int32} {R0 : Int32} (hf : f_M_isMatch l1 m_x tb_slack = some R0) : xI l E yX12_isMatch cX12_isMatch 4 (some .boolean) 4 87 [.ref (ad 0), .int l1] (wM E ad m_thrown m_trouble m_where m_rv m_tape m_taped m_size m_spot m_sort m_place m_number m_fault m_wrongAt m_word m_v m_x m_past m_kept m_acts m_images m_matchNow m_slopsNow m_matchesNow m_slopped m_seatBest m_fedBest m_slopsBest m_sawBest m_leastNow m_stableNow m_fitsNow m_someNow m_everyNow m_otherIn m_askLeft tb_seats tb_slack tb_saw tb_quarrel tb_people tb_pairs tb_forks tb_unsures tb_trieds tb_fed tb_seat tb_one tb_other tb_years tb_kind tb_unsure tb_may tb_tried tb_name) (wM E ad m_thrown m_trouble m_where m_rv m_tape m_taped m_size m_spot m_sort m_place m_number m_fault m_wrongAt m_word m_v m_x m_past m_kept m_acts m_images m_matchNow m_slopsNow m_matchesNow m_slopped m_seatBest m_fedBest m_slopsBest m_sawBest m_leastNow m_stableNow m_fitsNow m_someNow m_everyNow m_otherIn m_askLeft tb_seats tb_slack tb_saw tb_quarrel tb_people tb_pairs tb_forks tb_unsures tb_trieds tb_fed tb_seat tb_one tb_other tb_years tb_kind tb_unsure tb_may tb_tried tb_name) R0 := by
  refine xI_of (by decide) (Nat.le_of_ble_eq_true rfl) (fun p e s m args below meth c A C ls hl G => ?_)
  have hx := C.1
  have hb := C.2.1
  have hl : lv_has ls 4 [(0, .ref (ad 0)), (1, .int l1)] := hl
  unfold f_M_isMatch at hf
  refine lv_iconst (v := 0) hx hb dX12_isMatch_0 (by decide) ?_
  refine lv_istore_n (lv' := [(2, .int (0 : Int32)), (0, .ref (ad 0)), (1, .int l1)]) hx hb dX12_isMatch_1 rfl hl (by decide) rfl (fun ls hl => ?_)
  obtain ⟨ox11, hr, hf⟩ := bd_go hf
  have Jx11 : ∀ x11, ox11 = .inr x11 → ∀ (H : Heap) (locs : List Loc) (ls : Array Slot), xG s E A (wM E ad m_thrown m_trouble m_where m_rv m_tape m_taped m_size m_spot m_sort m_place m_number m_fault m_wrongAt m_word m_v m_x m_past m_kept m_acts m_images m_matchNow m_slopsNow m_matchesNow m_slopped m_seatBest m_fedBest m_slopsBest m_sawBest m_leastNow m_stableNow m_fitsNow m_someNow m_everyNow m_otherIn m_askLeft tb_seats tb_slack tb_saw tb_quarrel tb_people tb_pairs tb_forks tb_unsures tb_trieds tb_fed tb_seat tb_one tb_other tb_years tb_kind tb_unsure tb_may tb_tried tb_name) H locs → lv_has ls 4 [] → W p l e (xR 4 87) s m args below meth c H locs 0 0 (MQ below (xqI E A (wM E ad m_thrown m_trouble m_where m_rv m_tape m_taped m_size m_spot m_sort m_place m_number m_fault m_wrongAt m_word m_v m_x m_past m_kept m_acts m_images m_matchNow m_slopsNow m_matchesNow m_slopped m_seatBest m_fedBest m_slopsBest m_sawBest m_leastNow m_stableNow m_fitsNow m_someNow m_everyNow m_otherIn m_askLeft tb_seats tb_slack tb_saw tb_quarrel tb_people tb_pairs tb_forks tb_unsures tb_trieds tb_fed tb_seat tb_one tb_other tb_years tb_kind tb_unsure tb_may tb_tried tb_name) (some .boolean) R0) args s 0 0 A) (F0 m 72 ls []) := by
    intro x11 hq H locs ls G hl
    subst hq
    have hf := sm_r hf
    refine lv_iconst (v := 1) hx hb dX12_isMatch_72 (by decide) ?_
    obtain rfl := Option.some.inj hf
    exact xI_ret (r := (1 : Int32)) C G rfl dX12_isMatch_73
  have Jrx11 : ∀ r, ox11 = .inl r → r = R0 := by
    intro r hq
    subst hq
    exact Option.some.inj hf
  exact w_M_isMatch_m_M_L2 C Jrx11 Jx11 fu _ _ _ _ G (lv_sub hl [1, 2, 0] rfl) hr
set_option maxHeartbeats 4000000 in
set_option maxRecDepth 100000 in
theorem c_M_isRather_m_M {l : Launch} {E : xE} {ad : Nat → Nat} {m_thrown m_trouble m_where m_taped m_size m_spot m_sort m_place m_number m_fault m_wrongAt m_acts m_images m_matchNow m_slopsNow m_matchesNow m_fedBest m_slopsBest m_sawBest m_leastNow m_stableNow m_fitsNow m_someNow m_everyNow m_askLeft tb_seats tb_slack tb_saw tb_quarrel tb_people tb_pairs tb_forks tb_unsures tb_trieds tb_fed : Int32} {m_rv : Value} {m_tape m_v m_x m_past m_kept m_slopped m_seatBest m_otherIn tb_seat tb_one tb_other tb_years tb_kind tb_unsure tb_may tb_tried : Nat → Int32} {m_word : Int64} {tb_name : Nat → Int64} {l1 : Int32} {l2 : Int32} {l3 : Int32} {R0 : Int32} (hf : f_M_isRather l1 l2 l3 m_x = some R0) : xI l E yX12_isRather cX12_isRather 6 (some .boolean) 2 45 [.ref (ad 0), .int l1, .int l2, .int l3] (wM E ad m_thrown m_trouble m_where m_rv m_tape m_taped m_size m_spot m_sort m_place m_number m_fault m_wrongAt m_word m_v m_x m_past m_kept m_acts m_images m_matchNow m_slopsNow m_matchesNow m_slopped m_seatBest m_fedBest m_slopsBest m_sawBest m_leastNow m_stableNow m_fitsNow m_someNow m_everyNow m_otherIn m_askLeft tb_seats tb_slack tb_saw tb_quarrel tb_people tb_pairs tb_forks tb_unsures tb_trieds tb_fed tb_seat tb_one tb_other tb_years tb_kind tb_unsure tb_may tb_tried tb_name) (wM E ad m_thrown m_trouble m_where m_rv m_tape m_taped m_size m_spot m_sort m_place m_number m_fault m_wrongAt m_word m_v m_x m_past m_kept m_acts m_images m_matchNow m_slopsNow m_matchesNow m_slopped m_seatBest m_fedBest m_slopsBest m_sawBest m_leastNow m_stableNow m_fitsNow m_someNow m_everyNow m_otherIn m_askLeft tb_seats tb_slack tb_saw tb_quarrel tb_people tb_pairs tb_forks tb_unsures tb_trieds tb_fed tb_seat tb_one tb_other tb_years tb_kind tb_unsure tb_may tb_tried tb_name) R0 := by
  refine xI_of (by decide) (Nat.le_of_ble_eq_true rfl) (fun p e s m args below meth c A C ls hl G => ?_)
  have hx := C.1
  have hb := C.2.1
  have hl : lv_has ls 6 [(0, .ref (ad 0)), (1, .int l1), (2, .int l2), (3, .int l3)] := hl
  unfold f_M_isRather at hf
  refine lv_aload_n hx hb dX12_isRather_0 rfl (lv_at hl 0 rfl) ?_
  refine lv_iload_n hx hb dX12_isRather_1 rfl (lv_at hl 1 rfl) ?_
  refine lv_iload_n hx hb dX12_isRather_2 rfl (lv_at hl 2 rfl) ?_
  obtain ⟨x1, hc, hf⟩ := bd_go hf
  refine xI_V C G (c_M_mateBy_m_M hc) mX12_mateBy kX12_369 (wM_at0) rfl ⟨Nat.le_of_ble_eq_true rfl, Nat.le_of_ble_eq_true rfl⟩ rfl hl.1 rfl (Nat.le_of_ble_eq_true rfl) ⟨Nat.le_refl _, Nat.le_refl _⟩ dX12_isRather_3 (fun hz H locs G => ?_)
  refine lv_istore (lv' := [(4, .int x1), (0, .ref (ad 0)), (1, .int l1), (2, .int l2), (3, .int l3)]) hx hb dX12_isRather_6 hl (by decide) rfl (fun ls hl => ?_)
  refine lv_iload hx hb dX12_isRather_8 (lv_at hl 0 rfl) ?_
  refine lv_bipush (v := -2) hx hb dX12_isRather_10 (by decide) ?_
  refine lv_icmp_ne (tgt := 17) hx hb dX12_isRather_12 (by decide) (fun h => ?_) (fun h => ?_)
  · have hf := it_f h hf
    refine lv_aload_n hx hb dX12_isRather_17 rfl (lv_at hl 1 rfl) ?_
    refine lv_aload_n hx hb dX12_isRather_18 rfl (lv_at hl 1 rfl) ?_
    refine lv_iload_n hx hb dX12_isRather_19 rfl (lv_at hl 3 rfl) ?_
    refine lv_iload_n hx hb dX12_isRather_20 rfl (lv_at hl 4 rfl) ?_
    obtain ⟨x2, hc, hf⟩ := bd_go hf
    refine xI_V C G (c_M_pairBy_m_M hc) mX12_pairBy kX12_345 (wM_at0) rfl ⟨Nat.le_of_ble_eq_true rfl, Nat.le_of_ble_eq_true rfl⟩ rfl hl.1 rfl (Nat.le_of_ble_eq_true rfl) ⟨Nat.le_refl _, Nat.le_refl _⟩ dX12_isRather_21 (fun hz H locs G => ?_)
    obtain ⟨x3, hc, hf⟩ := bd_go hf
    refine xI_V C G (c_M_handleOf_m_M hc) mX12_handleOf kX12_321 (wM_at0) rfl ⟨Nat.le_of_ble_eq_true rfl, Nat.le_of_ble_eq_true rfl⟩ rfl hl.1 rfl (Nat.le_of_ble_eq_true rfl) ⟨Nat.le_refl _, Nat.le_refl _⟩ dX12_isRather_24 (fun hz H locs G => ?_)
    refine lv_aload_n hx hb dX12_isRather_27 rfl (lv_at hl 1 rfl) ?_
    refine lv_aload_n hx hb dX12_isRather_28 rfl (lv_at hl 1 rfl) ?_
    refine lv_iload_n hx hb dX12_isRather_29 rfl (lv_at hl 3 rfl) ?_
    refine lv_iload hx hb dX12_isRather_30 (lv_at hl 0 rfl) ?_
    obtain ⟨x4, hc, hf⟩ := bd_go hf
    refine xI_V C G (c_M_pairBy_m_M hc) mX12_pairBy kX12_345 (wM_at0) rfl ⟨Nat.le_of_ble_eq_true rfl, Nat.le_of_ble_eq_true rfl⟩ rfl hl.1 rfl (Nat.le_of_ble_eq_true rfl) ⟨Nat.le_refl _, Nat.le_refl _⟩ dX12_isRather_32 (fun hz H locs G => ?_)
    obtain ⟨x5, hc, hf⟩ := bd_go hf
    refine xI_V C G (c_M_handleOf_m_M hc) mX12_handleOf kX12_321 (wM_at0) rfl ⟨Nat.le_of_ble_eq_true rfl, Nat.le_of_ble_eq_true rfl⟩ rfl hl.1 rfl (Nat.le_of_ble_eq_true rfl) ⟨Nat.le_refl _, Nat.le_refl _⟩ dX12_isRather_35 (fun hz H locs G => ?_)
    refine lv_isub hx hb dX12_isRather_38 ?_
    refine lv_topi (fun x6 ex6 => ?_)
    have hf := lt_go ex6 hf
    refine lv_istore (lv' := [(5, .int x6), (4, .int x1), (0, .ref (ad 0)), (1, .int l1), (2, .int l2), (3, .int l3)]) hx hb dX12_isRather_39 hl (by decide) rfl (fun ls hl => ?_)
    refine lv_iload hx hb dX12_isRather_41 (lv_at hl 0 rfl) ?_
    obtain ⟨b7, hr, hf⟩ := bd_go hf
    cases b7 with
    | true =>
      have hf := it_t rfl hf
      have J : ∀ (H : Heap) (locs : List Loc), xG s E A (wM E ad m_thrown m_trouble m_where m_rv m_tape m_taped m_size m_spot m_sort m_place m_number m_fault m_wrongAt m_word m_v m_x m_past m_kept m_acts m_images m_matchNow m_slopsNow m_matchesNow m_slopped m_seatBest m_fedBest m_slopsBest m_sawBest m_leastNow m_stableNow m_fitsNow m_someNow m_everyNow m_otherIn m_askLeft tb_seats tb_slack tb_saw tb_quarrel tb_people tb_pairs tb_forks tb_unsures tb_trieds tb_fed tb_seat tb_one tb_other tb_years tb_kind tb_unsure tb_may tb_tried tb_name) H locs → W p l e (xR 2 45) s m args below meth c H locs 0 0 (MQ below (xqI E A (wM E ad m_thrown m_trouble m_where m_rv m_tape m_taped m_size m_spot m_sort m_place m_number m_fault m_wrongAt m_word m_v m_x m_past m_kept m_acts m_images m_matchNow m_slopsNow m_matchesNow m_slopped m_seatBest m_fedBest m_slopsBest m_sawBest m_leastNow m_stableNow m_fitsNow m_someNow m_everyNow m_otherIn m_askLeft tb_seats tb_slack tb_saw tb_quarrel tb_people tb_pairs tb_forks tb_unsures tb_trieds tb_fed tb_seat tb_one tb_other tb_years tb_kind tb_unsure tb_may tb_tried tb_name) (some .boolean) R0) args s 0 0 A) (F0 m 57 ls []) := by
        intro H locs G
        refine lv_iconst (v := 1) hx hb dX12_isRather_57 (by decide) ?_
        refine lv_goto (tgt := 62) hx hb dX12_isRather_58 (by decide) ?_
        obtain rfl := Option.some.inj hf
        exact xI_ret (r := (1 : Int32)) C G rfl dX12_isRather_62
      have hf := hr
      clear hr
      refine lv_if_gt (tgt := 57) hx hb dX12_isRather_43 (by decide) (fun h => ?_) (fun h => ?_)
      · have hf := it_t h hf
        exact J _ _ G
      · have hf := it_f h hf
        refine lv_iload hx hb dX12_isRather_46 (lv_at hl 0 rfl) ?_
        refine lv_if_ne (tgt := 61) hx hb dX12_isRather_48 (by decide) (fun h => ?_) (fun h => ?_)
        · have hf := it_f h hf
          exact absurd (Option.some.inj hf) (by decide)
        · have hf := it_t h hf
          refine lv_iload_n hx hb dX12_isRather_51 rfl (lv_at hl 5 rfl) ?_
          refine lv_iload hx hb dX12_isRather_52 (lv_at hl 1 rfl) ?_
          refine lv_icmp_ge (tgt := 61) hx hb dX12_isRather_54 (by decide) (fun h => ?_) (fun h => ?_)
          · have hf := it_t h hf
            exact absurd (Option.some.inj hf) (by decide)
          · have hf := it_f h hf
            exact J _ _ G
    | false =>
      have hf := it_f (by decide) hf
      have J : ∀ (H : Heap) (locs : List Loc), xG s E A (wM E ad m_thrown m_trouble m_where m_rv m_tape m_taped m_size m_spot m_sort m_place m_number m_fault m_wrongAt m_word m_v m_x m_past m_kept m_acts m_images m_matchNow m_slopsNow m_matchesNow m_slopped m_seatBest m_fedBest m_slopsBest m_sawBest m_leastNow m_stableNow m_fitsNow m_someNow m_everyNow m_otherIn m_askLeft tb_seats tb_slack tb_saw tb_quarrel tb_people tb_pairs tb_forks tb_unsures tb_trieds tb_fed tb_seat tb_one tb_other tb_years tb_kind tb_unsure tb_may tb_tried tb_name) H locs → W p l e (xR 2 45) s m args below meth c H locs 0 0 (MQ below (xqI E A (wM E ad m_thrown m_trouble m_where m_rv m_tape m_taped m_size m_spot m_sort m_place m_number m_fault m_wrongAt m_word m_v m_x m_past m_kept m_acts m_images m_matchNow m_slopsNow m_matchesNow m_slopped m_seatBest m_fedBest m_slopsBest m_sawBest m_leastNow m_stableNow m_fitsNow m_someNow m_everyNow m_otherIn m_askLeft tb_seats tb_slack tb_saw tb_quarrel tb_people tb_pairs tb_forks tb_unsures tb_trieds tb_fed tb_seat tb_one tb_other tb_years tb_kind tb_unsure tb_may tb_tried tb_name) (some .boolean) R0) args s 0 0 A) (F0 m 61 ls []) := by
        intro H locs G
        refine lv_iconst (v := 0) hx hb dX12_isRather_61 (by decide) ?_
        obtain rfl := Option.some.inj hf
        exact xI_ret (r := (0 : Int32)) C G rfl dX12_isRather_62
      have hf := hr
      clear hr
      refine lv_if_gt (tgt := 57) hx hb dX12_isRather_43 (by decide) (fun h => ?_) (fun h => ?_)
      · have hf := it_t h hf
        exact absurd (Option.some.inj hf) (by decide)
      · have hf := it_f h hf
        refine lv_iload hx hb dX12_isRather_46 (lv_at hl 0 rfl) ?_
        refine lv_if_ne (tgt := 61) hx hb dX12_isRather_48 (by decide) (fun h => ?_) (fun h => ?_)
        · have hf := it_f h hf
          exact J _ _ G
        · have hf := it_t h hf
          refine lv_iload_n hx hb dX12_isRather_51 rfl (lv_at hl 5 rfl) ?_
          refine lv_iload hx hb dX12_isRather_52 (lv_at hl 1 rfl) ?_
          refine lv_icmp_ge (tgt := 61) hx hb dX12_isRather_54 (by decide) (fun h => ?_) (fun h => ?_)
          · have hf := it_t h hf
            exact J _ _ G
          · have hf := it_f h hf
            exact absurd (Option.some.inj hf) (by decide)
  · have hf := it_t h hf
    refine lv_iconst (v := 1) hx hb dX12_isRather_15 (by decide) ?_
    obtain rfl := Option.some.inj hf
    exact xI_ret (r := (1 : Int32)) C G rfl dX12_isRather_16
set_option maxHeartbeats 4000000 in
set_option maxRecDepth 100000 in
theorem w_M_leaving_m_M_L2 {p : Program} {l : Launch} {e : Env} {s : State} {m : MethodId} {args : Array Value} {below : List Frame} {meth : Method} {c : Code} {A : Nat → Prop} {E : xE} {ad : Nat → Nat} {m_thrown m_trouble m_where m_taped m_size m_spot m_sort m_place m_number m_fault m_wrongAt m_acts m_images m_matchNow m_slopsNow m_matchesNow m_fedBest m_slopsBest m_sawBest m_leastNow m_stableNow m_fitsNow m_someNow m_everyNow m_askLeft tb_seats tb_slack tb_saw tb_quarrel tb_people tb_pairs tb_forks tb_unsures tb_trieds tb_fed : Int32} {m_rv : Value} {m_tape m_v m_x m_past m_kept m_slopped m_seatBest m_otherIn tb_seat tb_one tb_other tb_years tb_kind tb_unsure tb_may tb_tried : Nat → Int32} {m_word : Int64} {tb_name : Nat → Int64} {l1 : Int32} {o : (Int32) ⊕ (Unit)} {R0 : Int32} (C : xC p s m args meth c cX12_leaving 3 RX12 E A (some .int)) (Jr : ∀ r, o = .inl r → r = R0) (J : ∀ t, o = .inr t → ∀ (H : Heap) (locs : List Loc) (ls : Array Slot), xG s E A (wM E ad m_thrown m_trouble m_where m_rv m_tape m_taped m_size m_spot m_sort m_place m_number m_fault m_wrongAt m_word m_v m_x m_past m_kept m_acts m_images m_matchNow m_slopsNow m_matchesNow m_slopped m_seatBest m_fedBest m_slopsBest m_sawBest m_leastNow m_stableNow m_fitsNow m_someNow m_everyNow m_otherIn m_askLeft tb_seats tb_slack tb_saw tb_quarrel tb_people tb_pairs tb_forks tb_unsures tb_trieds tb_fed tb_seat tb_one tb_other tb_years tb_kind tb_unsure tb_may tb_tried tb_name) H locs → lv_has ls 3 [] → W p l e (xR 4 87) s m args below meth c H locs 0 0 (MQ below (xqI E A (wM E ad m_thrown m_trouble m_where m_rv m_tape m_taped m_size m_spot m_sort m_place m_number m_fault m_wrongAt m_word m_v m_x m_past m_kept m_acts m_images m_matchNow m_slopsNow m_matchesNow m_slopped m_seatBest m_fedBest m_slopsBest m_sawBest m_leastNow m_stableNow m_fitsNow m_someNow m_everyNow m_otherIn m_askLeft tb_seats tb_slack tb_saw tb_quarrel tb_people tb_pairs tb_forks tb_unsures tb_trieds tb_fed tb_seat tb_one tb_other tb_years tb_kind tb_unsure tb_may tb_tried tb_name) (some .int) R0) args s 0 0 A) (F0 m 87 ls [])) :
    ∀ (n : Nat) (l2 : Int32) (H : Heap) (locs : List Loc) (ls : Array Slot), xG s E A (wM E ad m_thrown m_trouble m_where m_rv m_tape m_taped m_size m_spot m_sort m_place m_number m_fault m_wrongAt m_word m_v m_x m_past m_kept m_acts m_images m_matchNow m_slopsNow m_matchesNow m_slopped m_seatBest m_fedBest m_slopsBest m_sawBest m_leastNow m_stableNow m_fitsNow m_someNow m_everyNow m_otherIn m_askLeft tb_seats tb_slack tb_saw tb_quarrel tb_people tb_pairs tb_forks tb_unsures tb_trieds tb_fed tb_seat tb_one tb_other tb_years tb_kind tb_unsure tb_may tb_tried tb_name) H locs → lv_has ls 3 [(0, .ref (ad 0)), (1, .int l1), (2, .int l2)] → f_M_leaving_L2 l1 m_x tb_slack n l2 = some o → W p l e (xR 4 87) s m args below meth c H locs 0 0 (MQ below (xqI E A (wM E ad m_thrown m_trouble m_where m_rv m_tape m_taped m_size m_spot m_sort m_place m_number m_fault m_wrongAt m_word m_v m_x m_past m_kept m_acts m_images m_matchNow m_slopsNow m_matchesNow m_slopped m_seatBest m_fedBest m_slopsBest m_sawBest m_leastNow m_stableNow m_fitsNow m_someNow m_everyNow m_otherIn m_askLeft tb_seats tb_slack tb_saw tb_quarrel tb_people tb_pairs tb_forks tb_unsures tb_trieds tb_fed tb_seat tb_one tb_other tb_years tb_kind tb_unsure tb_may tb_tried tb_name) (some .int) R0) args s 0 0 A) (F0 m 2 ls []) := by
  have hx := C.1
  have hb := C.2.1
  intro n
  induction n with
  | zero =>
    intro l2 H locs ls G hl hf
    exact nomatch (show (none : Option ((Int32) ⊕ (Unit))) = some o from hf)
  | succ n ih =>
    intro l2 H locs ls G hl hf
    rw [f_M_leaving_L2] at hf
    refine lv_iload_n hx hb dX12_leaving_2 rfl (lv_at hl 2 rfl) ?_
    refine lv_aload_n hx hb dX12_leaving_3 rfl (lv_at hl 0 rfl) ?_
    refine x_get C G fX12_21 (wM_at0) rfl dX12_leaving_4 ?_
    refine lv_bipush (v := 55) hx hb dX12_leaving_7 (by decide) ?_
    have hi := ck_in hf
    have hf := ck_go hf
    refine x_iald C G (wM_at3) hi dX12_leaving_9 ?_
    refine lv_icmp_ge (tgt := 87) hx hb dX12_leaving_10 (by decide) (fun h => ?_) (fun h => ?_)
    · have hf := it_t h hf
      exact J _ (Option.some.inj hf).symm _ _ _ G (lv_sub hl [] rfl)
    · have hf := it_f h hf
      refine lv_iload_n hx hb dX12_leaving_13 rfl (lv_at hl 1 rfl) ?_
      refine lv_iload_n hx hb dX12_leaving_14 rfl (lv_at hl 2 rfl) ?_
      obtain ⟨x1, hc, hf⟩ := bd_go hf
      refine xI_S C G (c_M_bit_any hc) mX12_bit kX12_237 ⟨Nat.le_of_ble_eq_true rfl, Nat.le_of_ble_eq_true rfl⟩ rfl hl.1 rfl (Nat.le_of_ble_eq_true rfl) ⟨Nat.le_refl _, Nat.le_refl _⟩ dX12_leaving_15 (fun hz1 H locs G => ?_)
      obtain ⟨b2, hr, hf⟩ := bd_go hf
      cases b2 with
      | true =>
        have hf := it_t rfl hf
        have J : ∀ (H : Heap) (locs : List Loc), xG s E A (wM E ad m_thrown m_trouble m_where m_rv m_tape m_taped m_size m_spot m_sort m_place m_number m_fault m_wrongAt m_word m_v m_x m_past m_kept m_acts m_images m_matchNow m_slopsNow m_matchesNow m_slopped m_seatBest m_fedBest m_slopsBest m_sawBest m_leastNow m_stableNow m_fitsNow m_someNow m_everyNow m_otherIn m_askLeft tb_seats tb_slack tb_saw tb_quarrel tb_people tb_pairs tb_forks tb_unsures tb_trieds tb_fed tb_seat tb_one tb_other tb_years tb_kind tb_unsure tb_may tb_tried tb_name) H locs → W p l e (xR 4 87) s m args below meth c H locs 0 0 (MQ below (xqI E A (wM E ad m_thrown m_trouble m_where m_rv m_tape m_taped m_size m_spot m_sort m_place m_number m_fault m_wrongAt m_word m_v m_x m_past m_kept m_acts m_images m_matchNow m_slopsNow m_matchesNow m_slopped m_seatBest m_fedBest m_slopsBest m_sawBest m_leastNow m_stableNow m_fitsNow m_someNow m_everyNow m_otherIn m_askLeft tb_seats tb_slack tb_saw tb_quarrel tb_people tb_pairs tb_forks tb_unsures tb_trieds tb_fed tb_seat tb_one tb_other tb_years tb_kind tb_unsure tb_may tb_tried tb_name) (some .int) R0) args s 0 0 A) (F0 m 81 ls []) := by
          intro H locs G
          obtain ⟨x3, ex3⟩ : ∃ z : Int32, z = l2 + (1 : Int32) := ⟨_, rfl⟩
          have hf := lt_go ex3 hf
          refine lv_iinc (v := x3) (lv' := [(2, .int x3), (0, .ref (ad 0)), (1, .int l1)]) hx hb dX12_leaving_81 hl (k := 2) rfl (by rw [ex3]; rfl) (by decide) rfl (fun ls hl => ?_)
          refine lv_goto (tgt := 2) hx hb dX12_leaving_84 (by decide) ?_
          exact ih x3 _ _ _ G (lv_sub hl [1, 2, 0] rfl) hf
        have hf := hr
        clear hr
        refine lv_if_ne (tgt := 81) hx hb dX12_leaving_18 (by decide) (fun h => ?_) (fun h => ?_)
        · have hf := it_f h hf
          exact J _ _ G
        · have hf := it_t h hf
          refine lv_aload_n hx hb dX12_leaving_21 rfl (lv_at hl 0 rfl) ?_
          refine lv_iload_n hx hb dX12_leaving_22 rfl (lv_at hl 2 rfl) ?_
          obtain ⟨x4, hc, hf⟩ := bd_go hf
          refine xI_V C G (c_M_isFeeding_m_M hc) mX12_isFeeding kX12_336 (wM_at0) rfl ⟨Nat.le_of_ble_eq_true rfl, Nat.le_of_ble_eq_true rfl⟩ rfl hl.1 rfl (Nat.le_of_ble_eq_true rfl) ⟨Nat.le_refl _, Nat.le_refl _⟩ dX12_leaving_23 (fun hz4 H locs G => ?_)
          refine lv_if_eq (tgt := 81) hx hb dX12_leaving_26 (by decide) (fun h => ?_) (fun h => ?_)
          · have hf := it_t h hf
            exact J _ _ G
          · have hf := it_f h hf
            refine lv_aload_n hx hb dX12_leaving_29 rfl (lv_at hl 0 rfl) ?_
            refine lv_iload_n hx hb dX12_leaving_30 rfl (lv_at hl 1 rfl) ?_
            refine lv_aload_n hx hb dX12_leaving_31 rfl (lv_at hl 0 rfl) ?_
            refine x_get C G fX12_21 (wM_at0) rfl dX12_leaving_32 ?_
            refine lv_iconst (v := 5) hx hb dX12_leaving_35 (by decide) ?_
            refine lv_iload_n hx hb dX12_leaving_36 rfl (lv_at hl 2 rfl) ?_
            refine lv_iadd hx hb dX12_leaving_37 ?_
            have hi := ck_in hf
            have hf := ck_go hf
            refine x_iald C G (wM_at3) hi dX12_leaving_38 ?_
            refine lv_aload_n hx hb dX12_leaving_39 rfl (lv_at hl 0 rfl) ?_
            refine x_get C G fX12_21 (wM_at0) rfl dX12_leaving_40 ?_
            refine lv_bipush (v := 15) hx hb dX12_leaving_43 (by decide) ?_
            refine lv_iload_n hx hb dX12_leaving_45 rfl (lv_at hl 2 rfl) ?_
            refine lv_iadd hx hb dX12_leaving_46 ?_
            have hi := ck_in hf
            have hf := ck_go hf
            refine x_iald C G (wM_at3) hi dX12_leaving_47 ?_
            obtain ⟨x5, hc, hf⟩ := bd_go hf
            refine xI_V C G (c_M_isRather_m_M hc) mX12_isRather kX12_430 (wM_at0) rfl ⟨Nat.le_of_ble_eq_true rfl, Nat.le_of_ble_eq_true rfl⟩ rfl hl.1 rfl (Nat.le_of_ble_eq_true rfl) ⟨Nat.le_refl _, Nat.le_refl _⟩ dX12_leaving_48 (fun hz5 H locs G => ?_)
            refine lv_if_eq (tgt := 81) hx hb dX12_leaving_51 (by decide) (fun h => ?_) (fun h => ?_)
            · have hf := it_t h hf
              exact J _ _ G
            · have hf := it_f h hf
              refine lv_aload_n hx hb dX12_leaving_54 rfl (lv_at hl 0 rfl) ?_
              refine lv_iload_n hx hb dX12_leaving_55 rfl (lv_at hl 1 rfl) ?_
              refine lv_aload_n hx hb dX12_leaving_56 rfl (lv_at hl 0 rfl) ?_
              refine x_get C G fX12_21 (wM_at0) rfl dX12_leaving_57 ?_
              refine lv_bipush (v := 15) hx hb dX12_leaving_60 (by decide) ?_
              refine lv_iload_n hx hb dX12_leaving_62 rfl (lv_at hl 2 rfl) ?_
              refine lv_iadd hx hb dX12_leaving_63 ?_
              have hi := ck_in hf
              have hf := ck_go hf
              refine x_iald C G (wM_at3) hi dX12_leaving_64 ?_
              refine lv_aload_n hx hb dX12_leaving_65 rfl (lv_at hl 0 rfl) ?_
              refine x_get C G fX12_21 (wM_at0) rfl dX12_leaving_66 ?_
              refine lv_iconst (v := 5) hx hb dX12_leaving_69 (by decide) ?_
              refine lv_iload_n hx hb dX12_leaving_70 rfl (lv_at hl 2 rfl) ?_
              refine lv_iadd hx hb dX12_leaving_71 ?_
              have hi := ck_in hf
              have hf := ck_go hf
              refine x_iald C G (wM_at3) hi dX12_leaving_72 ?_
              obtain ⟨x6, hc, hf⟩ := bd_go hf
              refine xI_V C G (c_M_isRather_m_M hc) mX12_isRather kX12_430 (wM_at0) rfl ⟨Nat.le_of_ble_eq_true rfl, Nat.le_of_ble_eq_true rfl⟩ rfl hl.1 rfl (Nat.le_of_ble_eq_true rfl) ⟨Nat.le_refl _, Nat.le_refl _⟩ dX12_leaving_73 (fun hz6 H locs G => ?_)
              refine lv_if_eq (tgt := 81) hx hb dX12_leaving_76 (by decide) (fun h => ?_) (fun h => ?_)
              · have hf := it_t h hf
                exact J _ _ G
              · have hf := it_f h hf
                exact absurd (Option.some.inj hf) (by decide)
      | false =>
        have hf := it_f (by decide) hf
        have J : ∀ (H : Heap) (locs : List Loc), xG s E A (wM E ad m_thrown m_trouble m_where m_rv m_tape m_taped m_size m_spot m_sort m_place m_number m_fault m_wrongAt m_word m_v m_x m_past m_kept m_acts m_images m_matchNow m_slopsNow m_matchesNow m_slopped m_seatBest m_fedBest m_slopsBest m_sawBest m_leastNow m_stableNow m_fitsNow m_someNow m_everyNow m_otherIn m_askLeft tb_seats tb_slack tb_saw tb_quarrel tb_people tb_pairs tb_forks tb_unsures tb_trieds tb_fed tb_seat tb_one tb_other tb_years tb_kind tb_unsure tb_may tb_tried tb_name) H locs → W p l e (xR 4 87) s m args below meth c H locs 0 0 (MQ below (xqI E A (wM E ad m_thrown m_trouble m_where m_rv m_tape m_taped m_size m_spot m_sort m_place m_number m_fault m_wrongAt m_word m_v m_x m_past m_kept m_acts m_images m_matchNow m_slopsNow m_matchesNow m_slopped m_seatBest m_fedBest m_slopsBest m_sawBest m_leastNow m_stableNow m_fitsNow m_someNow m_everyNow m_otherIn m_askLeft tb_seats tb_slack tb_saw tb_quarrel tb_people tb_pairs tb_forks tb_unsures tb_trieds tb_fed tb_seat tb_one tb_other tb_years tb_kind tb_unsure tb_may tb_tried tb_name) (some .int) R0) args s 0 0 A) (F0 m 79 ls []) := by
          intro H locs G
          refine lv_iload_n hx hb dX12_leaving_79 rfl (lv_at hl 2 rfl) ?_
          obtain rfl := Jr _ (Option.some.inj hf).symm
          exact xI_ret C G rfl dX12_leaving_80
        have hf := hr
        clear hr
        refine lv_if_ne (tgt := 81) hx hb dX12_leaving_18 (by decide) (fun h => ?_) (fun h => ?_)
        · have hf := it_f h hf
          exact absurd (Option.some.inj hf) (by decide)
        · have hf := it_t h hf
          refine lv_aload_n hx hb dX12_leaving_21 rfl (lv_at hl 0 rfl) ?_
          refine lv_iload_n hx hb dX12_leaving_22 rfl (lv_at hl 2 rfl) ?_
          obtain ⟨x7, hc, hf⟩ := bd_go hf
          refine xI_V C G (c_M_isFeeding_m_M hc) mX12_isFeeding kX12_336 (wM_at0) rfl ⟨Nat.le_of_ble_eq_true rfl, Nat.le_of_ble_eq_true rfl⟩ rfl hl.1 rfl (Nat.le_of_ble_eq_true rfl) ⟨Nat.le_refl _, Nat.le_refl _⟩ dX12_leaving_23 (fun hz7 H locs G => ?_)
          refine lv_if_eq (tgt := 81) hx hb dX12_leaving_26 (by decide) (fun h => ?_) (fun h => ?_)
          · have hf := it_t h hf
            exact absurd (Option.some.inj hf) (by decide)
          · have hf := it_f h hf
            refine lv_aload_n hx hb dX12_leaving_29 rfl (lv_at hl 0 rfl) ?_
            refine lv_iload_n hx hb dX12_leaving_30 rfl (lv_at hl 1 rfl) ?_
            refine lv_aload_n hx hb dX12_leaving_31 rfl (lv_at hl 0 rfl) ?_
            refine x_get C G fX12_21 (wM_at0) rfl dX12_leaving_32 ?_
            refine lv_iconst (v := 5) hx hb dX12_leaving_35 (by decide) ?_
            refine lv_iload_n hx hb dX12_leaving_36 rfl (lv_at hl 2 rfl) ?_
            refine lv_iadd hx hb dX12_leaving_37 ?_
            have hi := ck_in hf
            have hf := ck_go hf
            refine x_iald C G (wM_at3) hi dX12_leaving_38 ?_
            refine lv_aload_n hx hb dX12_leaving_39 rfl (lv_at hl 0 rfl) ?_
            refine x_get C G fX12_21 (wM_at0) rfl dX12_leaving_40 ?_
            refine lv_bipush (v := 15) hx hb dX12_leaving_43 (by decide) ?_
            refine lv_iload_n hx hb dX12_leaving_45 rfl (lv_at hl 2 rfl) ?_
            refine lv_iadd hx hb dX12_leaving_46 ?_
            have hi := ck_in hf
            have hf := ck_go hf
            refine x_iald C G (wM_at3) hi dX12_leaving_47 ?_
            obtain ⟨x8, hc, hf⟩ := bd_go hf
            refine xI_V C G (c_M_isRather_m_M hc) mX12_isRather kX12_430 (wM_at0) rfl ⟨Nat.le_of_ble_eq_true rfl, Nat.le_of_ble_eq_true rfl⟩ rfl hl.1 rfl (Nat.le_of_ble_eq_true rfl) ⟨Nat.le_refl _, Nat.le_refl _⟩ dX12_leaving_48 (fun hz8 H locs G => ?_)
            refine lv_if_eq (tgt := 81) hx hb dX12_leaving_51 (by decide) (fun h => ?_) (fun h => ?_)
            · have hf := it_t h hf
              exact absurd (Option.some.inj hf) (by decide)
            · have hf := it_f h hf
              refine lv_aload_n hx hb dX12_leaving_54 rfl (lv_at hl 0 rfl) ?_
              refine lv_iload_n hx hb dX12_leaving_55 rfl (lv_at hl 1 rfl) ?_
              refine lv_aload_n hx hb dX12_leaving_56 rfl (lv_at hl 0 rfl) ?_
              refine x_get C G fX12_21 (wM_at0) rfl dX12_leaving_57 ?_
              refine lv_bipush (v := 15) hx hb dX12_leaving_60 (by decide) ?_
              refine lv_iload_n hx hb dX12_leaving_62 rfl (lv_at hl 2 rfl) ?_
              refine lv_iadd hx hb dX12_leaving_63 ?_
              have hi := ck_in hf
              have hf := ck_go hf
              refine x_iald C G (wM_at3) hi dX12_leaving_64 ?_
              refine lv_aload_n hx hb dX12_leaving_65 rfl (lv_at hl 0 rfl) ?_
              refine x_get C G fX12_21 (wM_at0) rfl dX12_leaving_66 ?_
              refine lv_iconst (v := 5) hx hb dX12_leaving_69 (by decide) ?_
              refine lv_iload_n hx hb dX12_leaving_70 rfl (lv_at hl 2 rfl) ?_
              refine lv_iadd hx hb dX12_leaving_71 ?_
              have hi := ck_in hf
              have hf := ck_go hf
              refine x_iald C G (wM_at3) hi dX12_leaving_72 ?_
              obtain ⟨x9, hc, hf⟩ := bd_go hf
              refine xI_V C G (c_M_isRather_m_M hc) mX12_isRather kX12_430 (wM_at0) rfl ⟨Nat.le_of_ble_eq_true rfl, Nat.le_of_ble_eq_true rfl⟩ rfl hl.1 rfl (Nat.le_of_ble_eq_true rfl) ⟨Nat.le_refl _, Nat.le_refl _⟩ dX12_leaving_73 (fun hz9 H locs G => ?_)
              refine lv_if_eq (tgt := 81) hx hb dX12_leaving_76 (by decide) (fun h => ?_) (fun h => ?_)
              · have hf := it_t h hf
                exact absurd (Option.some.inj hf) (by decide)
              · have hf := it_f h hf
                exact J _ _ G
set_option maxHeartbeats 4000000 in
set_option maxRecDepth 100000 in
theorem c_M_leaving_m_M {l : Launch} {E : xE} {ad : Nat → Nat} {m_thrown m_trouble m_where m_taped m_size m_spot m_sort m_place m_number m_fault m_wrongAt m_acts m_images m_matchNow m_slopsNow m_matchesNow m_fedBest m_slopsBest m_sawBest m_leastNow m_stableNow m_fitsNow m_someNow m_everyNow m_askLeft tb_seats tb_slack tb_saw tb_quarrel tb_people tb_pairs tb_forks tb_unsures tb_trieds tb_fed : Int32} {m_rv : Value} {m_tape m_v m_x m_past m_kept m_slopped m_seatBest m_otherIn tb_seat tb_one tb_other tb_years tb_kind tb_unsure tb_may tb_tried : Nat → Int32} {m_word : Int64} {tb_name : Nat → Int64} {l1 : Int32} {R0 : Int32} (hf : f_M_leaving l1 m_x tb_slack = some R0) : xI l E yX12_leaving cX12_leaving 3 (some .int) 4 87 [.ref (ad 0), .int l1] (wM E ad m_thrown m_trouble m_where m_rv m_tape m_taped m_size m_spot m_sort m_place m_number m_fault m_wrongAt m_word m_v m_x m_past m_kept m_acts m_images m_matchNow m_slopsNow m_matchesNow m_slopped m_seatBest m_fedBest m_slopsBest m_sawBest m_leastNow m_stableNow m_fitsNow m_someNow m_everyNow m_otherIn m_askLeft tb_seats tb_slack tb_saw tb_quarrel tb_people tb_pairs tb_forks tb_unsures tb_trieds tb_fed tb_seat tb_one tb_other tb_years tb_kind tb_unsure tb_may tb_tried tb_name) (wM E ad m_thrown m_trouble m_where m_rv m_tape m_taped m_size m_spot m_sort m_place m_number m_fault m_wrongAt m_word m_v m_x m_past m_kept m_acts m_images m_matchNow m_slopsNow m_matchesNow m_slopped m_seatBest m_fedBest m_slopsBest m_sawBest m_leastNow m_stableNow m_fitsNow m_someNow m_everyNow m_otherIn m_askLeft tb_seats tb_slack tb_saw tb_quarrel tb_people tb_pairs tb_forks tb_unsures tb_trieds tb_fed tb_seat tb_one tb_other tb_years tb_kind tb_unsure tb_may tb_tried tb_name) R0 := by
  refine xI_of (by decide) (Nat.le_of_ble_eq_true rfl) (fun p e s m args below meth c A C ls hl G => ?_)
  have hx := C.1
  have hb := C.2.1
  have hl : lv_has ls 3 [(0, .ref (ad 0)), (1, .int l1)] := hl
  unfold f_M_leaving at hf
  refine lv_iconst (v := 0) hx hb dX12_leaving_0 (by decide) ?_
  refine lv_istore_n (lv' := [(2, .int (0 : Int32)), (0, .ref (ad 0)), (1, .int l1)]) hx hb dX12_leaving_1 rfl hl (by decide) rfl (fun ls hl => ?_)
  obtain ⟨ox10, hr, hf⟩ := bd_go hf
  have Jx10 : ∀ x10, ox10 = .inr x10 → ∀ (H : Heap) (locs : List Loc) (ls : Array Slot), xG s E A (wM E ad m_thrown m_trouble m_where m_rv m_tape m_taped m_size m_spot m_sort m_place m_number m_fault m_wrongAt m_word m_v m_x m_past m_kept m_acts m_images m_matchNow m_slopsNow m_matchesNow m_slopped m_seatBest m_fedBest m_slopsBest m_sawBest m_leastNow m_stableNow m_fitsNow m_someNow m_everyNow m_otherIn m_askLeft tb_seats tb_slack tb_saw tb_quarrel tb_people tb_pairs tb_forks tb_unsures tb_trieds tb_fed tb_seat tb_one tb_other tb_years tb_kind tb_unsure tb_may tb_tried tb_name) H locs → lv_has ls 3 [] → W p l e (xR 4 87) s m args below meth c H locs 0 0 (MQ below (xqI E A (wM E ad m_thrown m_trouble m_where m_rv m_tape m_taped m_size m_spot m_sort m_place m_number m_fault m_wrongAt m_word m_v m_x m_past m_kept m_acts m_images m_matchNow m_slopsNow m_matchesNow m_slopped m_seatBest m_fedBest m_slopsBest m_sawBest m_leastNow m_stableNow m_fitsNow m_someNow m_everyNow m_otherIn m_askLeft tb_seats tb_slack tb_saw tb_quarrel tb_people tb_pairs tb_forks tb_unsures tb_trieds tb_fed tb_seat tb_one tb_other tb_years tb_kind tb_unsure tb_may tb_tried tb_name) (some .int) R0) args s 0 0 A) (F0 m 87 ls []) := by
    intro x10 hq H locs ls G hl
    subst hq
    have hf := sm_r hf
    refine lv_bipush (v := -2) hx hb dX12_leaving_87 (by decide) ?_
    obtain rfl := Option.some.inj hf
    exact xI_ret C G rfl dX12_leaving_89
  have Jrx10 : ∀ r, ox10 = .inl r → r = R0 := by
    intro r hq
    subst hq
    exact Option.some.inj hf
  exact w_M_leaving_m_M_L2 C Jrx10 Jx10 fu _ _ _ _ G (lv_sub hl [1, 2, 0] rfl) hr
set_option maxHeartbeats 4000000 in
set_option maxRecDepth 100000 in
theorem w_M_stables_m_M_L13 {p : Program} {l : Launch} {e : Env} {s : State} {m : MethodId} {args : Array Value} {below : List Frame} {meth : Method} {c : Code} {A : Nat → Prop} {E : xE} {Q : State → Prop} {ad : Nat → Nat} {m_thrown m_trouble m_where m_taped m_size m_spot m_sort m_place m_number m_fault m_wrongAt m_acts m_images m_matchNow m_slopsNow m_matchesNow m_fedBest m_slopsBest m_sawBest m_leastNow m_fitsNow m_someNow m_everyNow m_askLeft tb_seats tb_slack tb_saw tb_quarrel tb_people tb_pairs tb_forks tb_unsures tb_trieds tb_fed : Int32} {m_rv : Value} {m_tape m_v m_x m_past m_kept m_slopped m_seatBest m_otherIn tb_seat tb_one tb_other tb_years tb_kind tb_unsure tb_may tb_tried : Nat → Int32} {m_word : Int64} {tb_name : Nat → Int64} {l1 : Int32} {o : Int32 × Int32} (C : xC p s m args meth c cX12_stables 4 RX12 E A (some .int)) (J : ∀ (H : Heap) (locs : List Loc) (ls : Array Slot), xG s E A (wM E ad m_thrown m_trouble m_where m_rv m_tape m_taped m_size m_spot m_sort m_place m_number m_fault m_wrongAt m_word m_v m_x m_past m_kept m_acts m_images m_matchNow m_slopsNow m_matchesNow m_slopped m_seatBest m_fedBest m_slopsBest m_sawBest m_leastNow o.2 m_fitsNow m_someNow m_everyNow m_otherIn m_askLeft tb_seats tb_slack tb_saw tb_quarrel tb_people tb_pairs tb_forks tb_unsures tb_trieds tb_fed tb_seat tb_one tb_other tb_years tb_kind tb_unsure tb_may tb_tried tb_name) H locs → lv_has ls 4 [(2, .int o.1)] → W p l e (xR 5 110) s m args below meth c H locs 0 0 Q (F0 m 81 ls [])) :
    ∀ (n : Nat) (l2 : Int32) (l3 : Int32) (m_stableNow : Int32) (H : Heap) (locs : List Loc) (ls : Array Slot), xG s E A (wM E ad m_thrown m_trouble m_where m_rv m_tape m_taped m_size m_spot m_sort m_place m_number m_fault m_wrongAt m_word m_v m_x m_past m_kept m_acts m_images m_matchNow m_slopsNow m_matchesNow m_slopped m_seatBest m_fedBest m_slopsBest m_sawBest m_leastNow m_stableNow m_fitsNow m_someNow m_everyNow m_otherIn m_askLeft tb_seats tb_slack tb_saw tb_quarrel tb_people tb_pairs tb_forks tb_unsures tb_trieds tb_fed tb_seat tb_one tb_other tb_years tb_kind tb_unsure tb_may tb_tried tb_name) H locs → lv_has ls 4 [(0, .ref (ad 0)), (1, .int l1), (2, .int l2), (3, .int l3)] → f_M_stables_L13 l1 m_x tb_slack n l2 l3 m_stableNow = some o → W p l e (xR 5 110) s m args below meth c H locs 0 0 Q (F0 m 13 ls []) := by
  have hx := C.1
  have hb := C.2.1
  intro n
  induction n with
  | zero =>
    intro l2 l3 m_stableNow H locs ls G hl hf
    exact nomatch (show (none : Option (Int32 × Int32)) = some o from hf)
  | succ n ih =>
    intro l2 l3 m_stableNow H locs ls G hl hf
    rw [f_M_stables_L13] at hf
    refine lv_iload_n hx hb dX12_stables_13 rfl (lv_at hl 3 rfl) ?_
    refine lv_iconst (v := 1) hx hb dX12_stables_14 (by decide) ?_
    refine lv_aload_n hx hb dX12_stables_15 rfl (lv_at hl 0 rfl) ?_
    refine x_get C G fX12_21 (wM_at0) rfl dX12_stables_16 ?_
    refine lv_bipush (v := 55) hx hb dX12_stables_19 (by decide) ?_
    have hi := ck_in hf
    have hf := ck_go hf
    refine x_iald C G (wM_at3) hi dX12_stables_21 ?_
    refine lv_ishl hx hb dX12_stables_22 ?_
    refine lv_icmp_ge (tgt := 81) hx hb dX12_stables_23 (by decide) (fun h => ?_) (fun h => ?_)
    · have hf := it_t h hf
      obtain rfl := Option.some.inj hf
      exact J _ _ _ G (lv_sub hl [2] rfl)
    · have hf := it_f h hf
      refine lv_iload_n hx hb dX12_stables_26 rfl (lv_at hl 3 rfl) ?_
      obtain ⟨x2, hc, hf⟩ := bd_go hf
      refine xI_S C G (c_M_bits_any hc) mX12_bits kX12_234 ⟨Nat.le_of_ble_eq_true rfl, Nat.le_of_ble_eq_true rfl⟩ rfl hl.1 rfl (Nat.le_of_ble_eq_true rfl) ⟨Nat.le_refl _, Nat.le_refl _⟩ dX12_stables_27 (fun hz H locs G => ?_)
      refine lv_iconst (v := 2) hx hb dX12_stables_30 (by decide) ?_
      obtain ⟨b3, hr, hf⟩ := bd_go hf
      cases b3 with
      | true =>
        have hf := it_t rfl hf
        have J : ∀ (H : Heap) (locs : List Loc), xG s E A (wM E ad m_thrown m_trouble m_where m_rv m_tape m_taped m_size m_spot m_sort m_place m_number m_fault m_wrongAt m_word m_v m_x m_past m_kept m_acts m_images m_matchNow m_slopsNow m_matchesNow m_slopped m_seatBest m_fedBest m_slopsBest m_sawBest m_leastNow m_stableNow m_fitsNow m_someNow m_everyNow m_otherIn m_askLeft tb_seats tb_slack tb_saw tb_quarrel tb_people tb_pairs tb_forks tb_unsures tb_trieds tb_fed tb_seat tb_one tb_other tb_years tb_kind tb_unsure tb_may tb_tried tb_name) H locs → W p l e (xR 5 110) s m args below meth c H locs 0 0 Q (F0 m 75 ls []) := by
          intro H locs G
          obtain ⟨x4, ex4⟩ : ∃ z : Int32, z = l3 + (1 : Int32) := ⟨_, rfl⟩
          have hf := lt_go ex4 hf
          refine lv_iinc (v := x4) (lv' := [(3, .int x4), (0, .ref (ad 0)), (1, .int l1), (2, .int l2)]) hx hb dX12_stables_75 hl (k := 3) rfl (by rw [ex4]; rfl) (by decide) rfl (fun ls hl => ?_)
          refine lv_goto (tgt := 13) hx hb dX12_stables_78 (by decide) ?_
          exact ih l2 x4 m_stableNow _ _ _ G (lv_sub hl [1, 2, 3, 0] rfl) hf
        have hf := hr
        clear hr
        refine lv_icmp_gt (tgt := 75) hx hb dX12_stables_31 (by decide) (fun h => ?_) (fun h => ?_)
        · have hf := it_t h hf
          exact J _ _ G
        · have hf := it_f h hf
          refine lv_aload_n hx hb dX12_stables_34 rfl (lv_at hl 0 rfl) ?_
          refine lv_iload_n hx hb dX12_stables_35 rfl (lv_at hl 3 rfl) ?_
          obtain ⟨x5, hc, hf⟩ := bd_go hf
          refine xI_V C G (c_M_isMatch_m_M hc) mX12_isMatch kX12_436 (wM_at0) rfl ⟨Nat.le_of_ble_eq_true rfl, Nat.le_of_ble_eq_true rfl⟩ rfl hl.1 rfl (Nat.le_of_ble_eq_true rfl) ⟨Nat.le_refl _, Nat.le_refl _⟩ dX12_stables_36 (fun hz5 H locs G => ?_)
          refine lv_if_eq (tgt := 75) hx hb dX12_stables_39 (by decide) (fun h => ?_) (fun h => ?_)
          · have hf := it_t h hf
            exact J _ _ G
          · have hf := it_f h hf
            exact absurd (Option.some.inj hf) (by decide)
      | false =>
        have hf := it_f (by decide) hf
        have J : ∀ (H : Heap) (locs : List Loc), xG s E A (wM E ad m_thrown m_trouble m_where m_rv m_tape m_taped m_size m_spot m_sort m_place m_number m_fault m_wrongAt m_word m_v m_x m_past m_kept m_acts m_images m_matchNow m_slopsNow m_matchesNow m_slopped m_seatBest m_fedBest m_slopsBest m_sawBest m_leastNow m_stableNow m_fitsNow m_someNow m_everyNow m_otherIn m_askLeft tb_seats tb_slack tb_saw tb_quarrel tb_people tb_pairs tb_forks tb_unsures tb_trieds tb_fed tb_seat tb_one tb_other tb_years tb_kind tb_unsure tb_may tb_tried tb_name) H locs → W p l e (xR 5 110) s m args below meth c H locs 0 0 Q (F0 m 42 ls []) := by
          intro H locs G
          refine lv_aload_n hx hb dX12_stables_42 rfl (lv_at hl 0 rfl) ?_
          refine lv_iload_n hx hb dX12_stables_43 rfl (lv_at hl 3 rfl) ?_
          obtain ⟨x6, hc, hf⟩ := bd_go hf
          refine xI_V C G (c_M_leaving_m_M hc) mX12_leaving kX12_439 (wM_at0) rfl ⟨Nat.le_of_ble_eq_true rfl, Nat.le_of_ble_eq_true rfl⟩ rfl hl.1 rfl (Nat.le_of_ble_eq_true rfl) ⟨Nat.le_refl _, Nat.le_refl _⟩ dX12_stables_44 (fun hz H locs G => ?_)
          refine lv_bipush (v := -2) hx hb dX12_stables_47 (by decide) ?_
          refine lv_icmp_eq (tgt := 55) hx hb dX12_stables_49 (by decide) (fun h => ?_) (fun h => ?_)
          · have hf := it_t h hf
            refine lv_aload_n hx hb dX12_stables_55 rfl (lv_at hl 0 rfl) ?_
            refine x_get C G fX12_433.g (wM_at0) rfl dX12_stables_56 ?_
            refine lv_iload_n hx hb dX12_stables_59 rfl (lv_at hl 1 rfl) ?_
            obtain ⟨x7, hrx7, hf⟩ := bd_go hf
            have Jx7 : ∀ (H : Heap) (locs : List Loc) (ls : Array Slot), xG s E A (wM E ad m_thrown m_trouble m_where m_rv m_tape m_taped m_size m_spot m_sort m_place m_number m_fault m_wrongAt m_word m_v m_x m_past m_kept m_acts m_images m_matchNow m_slopsNow m_matchesNow m_slopped m_seatBest m_fedBest m_slopsBest m_sawBest m_leastNow m_stableNow m_fitsNow m_someNow m_everyNow m_otherIn m_askLeft tb_seats tb_slack tb_saw tb_quarrel tb_people tb_pairs tb_forks tb_unsures tb_trieds tb_fed tb_seat tb_one tb_other tb_years tb_kind tb_unsure tb_may tb_tried tb_name) H locs → lv_has ls 4 [(0, .ref (ad 0)), (1, .int l1), (2, .int x7), (3, .int l3)] → W p l e (xR 5 110) s m args below meth c H locs 0 0 Q (F0 m 65 ls []) := by
              intro H locs ls G hl
              refine lv_aload_n hx hb dX12_stables_65 rfl (lv_at hl 0 rfl) ?_
              refine lv_dup hx hb dX12_stables_66 rfl ?_
              refine x_get C G fX12_433.g (wM_at0) rfl dX12_stables_67 ?_
              refine lv_iconst (v := 1) hx hb dX12_stables_70 (by decide) ?_
              refine lv_iadd hx hb dX12_stables_71 ?_
              refine lv_topi (fun x8 ex8 => ?_)
              have hf := lt_go ex8 hf
              refine x_put (ws' := (wM E ad m_thrown m_trouble m_where m_rv m_tape m_taped m_size m_spot m_sort m_place m_number m_fault m_wrongAt m_word m_v m_x m_past m_kept m_acts m_images m_matchNow m_slopsNow m_matchesNow m_slopped m_seatBest m_fedBest m_slopsBest m_sawBest m_leastNow x8 m_fitsNow m_someNow m_everyNow m_otherIn m_askLeft tb_seats tb_slack tb_saw tb_quarrel tb_people tb_pairs tb_forks tb_unsures tb_trieds tb_fed tb_seat tb_one tb_other tb_years tb_kind tb_unsure tb_may tb_tried tb_name)) C G fX12_433 (wM_at0) rfl rfl (Nat.le_of_ble_eq_true rfl) wM_set_m_stableNow dX12_stables_72 (fun H locs G => ?_)
              obtain ⟨x9, ex9⟩ : ∃ z : Int32, z = l3 + (1 : Int32) := ⟨_, rfl⟩
              have hf := lt_go ex9 hf
              refine lv_iinc (v := x9) (lv' := [(3, .int x9), (0, .ref (ad 0)), (1, .int l1), (2, .int x7)]) hx hb dX12_stables_75 hl (k := 3) rfl (by rw [ex9]; rfl) (by decide) rfl (fun ls hl => ?_)
              refine lv_goto (tgt := 13) hx hb dX12_stables_78 (by decide) ?_
              exact ih x7 x9 x8 _ _ _ G (lv_sub hl [1, 2, 3, 0] rfl) hf
            have hf := hrx7
            refine lv_icmp_ne (tgt := 65) hx hb dX12_stables_60 (by decide) (fun h => ?_) (fun h => ?_)
            · have hf := it_f h hf
              obtain rfl := Option.some.inj hf
              exact Jx7 _ _ _ G (lv_sub hl [0, 1, 2, 3] rfl)
            · have hf := it_t h hf
              refine lv_iload_n hx hb dX12_stables_63 rfl (lv_at hl 3 rfl) ?_
              refine lv_istore_n (lv' := [(2, .int l3), (0, .ref (ad 0)), (1, .int l1), (3, .int l3)]) hx hb dX12_stables_64 rfl hl (by decide) rfl (fun ls hl => ?_)
              obtain rfl := Option.some.inj hf
              exact Jx7 _ _ _ G (lv_sub hl [1, 2, 0, 3] rfl)
          · have hf := it_f h hf
            refine lv_goto (tgt := 75) hx hb dX12_stables_52 (by decide) ?_
            obtain ⟨x10, ex10⟩ : ∃ z : Int32, z = l3 + (1 : Int32) := ⟨_, rfl⟩
            have hf := lt_go ex10 hf
            refine lv_iinc (v := x10) (lv' := [(3, .int x10), (0, .ref (ad 0)), (1, .int l1), (2, .int l2)]) hx hb dX12_stables_75 hl (k := 3) rfl (by rw [ex10]; rfl) (by decide) rfl (fun ls hl => ?_)
            refine lv_goto (tgt := 13) hx hb dX12_stables_78 (by decide) ?_
            exact ih l2 x10 m_stableNow _ _ _ G (lv_sub hl [1, 2, 3, 0] rfl) hf
        have hf := hr
        clear hr
        refine lv_icmp_gt (tgt := 75) hx hb dX12_stables_31 (by decide) (fun h => ?_) (fun h => ?_)
        · have hf := it_t h hf
          exact absurd (Option.some.inj hf) (by decide)
        · have hf := it_f h hf
          refine lv_aload_n hx hb dX12_stables_34 rfl (lv_at hl 0 rfl) ?_
          refine lv_iload_n hx hb dX12_stables_35 rfl (lv_at hl 3 rfl) ?_
          obtain ⟨x11, hc, hf⟩ := bd_go hf
          refine xI_V C G (c_M_isMatch_m_M hc) mX12_isMatch kX12_436 (wM_at0) rfl ⟨Nat.le_of_ble_eq_true rfl, Nat.le_of_ble_eq_true rfl⟩ rfl hl.1 rfl (Nat.le_of_ble_eq_true rfl) ⟨Nat.le_refl _, Nat.le_refl _⟩ dX12_stables_36 (fun hz11 H locs G => ?_)
          refine lv_if_eq (tgt := 75) hx hb dX12_stables_39 (by decide) (fun h => ?_) (fun h => ?_)
          · have hf := it_t h hf
            exact absurd (Option.some.inj hf) (by decide)
          · have hf := it_f h hf
            exact J _ _ G
set_option maxHeartbeats 4000000 in
set_option maxRecDepth 100000 in
theorem c_M_stables_m_M {l : Launch} {E : xE} {ad : Nat → Nat} {m_thrown m_trouble m_where m_taped m_size m_spot m_sort m_place m_number m_fault m_wrongAt m_acts m_images m_matchNow m_slopsNow m_matchesNow m_fedBest m_slopsBest m_sawBest m_leastNow m_stableNow m_fitsNow m_someNow m_everyNow m_askLeft tb_seats tb_slack tb_saw tb_quarrel tb_people tb_pairs tb_forks tb_unsures tb_trieds tb_fed : Int32} {m_rv : Value} {m_tape m_v m_x m_past m_kept m_slopped m_seatBest m_otherIn tb_seat tb_one tb_other tb_years tb_kind tb_unsure tb_may tb_tried : Nat → Int32} {m_word : Int64} {tb_name : Nat → Int64} {l1 : Int32} {R0 : Int32 × (Nat → Int32) × Int32} (hf : f_M_stables l1 m_v m_x tb_slack = some R0) : xI l E yX12_stables cX12_stables 4 (some .int) 5 110 [.ref (ad 0), .int l1] (wM E ad m_thrown m_trouble m_where m_rv m_tape m_taped m_size m_spot m_sort m_place m_number m_fault m_wrongAt m_word m_v m_x m_past m_kept m_acts m_images m_matchNow m_slopsNow m_matchesNow m_slopped m_seatBest m_fedBest m_slopsBest m_sawBest m_leastNow m_stableNow m_fitsNow m_someNow m_everyNow m_otherIn m_askLeft tb_seats tb_slack tb_saw tb_quarrel tb_people tb_pairs tb_forks tb_unsures tb_trieds tb_fed tb_seat tb_one tb_other tb_years tb_kind tb_unsure tb_may tb_tried tb_name) (wM E ad m_thrown m_trouble m_where m_rv m_tape m_taped m_size m_spot m_sort m_place m_number m_fault m_wrongAt m_word m_v R0.2.1 m_past m_kept m_acts m_images m_matchNow m_slopsNow m_matchesNow m_slopped m_seatBest m_fedBest m_slopsBest m_sawBest m_leastNow R0.2.2 m_fitsNow m_someNow m_everyNow m_otherIn m_askLeft tb_seats tb_slack tb_saw tb_quarrel tb_people tb_pairs tb_forks tb_unsures tb_trieds tb_fed tb_seat tb_one tb_other tb_years tb_kind tb_unsure tb_may tb_tried tb_name) R0.1 := by
  refine xI_of (by decide) (Nat.le_of_ble_eq_true rfl) (fun p e s m args below meth c A C ls hl G => ?_)
  have hx := C.1
  have hb := C.2.1
  have hl : lv_has ls 4 [(0, .ref (ad 0)), (1, .int l1)] := hl
  unfold f_M_stables at hf
  refine lv_aload_n hx hb dX12_stables_0 rfl (lv_at hl 0 rfl) ?_
  obtain ⟨x1, hc, hf⟩ := bd_go hf
  refine xV_V C G (c_M_works_m_M hc) mX12_works kX12_333 (wM_at0) rfl ⟨Nat.le_of_ble_eq_true rfl, Nat.le_of_ble_eq_true rfl⟩ rfl hl.1 rfl (Nat.le_of_ble_eq_true rfl) ⟨Nat.le_refl _, Nat.le_refl _⟩ dX12_stables_1 (fun H locs G => ?_)
  refine lv_aload_n hx hb dX12_stables_4 rfl (lv_at hl 0 rfl) ?_
  refine lv_iconst (v := 0) hx hb dX12_stables_5 (by decide) ?_
  refine x_put (ws' := (wM E ad m_thrown m_trouble m_where m_rv m_tape m_taped m_size m_spot m_sort m_place m_number m_fault m_wrongAt m_word m_v x1 m_past m_kept m_acts m_images m_matchNow m_slopsNow m_matchesNow m_slopped m_seatBest m_fedBest m_slopsBest m_sawBest m_leastNow (0 : Int32) m_fitsNow m_someNow m_everyNow m_otherIn m_askLeft tb_seats tb_slack tb_saw tb_quarrel tb_people tb_pairs tb_forks tb_unsures tb_trieds tb_fed tb_seat tb_one tb_other tb_years tb_kind tb_unsure tb_may tb_tried tb_name)) C G fX12_433 (wM_at0) rfl rfl (Nat.le_of_ble_eq_true rfl) wM_set_m_stableNow dX12_stables_6 (fun H locs G => ?_)
  refine lv_iconst (v := -1) hx hb dX12_stables_9 (by decide) ?_
  refine lv_istore_n (lv' := [(2, .int (-1 : Int32)), (0, .ref (ad 0)), (1, .int l1)]) hx hb dX12_stables_10 rfl hl (by decide) rfl (fun ls hl => ?_)
  refine lv_iconst (v := 0) hx hb dX12_stables_11 (by decide) ?_
  refine lv_istore_n (lv' := [(3, .int (0 : Int32)), (2, .int (-1 : Int32)), (0, .ref (ad 0)), (1, .int l1)]) hx hb dX12_stables_12 rfl hl (by decide) rfl (fun ls hl => ?_)
  obtain ⟨x12, hr, hf⟩ := bd_go hf
  have Jx12 : ∀ (H : Heap) (locs : List Loc) (ls : Array Slot), xG s E A (wM E ad m_thrown m_trouble m_where m_rv m_tape m_taped m_size m_spot m_sort m_place m_number m_fault m_wrongAt m_word m_v x1 m_past m_kept m_acts m_images m_matchNow m_slopsNow m_matchesNow m_slopped m_seatBest m_fedBest m_slopsBest m_sawBest m_leastNow x12.2 m_fitsNow m_someNow m_everyNow m_otherIn m_askLeft tb_seats tb_slack tb_saw tb_quarrel tb_people tb_pairs tb_forks tb_unsures tb_trieds tb_fed tb_seat tb_one tb_other tb_years tb_kind tb_unsure tb_may tb_tried tb_name) H locs → lv_has ls 4 [(2, .int x12.1)] → W p l e (xR 5 110) s m args below meth c H locs 0 0 (MQ below (xqI E A (wM E ad m_thrown m_trouble m_where m_rv m_tape m_taped m_size m_spot m_sort m_place m_number m_fault m_wrongAt m_word m_v R0.2.1 m_past m_kept m_acts m_images m_matchNow m_slopsNow m_matchesNow m_slopped m_seatBest m_fedBest m_slopsBest m_sawBest m_leastNow R0.2.2 m_fitsNow m_someNow m_everyNow m_otherIn m_askLeft tb_seats tb_slack tb_saw tb_quarrel tb_people tb_pairs tb_forks tb_unsures tb_trieds tb_fed tb_seat tb_one tb_other tb_years tb_kind tb_unsure tb_may tb_tried tb_name) (some .int) R0.1) args s 0 0 A) (F0 m 81 ls []) := by
    intro H locs ls G hl
    refine lv_iload_n hx hb dX12_stables_81 rfl (lv_at hl 0 rfl) ?_
    obtain rfl := Option.some.inj hf
    exact xI_ret C G rfl dX12_stables_82
  exact w_M_stables_m_M_L13 C Jx12 fu _ _ _ _ _ _ G (lv_sub hl [2, 3, 1, 0] rfl) hr
set_option maxHeartbeats 4000000 in
set_option maxRecDepth 100000 in
theorem c_M_stable_m_M {l : Launch} {E : xE} {ad : Nat → Nat} {m_thrown m_trouble m_where m_taped m_size m_spot m_sort m_place m_number m_fault m_wrongAt m_acts m_images m_matchNow m_slopsNow m_matchesNow m_fedBest m_slopsBest m_sawBest m_leastNow m_stableNow m_fitsNow m_someNow m_everyNow m_askLeft tb_seats tb_slack tb_saw tb_quarrel tb_people tb_pairs tb_forks tb_unsures tb_trieds tb_fed : Int32} {m_rv : Value} {m_tape m_v m_x m_past m_kept m_slopped m_seatBest m_otherIn tb_seat tb_one tb_other tb_years tb_kind tb_unsure tb_may tb_tried : Nat → Int32} {m_word : Int64} {tb_name : Nat → Int64} {R0 : Int32 × Int32 × Int32 × Int32 × (Nat → Int32) × Int32} (hf : f_M_stable m_v m_x tb_slack = some R0) : xI l E yX12_stable cX12_stable 1 (some .int) 6 133 [.ref (ad 0)] (wM E ad m_thrown m_trouble m_where m_rv m_tape m_taped m_size m_spot m_sort m_place m_number m_fault m_wrongAt m_word m_v m_x m_past m_kept m_acts m_images m_matchNow m_slopsNow m_matchesNow m_slopped m_seatBest m_fedBest m_slopsBest m_sawBest m_leastNow m_stableNow m_fitsNow m_someNow m_everyNow m_otherIn m_askLeft tb_seats tb_slack tb_saw tb_quarrel tb_people tb_pairs tb_forks tb_unsures tb_trieds tb_fed tb_seat tb_one tb_other tb_years tb_kind tb_unsure tb_may tb_tried tb_name) (wM E ad R0.2.1 R0.2.2.1 R0.2.2.2.1 m_rv m_tape m_taped m_size m_spot m_sort m_place m_number m_fault m_wrongAt m_word m_v R0.2.2.2.2.1 m_past m_kept m_acts m_images m_matchNow m_slopsNow m_matchesNow m_slopped m_seatBest m_fedBest m_slopsBest m_sawBest m_leastNow R0.2.2.2.2.2 m_fitsNow m_someNow m_everyNow m_otherIn m_askLeft tb_seats tb_slack tb_saw tb_quarrel tb_people tb_pairs tb_forks tb_unsures tb_trieds tb_fed tb_seat tb_one tb_other tb_years tb_kind tb_unsure tb_may tb_tried tb_name) R0.1 := by
  refine xI_of (by decide) (Nat.le_of_ble_eq_true rfl) (fun p e s m args below meth c A C ls hl G => ?_)
  have hx := C.1
  have hb := C.2.1
  have hl : lv_has ls 1 [(0, .ref (ad 0))] := hl
  unfold f_M_stable at hf
  refine lv_aload_n hx hb dX12_stable_0 rfl (lv_at hl 0 rfl) ?_
  refine lv_iconst (v := 0) hx hb dX12_stable_1 (by decide) ?_
  refine x_put (ws' := (wM E ad (0 : Int32) m_trouble m_where m_rv m_tape m_taped m_size m_spot m_sort m_place m_number m_fault m_wrongAt m_word m_v m_x m_past m_kept m_acts m_images m_matchNow m_slopsNow m_matchesNow m_slopped m_seatBest m_fedBest m_slopsBest m_sawBest m_leastNow m_stableNow m_fitsNow m_someNow m_everyNow m_otherIn m_askLeft tb_seats tb_slack tb_saw tb_quarrel tb_people tb_pairs tb_forks tb_unsures tb_trieds tb_fed tb_seat tb_one tb_other tb_years tb_kind tb_unsure tb_may tb_tried tb_name)) C G fX12_39 (wM_at0) rfl rfl (Nat.le_of_ble_eq_true rfl) wM_set_m_thrown dX12_stable_2 (fun H locs G => ?_)
  refine lv_aload_n hx hb dX12_stable_5 rfl (lv_at hl 0 rfl) ?_
  refine x_get C G fX12_298.g (wM_at0) rfl dX12_stable_6 ?_
  refine lv_ifnonnull (tgt := 18) hx hb dX12_stable_9 (by decide) ?_
  refine lv_aload_n hx hb dX12_stable_18 rfl (lv_at hl 0 rfl) ?_
  refine lv_iconst (v := -1) hx hb dX12_stable_19 (by decide) ?_
  obtain ⟨x1, hc, hf⟩ := bd_go hf
  refine xI_V C G (c_M_stables_m_M hc) mX12_stables kX12_442 (wM_at0) rfl ⟨Nat.le_of_ble_eq_true rfl, Nat.le_of_ble_eq_true rfl⟩ rfl hl.1 rfl (Nat.le_of_ble_eq_true rfl) ⟨Nat.le_refl _, Nat.le_refl _⟩ dX12_stable_20 (fun hz H locs G => ?_)
  refine lv_pop hx hb dX12_stable_23 rfl ?_
  refine lv_aload_n hx hb dX12_stable_24 rfl (lv_at hl 0 rfl) ?_
  refine lv_aload_n hx hb dX12_stable_25 rfl (lv_at hl 0 rfl) ?_
  refine x_get C G fX12_433.g (wM_at0) rfl dX12_stable_26 ?_
  obtain ⟨x2, hc, hf⟩ := bd_go hf
  refine xI_V C G (c_M_good_m_M hc) mX12_good kX12_49 (wM_at0) rfl ⟨Nat.le_of_ble_eq_true rfl, Nat.le_of_ble_eq_true rfl⟩ rfl hl.1 rfl (Nat.le_of_ble_eq_true rfl) ⟨Nat.le_refl _, Nat.le_refl _⟩ dX12_stable_29 (fun hz H locs G => ?_)
  obtain rfl := Option.some.inj hf
  exact xI_ret C G rfl dX12_stable_32
set_option maxHeartbeats 4000000 in
set_option maxRecDepth 100000 in
theorem c_M_stableAt_m_M {l : Launch} {E : xE} {ad : Nat → Nat} {m_thrown m_trouble m_where m_taped m_size m_spot m_sort m_place m_number m_fault m_wrongAt m_acts m_images m_matchNow m_slopsNow m_matchesNow m_fedBest m_slopsBest m_sawBest m_leastNow m_stableNow m_fitsNow m_someNow m_everyNow m_askLeft tb_seats tb_slack tb_saw tb_quarrel tb_people tb_pairs tb_forks tb_unsures tb_trieds tb_fed : Int32} {m_rv : Value} {m_tape m_v m_x m_past m_kept m_slopped m_seatBest m_otherIn tb_seat tb_one tb_other tb_years tb_kind tb_unsure tb_may tb_tried : Nat → Int32} {m_word : Int64} {tb_name : Nat → Int64} {l1 : Int32} {R0 : Int32 × Int32 × Int32 × Int32 × (Nat → Int32) × Int32} (hf : f_M_stableAt l1 m_v m_x m_stableNow tb_slack = some R0) : xI l E yX12_stableAt cX12_stableAt 3 (some .int) 6 133 [.ref (ad 0), .int l1] (wM E ad m_thrown m_trouble m_where m_rv m_tape m_taped m_size m_spot m_sort m_place m_number m_fault m_wrongAt m_word m_v m_x m_past m_kept m_acts m_images m_matchNow m_slopsNow m_matchesNow m_slopped m_seatBest m_fedBest m_slopsBest m_sawBest m_leastNow m_stableNow m_fitsNow m_someNow m_everyNow m_otherIn m_askLeft tb_seats tb_slack tb_saw tb_quarrel tb_people tb_pairs tb_forks tb_unsures tb_trieds tb_fed tb_seat tb_one tb_other tb_years tb_kind tb_unsure tb_may tb_tried tb_name) (wM E ad R0.2.1 R0.2.2.1 R0.2.2.2.1 m_rv m_tape m_taped m_size m_spot m_sort m_place m_number m_fault m_wrongAt m_word m_v R0.2.2.2.2.1 m_past m_kept m_acts m_images m_matchNow m_slopsNow m_matchesNow m_slopped m_seatBest m_fedBest m_slopsBest m_sawBest m_leastNow R0.2.2.2.2.2 m_fitsNow m_someNow m_everyNow m_otherIn m_askLeft tb_seats tb_slack tb_saw tb_quarrel tb_people tb_pairs tb_forks tb_unsures tb_trieds tb_fed tb_seat tb_one tb_other tb_years tb_kind tb_unsure tb_may tb_tried tb_name) R0.1 := by
  refine xI_of (by decide) (Nat.le_of_ble_eq_true rfl) (fun p e s m args below meth c A C ls hl G => ?_)
  have hx := C.1
  have hb := C.2.1
  have hl : lv_has ls 3 [(0, .ref (ad 0)), (1, .int l1)] := hl
  unfold f_M_stableAt at hf
  refine lv_aload_n hx hb dX12_stableAt_0 rfl (lv_at hl 0 rfl) ?_
  refine lv_iconst (v := 0) hx hb dX12_stableAt_1 (by decide) ?_
  refine x_put (ws' := (wM E ad (0 : Int32) m_trouble m_where m_rv m_tape m_taped m_size m_spot m_sort m_place m_number m_fault m_wrongAt m_word m_v m_x m_past m_kept m_acts m_images m_matchNow m_slopsNow m_matchesNow m_slopped m_seatBest m_fedBest m_slopsBest m_sawBest m_leastNow m_stableNow m_fitsNow m_someNow m_everyNow m_otherIn m_askLeft tb_seats tb_slack tb_saw tb_quarrel tb_people tb_pairs tb_forks tb_unsures tb_trieds tb_fed tb_seat tb_one tb_other tb_years tb_kind tb_unsure tb_may tb_tried tb_name)) C G fX12_39 (wM_at0) rfl rfl (Nat.le_of_ble_eq_true rfl) wM_set_m_thrown dX12_stableAt_2 (fun H locs G => ?_)
  refine lv_aload_n hx hb dX12_stableAt_5 rfl (lv_at hl 0 rfl) ?_
  refine x_get C G fX12_298.g (wM_at0) rfl dX12_stableAt_6 ?_
  refine lv_ifnull hx hb dX12_stableAt_9 ?_
  refine lv_iload_n hx hb dX12_stableAt_12 rfl (lv_at hl 1 rfl) ?_
  refine lv_if_ge (tgt := 22) hx hb dX12_stableAt_13 (by decide) (fun h => ?_) (fun h => ?_)
  · have hf := it_t h hf
    refine lv_aload_n hx hb dX12_stableAt_22 rfl (lv_at hl 0 rfl) ?_
    refine lv_iload_n hx hb dX12_stableAt_23 rfl (lv_at hl 1 rfl) ?_
    obtain ⟨x1, hc, hf⟩ := bd_go hf
    refine xI_V C G (c_M_stables_m_M hc) mX12_stables kX12_442 (wM_at0) rfl ⟨Nat.le_of_ble_eq_true rfl, Nat.le_of_ble_eq_true rfl⟩ rfl hl.1 rfl (Nat.le_of_ble_eq_true rfl) ⟨Nat.le_refl _, Nat.le_refl _⟩ dX12_stableAt_24 (fun hz H locs G => ?_)
    refine lv_istore_n (lv' := [(2, .int x1.1), (0, .ref (ad 0)), (1, .int l1)]) hx hb dX12_stableAt_27 rfl hl (by decide) rfl (fun ls hl => ?_)
    refine lv_iload_n hx hb dX12_stableAt_28 rfl (lv_at hl 0 rfl) ?_
    refine lv_iconst (v := -1) hx hb dX12_stableAt_29 (by decide) ?_
    refine lv_icmp_ne (tgt := 41) hx hb dX12_stableAt_30 (by decide) (fun h => ?_) (fun h => ?_)
    · have hf := it_f h hf
      refine lv_aload_n hx hb dX12_stableAt_41 rfl (lv_at hl 1 rfl) ?_
      refine lv_iload_n hx hb dX12_stableAt_42 rfl (lv_at hl 0 rfl) ?_
      obtain ⟨x2, hc, hf⟩ := bd_go hf
      refine xI_V C G (c_M_good_m_M hc) mX12_good kX12_49 (wM_at0) rfl ⟨Nat.le_of_ble_eq_true rfl, Nat.le_of_ble_eq_true rfl⟩ rfl hl.1 rfl (Nat.le_of_ble_eq_true rfl) ⟨Nat.le_refl _, Nat.le_refl _⟩ dX12_stableAt_43 (fun hz H locs G => ?_)
      obtain rfl := Option.some.inj hf
      exact xI_ret C G rfl dX12_stableAt_46
    · have hf := it_t h hf
      refine lv_aload_n hx hb dX12_stableAt_33 rfl (lv_at hl 1 rfl) ?_
      refine lv_iconst (v := 1) hx hb dX12_stableAt_34 (by decide) ?_
      obtain ⟨x3, hc, hf⟩ := bd_go hf
      refine xI_V C G (c_M_refused_m_M hc) mX12_refused kX12_45 (wM_at0) rfl ⟨Nat.le_of_ble_eq_true rfl, Nat.le_of_ble_eq_true rfl⟩ rfl hl.1 rfl (Nat.le_of_ble_eq_true rfl) ⟨Nat.le_refl _, Nat.le_refl _⟩ dX12_stableAt_35 (fun hz H locs G => ?_)
      refine lv_goto (tgt := 46) hx hb dX12_stableAt_38 (by decide) ?_
      obtain rfl := Option.some.inj hf
      exact xI_ret C G rfl dX12_stableAt_46
  · have hf := it_f h hf
    refine lv_aload_n hx hb dX12_stableAt_16 rfl (lv_at hl 0 rfl) ?_
    refine lv_iconst (v := 1) hx hb dX12_stableAt_17 (by decide) ?_
    obtain ⟨x4, hc, hf⟩ := bd_go hf
    refine xI_V C G (c_M_refused_m_M hc) mX12_refused kX12_45 (wM_at0) rfl ⟨Nat.le_of_ble_eq_true rfl, Nat.le_of_ble_eq_true rfl⟩ rfl hl.1 rfl (Nat.le_of_ble_eq_true rfl) ⟨Nat.le_refl _, Nat.le_refl _⟩ dX12_stableAt_18 (fun hz H locs G => ?_)
    obtain rfl := Option.some.inj hf
    exact xI_ret C G rfl dX12_stableAt_21
set_option maxHeartbeats 4000000 in
set_option maxRecDepth 100000 in
theorem c_M_leaves_m_M {l : Launch} {E : xE} {ad : Nat → Nat} {m_thrown m_trouble m_where m_taped m_size m_spot m_sort m_place m_number m_fault m_wrongAt m_acts m_images m_matchNow m_slopsNow m_matchesNow m_fedBest m_slopsBest m_sawBest m_leastNow m_stableNow m_fitsNow m_someNow m_everyNow m_askLeft tb_seats tb_slack tb_saw tb_quarrel tb_people tb_pairs tb_forks tb_unsures tb_trieds tb_fed : Int32} {m_rv : Value} {m_tape m_v m_x m_past m_kept m_slopped m_seatBest m_otherIn tb_seat tb_one tb_other tb_years tb_kind tb_unsure tb_may tb_tried : Nat → Int32} {m_word : Int64} {tb_name : Nat → Int64} {R0 : Int32 × Int32 × Int32 × Int32 × (Nat → Int32) × Int32 × Int32 × Int32 × (Nat → Int32)} (hf : f_M_leaves m_v m_x m_slopped tb_seats tb_slack = some R0) : xI l E yX12_leaves cX12_leaves 1 (some .int) 5 109 [.ref (ad 0)] (wM E ad m_thrown m_trouble m_where m_rv m_tape m_taped m_size m_spot m_sort m_place m_number m_fault m_wrongAt m_word m_v m_x m_past m_kept m_acts m_images m_matchNow m_slopsNow m_matchesNow m_slopped m_seatBest m_fedBest m_slopsBest m_sawBest m_leastNow m_stableNow m_fitsNow m_someNow m_everyNow m_otherIn m_askLeft tb_seats tb_slack tb_saw tb_quarrel tb_people tb_pairs tb_forks tb_unsures tb_trieds tb_fed tb_seat tb_one tb_other tb_years tb_kind tb_unsure tb_may tb_tried tb_name) (wM E ad R0.2.1 R0.2.2.1 R0.2.2.2.1 m_rv m_tape m_taped m_size m_spot m_sort m_place m_number m_fault m_wrongAt m_word m_v R0.2.2.2.2.1 m_past m_kept m_acts m_images R0.2.2.2.2.2.1 R0.2.2.2.2.2.2.1 R0.2.2.2.2.2.2.2.1 R0.2.2.2.2.2.2.2.2 m_seatBest m_fedBest m_slopsBest m_sawBest m_leastNow m_stableNow m_fitsNow m_someNow m_everyNow m_otherIn m_askLeft tb_seats tb_slack tb_saw tb_quarrel tb_people tb_pairs tb_forks tb_unsures tb_trieds tb_fed tb_seat tb_one tb_other tb_years tb_kind tb_unsure tb_may tb_tried tb_name) R0.1 := by
  refine xI_of (by decide) (Nat.le_of_ble_eq_true rfl) (fun p e s m args below meth c A C ls hl G => ?_)
  have hx := C.1
  have hb := C.2.1
  have hl : lv_has ls 1 [(0, .ref (ad 0))] := hl
  unfold f_M_leaves at hf
  refine lv_aload_n hx hb dX12_leaves_0 rfl (lv_at hl 0 rfl) ?_
  refine lv_iconst (v := 0) hx hb dX12_leaves_1 (by decide) ?_
  refine x_put (ws' := (wM E ad (0 : Int32) m_trouble m_where m_rv m_tape m_taped m_size m_spot m_sort m_place m_number m_fault m_wrongAt m_word m_v m_x m_past m_kept m_acts m_images m_matchNow m_slopsNow m_matchesNow m_slopped m_seatBest m_fedBest m_slopsBest m_sawBest m_leastNow m_stableNow m_fitsNow m_someNow m_everyNow m_otherIn m_askLeft tb_seats tb_slack tb_saw tb_quarrel tb_people tb_pairs tb_forks tb_unsures tb_trieds tb_fed tb_seat tb_one tb_other tb_years tb_kind tb_unsure tb_may tb_tried tb_name)) C G fX12_39 (wM_at0) rfl rfl (Nat.le_of_ble_eq_true rfl) wM_set_m_thrown dX12_leaves_2 (fun H locs G => ?_)
  refine lv_aload_n hx hb dX12_leaves_5 rfl (lv_at hl 0 rfl) ?_
  refine x_get C G fX12_298.g (wM_at0) rfl dX12_leaves_6 ?_
  refine lv_ifnonnull (tgt := 18) hx hb dX12_leaves_9 (by decide) ?_
  refine lv_aload_n hx hb dX12_leaves_18 rfl (lv_at hl 0 rfl) ?_
  obtain ⟨x1, hc, hf⟩ := bd_go hf
  refine xV_V C G (c_M_works_m_M hc) mX12_works kX12_333 (wM_at0) rfl ⟨Nat.le_of_ble_eq_true rfl, Nat.le_of_ble_eq_true rfl⟩ rfl hl.1 rfl (Nat.le_of_ble_eq_true rfl) ⟨Nat.le_refl _, Nat.le_refl _⟩ dX12_leaves_19 (fun H locs G => ?_)
  refine lv_aload_n hx hb dX12_leaves_22 rfl (lv_at hl 0 rfl) ?_
  obtain ⟨x2, hc, hf⟩ := bd_go hf
  refine xI_V C G (c_M_matching_m_M hc) mX12_matching kX12_366 (wM_at0) rfl ⟨Nat.le_of_ble_eq_true rfl, Nat.le_of_ble_eq_true rfl⟩ rfl hl.1 rfl (Nat.le_of_ble_eq_true rfl) ⟨Nat.le_refl _, Nat.le_refl _⟩ dX12_leaves_23 (fun hz H locs G => ?_)
  refine lv_pop hx hb dX12_leaves_26 rfl ?_
  refine lv_aload_n hx hb dX12_leaves_27 rfl (lv_at hl 0 rfl) ?_
  refine lv_aload_n hx hb dX12_leaves_28 rfl (lv_at hl 0 rfl) ?_
  refine lv_aload_n hx hb dX12_leaves_29 rfl (lv_at hl 0 rfl) ?_
  refine x_get C G fX12_354.g (wM_at0) rfl dX12_leaves_30 ?_
  obtain ⟨x3, hc, hf⟩ := bd_go hf
  refine xI_V C G (c_M_leaving_m_M hc) mX12_leaving kX12_439 (wM_at0) rfl ⟨Nat.le_of_ble_eq_true rfl, Nat.le_of_ble_eq_true rfl⟩ rfl hl.1 rfl (Nat.le_of_ble_eq_true rfl) ⟨Nat.le_refl _, Nat.le_refl _⟩ dX12_leaves_33 (fun hz H locs G => ?_)
  obtain ⟨x4, hc, hf⟩ := bd_go hf
  refine xI_V C G (c_M_good_m_M hc) mX12_good kX12_49 (wM_at0) rfl ⟨Nat.le_of_ble_eq_true rfl, Nat.le_of_ble_eq_true rfl⟩ rfl hl.1 rfl (Nat.le_of_ble_eq_true rfl) ⟨Nat.le_refl _, Nat.le_refl _⟩ dX12_leaves_36 (fun hz H locs G => ?_)
  obtain rfl := Option.some.inj hf
  exact xI_ret C G rfl dX12_leaves_39
set_option maxHeartbeats 4000000 in
set_option maxRecDepth 100000 in
theorem w_M_asTold_m_M_L2 {p : Program} {l : Launch} {e : Env} {s : State} {m : MethodId} {args : Array Value} {below : List Frame} {meth : Method} {c : Code} {A : Nat → Prop} {E : xE} {Q : State → Prop} {ad : Nat → Nat} {m_thrown m_trouble m_where m_taped m_size m_spot m_sort m_place m_number m_fault m_wrongAt m_acts m_images m_matchNow m_slopsNow m_matchesNow m_fedBest m_slopsBest m_sawBest m_leastNow m_stableNow m_fitsNow m_someNow m_everyNow m_askLeft tb_seats tb_slack tb_saw tb_quarrel tb_people tb_pairs tb_forks tb_unsures tb_trieds tb_fed : Int32} {m_rv : Value} {m_tape m_v m_past m_kept m_slopped m_seatBest m_otherIn tb_seat tb_one tb_other tb_years tb_kind tb_unsure tb_may tb_tried : Nat → Int32} {m_word : Int64} {tb_name : Nat → Int64} {l1 : Int32} {o : (Nat → Int32)} (C : xC p s m args meth c cX12_asTold 3 RX12 E A none) (J : ∀ (H : Heap) (locs : List Loc) (ls : Array Slot), xG s E A (wM E ad m_thrown m_trouble m_where m_rv m_tape m_taped m_size m_spot m_sort m_place m_number m_fault m_wrongAt m_word m_v o m_past m_kept m_acts m_images m_matchNow m_slopsNow m_matchesNow m_slopped m_seatBest m_fedBest m_slopsBest m_sawBest m_leastNow m_stableNow m_fitsNow m_someNow m_everyNow m_otherIn m_askLeft tb_seats tb_slack tb_saw tb_quarrel tb_people tb_pairs tb_forks tb_unsures tb_trieds tb_fed tb_seat tb_one tb_other tb_years tb_kind tb_unsure tb_may tb_tried tb_name) H locs → lv_has ls 3 [(0, .ref (ad 0)), (1, .int l1)] → W p l e (xR 1 21) s m args below meth c H locs 0 0 Q (F0 m 21 ls [])) :
    ∀ (n : Nat) (l2 : Int32) (m_x : Nat → Int32) (H : Heap) (locs : List Loc) (ls : Array Slot), xG s E A (wM E ad m_thrown m_trouble m_where m_rv m_tape m_taped m_size m_spot m_sort m_place m_number m_fault m_wrongAt m_word m_v m_x m_past m_kept m_acts m_images m_matchNow m_slopsNow m_matchesNow m_slopped m_seatBest m_fedBest m_slopsBest m_sawBest m_leastNow m_stableNow m_fitsNow m_someNow m_everyNow m_otherIn m_askLeft tb_seats tb_slack tb_saw tb_quarrel tb_people tb_pairs tb_forks tb_unsures tb_trieds tb_fed tb_seat tb_one tb_other tb_years tb_kind tb_unsure tb_may tb_tried tb_name) H locs → lv_has ls 3 [(0, .ref (ad 0)), (1, .int l1), (2, .int l2)] → f_M_asTold_L2 n l2 m_x = some o → W p l e (xR 1 21) s m args below meth c H locs 0 0 Q (F0 m 2 ls []) := by
  have hx := C.1
  have hb := C.2.1
  intro n
  induction n with
  | zero =>
    intro l2 m_x H locs ls G hl hf
    exact nomatch (show (none : Option ((Nat → Int32))) = some o from hf)
  | succ n ih =>
    intro l2 m_x H locs ls G hl hf
    rw [f_M_asTold_L2] at hf
    refine lv_iload_n hx hb dX12_asTold_2 rfl (lv_at hl 2 rfl) ?_
    refine lv_bipush (v := 58) hx hb dX12_asTold_3 (by decide) ?_
    refine lv_icmp_ge (tgt := 21) hx hb dX12_asTold_5 (by decide) (fun h => ?_) (fun h => ?_)
    · have hf := it_t h hf
      obtain rfl := Option.some.inj hf
      exact J _ _ _ G (lv_sub hl [0, 1] rfl)
    · have hf := it_f h hf
      refine lv_aload_n hx hb dX12_asTold_8 rfl (lv_at hl 0 rfl) ?_
      refine x_get C G fX12_21 (wM_at0) rfl dX12_asTold_9 ?_
      refine lv_iload_n hx hb dX12_asTold_12 rfl (lv_at hl 2 rfl) ?_
      refine lv_iconst (v := 0) hx hb dX12_asTold_13 (by decide) ?_
      have hi := ck_in hf
      have hf := ck_go hf
      refine x_iast (ws' := (wM E ad m_thrown m_trouble m_where m_rv m_tape m_taped m_size m_spot m_sort m_place m_number m_fault m_wrongAt m_word m_v (upd m_x l2.toNatClampNeg (0 : Int32)) m_past m_kept m_acts m_images m_matchNow m_slopsNow m_matchesNow m_slopped m_seatBest m_fedBest m_slopsBest m_sawBest m_leastNow m_stableNow m_fitsNow m_someNow m_everyNow m_otherIn m_askLeft tb_seats tb_slack tb_saw tb_quarrel tb_people tb_pairs tb_forks tb_unsures tb_trieds tb_fed tb_seat tb_one tb_other tb_years tb_kind tb_unsure tb_may tb_tried tb_name)) C G (wM_at3) hi wM_set_m_x dX12_asTold_14 (fun H locs G => ?_)
      obtain ⟨x1, ex1⟩ : ∃ z : Int32, z = l2 + (1 : Int32) := ⟨_, rfl⟩
      have hf := lt_go ex1 hf
      refine lv_iinc (v := x1) (lv' := [(2, .int x1), (0, .ref (ad 0)), (1, .int l1)]) hx hb dX12_asTold_15 hl (k := 2) rfl (by rw [ex1]; rfl) (by decide) rfl (fun ls hl => ?_)
      refine lv_goto (tgt := 2) hx hb dX12_asTold_18 (by decide) ?_
      exact ih x1 (upd m_x l2.toNatClampNeg (0 : Int32)) _ _ _ G (lv_sub hl [1, 2, 0] rfl) hf
set_option maxHeartbeats 4000000 in
set_option maxRecDepth 100000 in
theorem w_M_asTold_m_M_L23 {p : Program} {l : Launch} {e : Env} {s : State} {m : MethodId} {args : Array Value} {below : List Frame} {meth : Method} {c : Code} {A : Nat → Prop} {E : xE} {Q : State → Prop} {ad : Nat → Nat} {m_thrown m_trouble m_where m_taped m_size m_spot m_sort m_place m_number m_fault m_wrongAt m_acts m_images m_matchNow m_slopsNow m_matchesNow m_fedBest m_slopsBest m_sawBest m_leastNow m_stableNow m_fitsNow m_someNow m_everyNow m_askLeft tb_seats tb_slack tb_saw tb_quarrel tb_people tb_pairs tb_forks tb_unsures tb_trieds tb_fed : Int32} {m_rv : Value} {m_tape m_v m_past m_kept m_slopped m_seatBest m_otherIn tb_seat tb_one tb_other tb_years tb_kind tb_unsure tb_may tb_tried : Nat → Int32} {m_word : Int64} {tb_name : Nat → Int64} {l1 : Int32} {o : (Nat → Int32)} (C : xC p s m args meth c cX12_asTold 3 RX12 E A none) (J : ∀ (H : Heap) (locs : List Loc) (ls : Array Slot), xG s E A (wM E ad m_thrown m_trouble m_where m_rv m_tape m_taped m_size m_spot m_sort m_place m_number m_fault m_wrongAt m_word m_v o m_past m_kept m_acts m_images m_matchNow m_slopsNow m_matchesNow m_slopped m_seatBest m_fedBest m_slopsBest m_sawBest m_leastNow m_stableNow m_fitsNow m_someNow m_everyNow m_otherIn m_askLeft tb_seats tb_slack tb_saw tb_quarrel tb_people tb_pairs tb_forks tb_unsures tb_trieds tb_fed tb_seat tb_one tb_other tb_years tb_kind tb_unsure tb_may tb_tried tb_name) H locs → lv_has ls 3 [(0, .ref (ad 0)), (1, .int l1)] → W p l e (xR 1 21) s m args below meth c H locs 0 0 Q (F0 m 49 ls [])) :
    ∀ (n : Nat) (l2 : Int32) (m_x : Nat → Int32) (H : Heap) (locs : List Loc) (ls : Array Slot), xG s E A (wM E ad m_thrown m_trouble m_where m_rv m_tape m_taped m_size m_spot m_sort m_place m_number m_fault m_wrongAt m_word m_v m_x m_past m_kept m_acts m_images m_matchNow m_slopsNow m_matchesNow m_slopped m_seatBest m_fedBest m_slopsBest m_sawBest m_leastNow m_stableNow m_fitsNow m_someNow m_everyNow m_otherIn m_askLeft tb_seats tb_slack tb_saw tb_quarrel tb_people tb_pairs tb_forks tb_unsures tb_trieds tb_fed tb_seat tb_one tb_other tb_years tb_kind tb_unsure tb_may tb_tried tb_name) H locs → lv_has ls 3 [(0, .ref (ad 0)), (1, .int l1), (2, .int l2)] → f_M_asTold_L23 tb_seat n l2 m_x = some o → W p l e (xR 1 21) s m args below meth c H locs 0 0 Q (F0 m 23 ls []) := by
  have hx := C.1
  have hb := C.2.1
  intro n
  induction n with
  | zero =>
    intro l2 m_x H locs ls G hl hf
    exact nomatch (show (none : Option ((Nat → Int32))) = some o from hf)
  | succ n ih =>
    intro l2 m_x H locs ls G hl hf
    rw [f_M_asTold_L23] at hf
    refine lv_iload_n hx hb dX12_asTold_23 rfl (lv_at hl 2 rfl) ?_
    refine lv_iconst (v := 5) hx hb dX12_asTold_24 (by decide) ?_
    refine lv_icmp_ge (tgt := 49) hx hb dX12_asTold_25 (by decide) (fun h => ?_) (fun h => ?_)
    · have hf := it_t h hf
      obtain rfl := Option.some.inj hf
      exact J _ _ _ G (lv_sub hl [0, 1] rfl)
    · have hf := it_f h hf
      refine lv_aload_n hx hb dX12_asTold_28 rfl (lv_at hl 0 rfl) ?_
      refine x_get C G fX12_21 (wM_at0) rfl dX12_asTold_29 ?_
      refine lv_iload_n hx hb dX12_asTold_32 rfl (lv_at hl 2 rfl) ?_
      refine lv_aload_n hx hb dX12_asTold_33 rfl (lv_at hl 0 rfl) ?_
      refine x_get C G fX12_298.g (wM_at0) rfl dX12_asTold_34 ?_
      refine x_get C G fX12_228 (wM_at9) rfl dX12_asTold_37 ?_
      refine lv_iload_n hx hb dX12_asTold_40 rfl (lv_at hl 2 rfl) ?_
      have hi := ck_in hf
      have hf := ck_go hf
      refine x_iald C G (wM_at10) hi dX12_asTold_41 ?_
      have hi := ck_in hf
      have hf := ck_go hf
      refine x_iast (ws' := (wM E ad m_thrown m_trouble m_where m_rv m_tape m_taped m_size m_spot m_sort m_place m_number m_fault m_wrongAt m_word m_v (upd m_x l2.toNatClampNeg (tb_seat l2.toNatClampNeg)) m_past m_kept m_acts m_images m_matchNow m_slopsNow m_matchesNow m_slopped m_seatBest m_fedBest m_slopsBest m_sawBest m_leastNow m_stableNow m_fitsNow m_someNow m_everyNow m_otherIn m_askLeft tb_seats tb_slack tb_saw tb_quarrel tb_people tb_pairs tb_forks tb_unsures tb_trieds tb_fed tb_seat tb_one tb_other tb_years tb_kind tb_unsure tb_may tb_tried tb_name)) C G (wM_at3) hi wM_set_m_x dX12_asTold_42 (fun H locs G => ?_)
      obtain ⟨x3, ex3⟩ : ∃ z : Int32, z = l2 + (1 : Int32) := ⟨_, rfl⟩
      have hf := lt_go ex3 hf
      refine lv_iinc (v := x3) (lv' := [(2, .int x3), (0, .ref (ad 0)), (1, .int l1)]) hx hb dX12_asTold_43 hl (k := 2) rfl (by rw [ex3]; rfl) (by decide) rfl (fun ls hl => ?_)
      refine lv_goto (tgt := 23) hx hb dX12_asTold_46 (by decide) ?_
      exact ih x3 (upd m_x l2.toNatClampNeg (tb_seat l2.toNatClampNeg)) _ _ _ G (lv_sub hl [1, 2, 0] rfl) hf
set_option maxHeartbeats 4000000 in
set_option maxRecDepth 100000 in
theorem w_M_asTold_m_M_L51 {p : Program} {l : Launch} {e : Env} {s : State} {m : MethodId} {args : Array Value} {below : List Frame} {meth : Method} {c : Code} {A : Nat → Prop} {E : xE} {Q : State → Prop} {ad : Nat → Nat} {m_thrown m_trouble m_where m_taped m_size m_spot m_sort m_place m_number m_fault m_wrongAt m_acts m_images m_matchNow m_slopsNow m_matchesNow m_fedBest m_slopsBest m_sawBest m_leastNow m_stableNow m_fitsNow m_someNow m_everyNow m_askLeft tb_seats tb_slack tb_saw tb_quarrel tb_people tb_pairs tb_forks tb_unsures tb_trieds tb_fed : Int32} {m_rv : Value} {m_tape m_v m_past m_kept m_slopped m_seatBest m_otherIn tb_seat tb_one tb_other tb_years tb_kind tb_unsure tb_may tb_tried : Nat → Int32} {m_word : Int64} {tb_name : Nat → Int64} {l1 : Int32} {o : (Nat → Int32)} (C : xC p s m args meth c cX12_asTold 3 RX12 E A none) (J : ∀ (H : Heap) (locs : List Loc) (ls : Array Slot), xG s E A (wM E ad m_thrown m_trouble m_where m_rv m_tape m_taped m_size m_spot m_sort m_place m_number m_fault m_wrongAt m_word m_v o m_past m_kept m_acts m_images m_matchNow m_slopsNow m_matchesNow m_slopped m_seatBest m_fedBest m_slopsBest m_sawBest m_leastNow m_stableNow m_fitsNow m_someNow m_everyNow m_otherIn m_askLeft tb_seats tb_slack tb_saw tb_quarrel tb_people tb_pairs tb_forks tb_unsures tb_trieds tb_fed tb_seat tb_one tb_other tb_years tb_kind tb_unsure tb_may tb_tried tb_name) H locs → lv_has ls 3 [(0, .ref (ad 0)), (1, .int l1)] → W p l e (xR 1 21) s m args below meth c H locs 0 0 Q (F0 m 139 ls [])) :
    ∀ (n : Nat) (l2 : Int32) (m_x : Nat → Int32) (H : Heap) (locs : List Loc) (ls : Array Slot), xG s E A (wM E ad m_thrown m_trouble m_where m_rv m_tape m_taped m_size m_spot m_sort m_place m_number m_fault m_wrongAt m_word m_v m_x m_past m_kept m_acts m_images m_matchNow m_slopsNow m_matchesNow m_slopped m_seatBest m_fedBest m_slopsBest m_sawBest m_leastNow m_stableNow m_fitsNow m_someNow m_everyNow m_otherIn m_askLeft tb_seats tb_slack tb_saw tb_quarrel tb_people tb_pairs tb_forks tb_unsures tb_trieds tb_fed tb_seat tb_one tb_other tb_years tb_kind tb_unsure tb_may tb_tried tb_name) H locs → lv_has ls 3 [(0, .ref (ad 0)), (1, .int l1), (2, .int l2)] → f_M_asTold_L51 tb_pairs tb_one tb_other tb_years tb_kind n l2 m_x = some o → W p l e (xR 1 21) s m args below meth c H locs 0 0 Q (F0 m 51 ls []) := by
  have hx := C.1
  have hb := C.2.1
  intro n
  induction n with
  | zero =>
    intro l2 m_x H locs ls G hl hf
    exact nomatch (show (none : Option ((Nat → Int32))) = some o from hf)
  | succ n ih =>
    intro l2 m_x H locs ls G hl hf
    rw [f_M_asTold_L51] at hf
    refine lv_iload_n hx hb dX12_asTold_51 rfl (lv_at hl 2 rfl) ?_
    refine lv_aload_n hx hb dX12_asTold_52 rfl (lv_at hl 0 rfl) ?_
    refine x_get C G fX12_298.g (wM_at0) rfl dX12_asTold_53 ?_
    refine x_get C G fX12_241.g (wM_at9) rfl dX12_asTold_56 ?_
    refine lv_icmp_ge (tgt := 139) hx hb dX12_asTold_59 (by decide) (fun h => ?_) (fun h => ?_)
    · have hf := it_t h hf
      obtain rfl := Option.some.inj hf
      exact J _ _ _ G (lv_sub hl [0, 1] rfl)
    · have hf := it_f h hf
      refine lv_aload_n hx hb dX12_asTold_62 rfl (lv_at hl 0 rfl) ?_
      refine x_get C G fX12_21 (wM_at0) rfl dX12_asTold_63 ?_
      refine lv_iconst (v := 5) hx hb dX12_asTold_66 (by decide) ?_
      refine lv_iload_n hx hb dX12_asTold_67 rfl (lv_at hl 2 rfl) ?_
      refine lv_iadd hx hb dX12_asTold_68 ?_
      refine lv_aload_n hx hb dX12_asTold_69 rfl (lv_at hl 0 rfl) ?_
      refine x_get C G fX12_298.g (wM_at0) rfl dX12_asTold_70 ?_
      refine x_get C G fX12_252 (wM_at9) rfl dX12_asTold_73 ?_
      refine lv_iload_n hx hb dX12_asTold_76 rfl (lv_at hl 2 rfl) ?_
      have hi := ck_in hf
      have hf := ck_go hf
      refine x_iald C G (wM_at11) hi dX12_asTold_77 ?_
      have hi := ck_in hf
      have hf := ck_go hf
      refine x_iast (ws' := (wM E ad m_thrown m_trouble m_where m_rv m_tape m_taped m_size m_spot m_sort m_place m_number m_fault m_wrongAt m_word m_v (upd m_x ((5 : Int32) + l2).toNatClampNeg (tb_one l2.toNatClampNeg)) m_past m_kept m_acts m_images m_matchNow m_slopsNow m_matchesNow m_slopped m_seatBest m_fedBest m_slopsBest m_sawBest m_leastNow m_stableNow m_fitsNow m_someNow m_everyNow m_otherIn m_askLeft tb_seats tb_slack tb_saw tb_quarrel tb_people tb_pairs tb_forks tb_unsures tb_trieds tb_fed tb_seat tb_one tb_other tb_years tb_kind tb_unsure tb_may tb_tried tb_name)) C G (wM_at3) hi wM_set_m_x dX12_asTold_78 (fun H locs G => ?_)
      refine lv_aload_n hx hb dX12_asTold_79 rfl (lv_at hl 0 rfl) ?_
      refine x_get C G fX12_21 (wM_at0) rfl dX12_asTold_80 ?_
      refine lv_bipush (v := 15) hx hb dX12_asTold_83 (by decide) ?_
      refine lv_iload_n hx hb dX12_asTold_85 rfl (lv_at hl 2 rfl) ?_
      refine lv_iadd hx hb dX12_asTold_86 ?_
      refine lv_aload_n hx hb dX12_asTold_87 rfl (lv_at hl 0 rfl) ?_
      refine x_get C G fX12_298.g (wM_at0) rfl dX12_asTold_88 ?_
      refine x_get C G fX12_255 (wM_at9) rfl dX12_asTold_91 ?_
      refine lv_iload_n hx hb dX12_asTold_94 rfl (lv_at hl 2 rfl) ?_
      have hi := ck_in hf
      have hf := ck_go hf
      refine x_iald C G (wM_at12) hi dX12_asTold_95 ?_
      have hi := ck_in hf
      have hf := ck_go hf
      refine x_iast (ws' := (wM E ad m_thrown m_trouble m_where m_rv m_tape m_taped m_size m_spot m_sort m_place m_number m_fault m_wrongAt m_word m_v (upd (upd m_x ((5 : Int32) + l2).toNatClampNeg (tb_one l2.toNatClampNeg)) ((15 : Int32) + l2).toNatClampNeg (tb_other l2.toNatClampNeg)) m_past m_kept m_acts m_images m_matchNow m_slopsNow m_matchesNow m_slopped m_seatBest m_fedBest m_slopsBest m_sawBest m_leastNow m_stableNow m_fitsNow m_someNow m_everyNow m_otherIn m_askLeft tb_seats tb_slack tb_saw tb_quarrel tb_people tb_pairs tb_forks tb_unsures tb_trieds tb_fed tb_seat tb_one tb_other tb_years tb_kind tb_unsure tb_may tb_tried tb_name)) C G (wM_at3) hi wM_set_m_x dX12_asTold_96 (fun H locs G => ?_)
      refine lv_aload_n hx hb dX12_asTold_97 rfl (lv_at hl 0 rfl) ?_
      refine x_get C G fX12_21 (wM_at0) rfl dX12_asTold_98 ?_
      refine lv_bipush (v := 25) hx hb dX12_asTold_101 (by decide) ?_
      refine lv_iload_n hx hb dX12_asTold_103 rfl (lv_at hl 2 rfl) ?_
      refine lv_iadd hx hb dX12_asTold_104 ?_
      refine lv_aload_n hx hb dX12_asTold_105 rfl (lv_at hl 0 rfl) ?_
      refine x_get C G fX12_298.g (wM_at0) rfl dX12_asTold_106 ?_
      refine x_get C G fX12_258 (wM_at9) rfl dX12_asTold_109 ?_
      refine lv_iload_n hx hb dX12_asTold_112 rfl (lv_at hl 2 rfl) ?_
      have hi := ck_in hf
      have hf := ck_go hf
      refine x_iald C G (wM_at13) hi dX12_asTold_113 ?_
      have hi := ck_in hf
      have hf := ck_go hf
      refine x_iast (ws' := (wM E ad m_thrown m_trouble m_where m_rv m_tape m_taped m_size m_spot m_sort m_place m_number m_fault m_wrongAt m_word m_v (upd (upd (upd m_x ((5 : Int32) + l2).toNatClampNeg (tb_one l2.toNatClampNeg)) ((15 : Int32) + l2).toNatClampNeg (tb_other l2.toNatClampNeg)) ((25 : Int32) + l2).toNatClampNeg (tb_years l2.toNatClampNeg)) m_past m_kept m_acts m_images m_matchNow m_slopsNow m_matchesNow m_slopped m_seatBest m_fedBest m_slopsBest m_sawBest m_leastNow m_stableNow m_fitsNow m_someNow m_everyNow m_otherIn m_askLeft tb_seats tb_slack tb_saw tb_quarrel tb_people tb_pairs tb_forks tb_unsures tb_trieds tb_fed tb_seat tb_one tb_other tb_years tb_kind tb_unsure tb_may tb_tried tb_name)) C G (wM_at3) hi wM_set_m_x dX12_asTold_114 (fun H locs G => ?_)
      refine lv_aload_n hx hb dX12_asTold_115 rfl (lv_at hl 0 rfl) ?_
      refine x_get C G fX12_21 (wM_at0) rfl dX12_asTold_116 ?_
      refine lv_bipush (v := 45) hx hb dX12_asTold_119 (by decide) ?_
      refine lv_iload_n hx hb dX12_asTold_121 rfl (lv_at hl 2 rfl) ?_
      refine lv_iadd hx hb dX12_asTold_122 ?_
      refine lv_aload_n hx hb dX12_asTold_123 rfl (lv_at hl 0 rfl) ?_
      refine x_get C G fX12_298.g (wM_at0) rfl dX12_asTold_124 ?_
      refine x_get C G fX12_260 (wM_at9) rfl dX12_asTold_127 ?_
      refine lv_iload_n hx hb dX12_asTold_130 rfl (lv_at hl 2 rfl) ?_
      have hi := ck_in hf
      have hf := ck_go hf
      refine x_iald C G (wM_at14) hi dX12_asTold_131 ?_
      have hi := ck_in hf
      have hf := ck_go hf
      refine x_iast (ws' := (wM E ad m_thrown m_trouble m_where m_rv m_tape m_taped m_size m_spot m_sort m_place m_number m_fault m_wrongAt m_word m_v (upd (upd (upd (upd m_x ((5 : Int32) + l2).toNatClampNeg (tb_one l2.toNatClampNeg)) ((15 : Int32) + l2).toNatClampNeg (tb_other l2.toNatClampNeg)) ((25 : Int32) + l2).toNatClampNeg (tb_years l2.toNatClampNeg)) ((45 : Int32) + l2).toNatClampNeg (tb_kind l2.toNatClampNeg)) m_past m_kept m_acts m_images m_matchNow m_slopsNow m_matchesNow m_slopped m_seatBest m_fedBest m_slopsBest m_sawBest m_leastNow m_stableNow m_fitsNow m_someNow m_everyNow m_otherIn m_askLeft tb_seats tb_slack tb_saw tb_quarrel tb_people tb_pairs tb_forks tb_unsures tb_trieds tb_fed tb_seat tb_one tb_other tb_years tb_kind tb_unsure tb_may tb_tried tb_name)) C G (wM_at3) hi wM_set_m_x dX12_asTold_132 (fun H locs G => ?_)
      obtain ⟨x5, ex5⟩ : ∃ z : Int32, z = l2 + (1 : Int32) := ⟨_, rfl⟩
      have hf := lt_go ex5 hf
      refine lv_iinc (v := x5) (lv' := [(2, .int x5), (0, .ref (ad 0)), (1, .int l1)]) hx hb dX12_asTold_133 hl (k := 2) rfl (by rw [ex5]; rfl) (by decide) rfl (fun ls hl => ?_)
      refine lv_goto (tgt := 51) hx hb dX12_asTold_136 (by decide) ?_
      exact ih x5 (upd (upd (upd (upd m_x ((5 : Int32) + l2).toNatClampNeg (tb_one l2.toNatClampNeg)) ((15 : Int32) + l2).toNatClampNeg (tb_other l2.toNatClampNeg)) ((25 : Int32) + l2).toNatClampNeg (tb_years l2.toNatClampNeg)) ((45 : Int32) + l2).toNatClampNeg (tb_kind l2.toNatClampNeg)) _ _ _ G (lv_sub hl [1, 2, 0] rfl) hf
set_option maxHeartbeats 4000000 in
set_option maxRecDepth 100000 in
theorem w_M_asTold_m_M_L141 {p : Program} {l : Launch} {e : Env} {s : State} {m : MethodId} {args : Array Value} {below : List Frame} {meth : Method} {c : Code} {A : Nat → Prop} {E : xE} {Q : State → Prop} {ad : Nat → Nat} {m_thrown m_trouble m_where m_taped m_size m_spot m_sort m_place m_number m_fault m_wrongAt m_acts m_images m_matchNow m_slopsNow m_matchesNow m_fedBest m_slopsBest m_sawBest m_leastNow m_stableNow m_fitsNow m_someNow m_everyNow m_askLeft tb_seats tb_slack tb_saw tb_quarrel tb_people tb_pairs tb_forks tb_unsures tb_trieds tb_fed : Int32} {m_rv : Value} {m_tape m_v m_past m_kept m_slopped m_seatBest m_otherIn tb_seat tb_one tb_other tb_years tb_kind tb_unsure tb_may tb_tried : Nat → Int32} {m_word : Int64} {tb_name : Nat → Int64} {l1 : Int32} {o : (Nat → Int32)} (C : xC p s m args meth c cX12_asTold 3 RX12 E A none) (J : ∀ (H : Heap) (locs : List Loc) (ls : Array Slot), xG s E A (wM E ad m_thrown m_trouble m_where m_rv m_tape m_taped m_size m_spot m_sort m_place m_number m_fault m_wrongAt m_word m_v o m_past m_kept m_acts m_images m_matchNow m_slopsNow m_matchesNow m_slopped m_seatBest m_fedBest m_slopsBest m_sawBest m_leastNow m_stableNow m_fitsNow m_someNow m_everyNow m_otherIn m_askLeft tb_seats tb_slack tb_saw tb_quarrel tb_people tb_pairs tb_forks tb_unsures tb_trieds tb_fed tb_seat tb_one tb_other tb_years tb_kind tb_unsure tb_may tb_tried tb_name) H locs → lv_has ls 3 [(0, .ref (ad 0))] → W p l e (xR 1 21) s m args below meth c H locs 0 0 Q (F0 m 192 ls [])) :
    ∀ (n : Nat) (l2 : Int32) (m_x : Nat → Int32) (H : Heap) (locs : List Loc) (ls : Array Slot), xG s E A (wM E ad m_thrown m_trouble m_where m_rv m_tape m_taped m_size m_spot m_sort m_place m_number m_fault m_wrongAt m_word m_v m_x m_past m_kept m_acts m_images m_matchNow m_slopsNow m_matchesNow m_slopped m_seatBest m_fedBest m_slopsBest m_sawBest m_leastNow m_stableNow m_fitsNow m_someNow m_everyNow m_otherIn m_askLeft tb_seats tb_slack tb_saw tb_quarrel tb_people tb_pairs tb_forks tb_unsures tb_trieds tb_fed tb_seat tb_one tb_other tb_years tb_kind tb_unsure tb_may tb_tried tb_name) H locs → lv_has ls 3 [(0, .ref (ad 0)), (1, .int l1), (2, .int l2)] → f_M_asTold_L141 l1 tb_unsures tb_unsure tb_may n l2 m_x = some o → W p l e (xR 1 21) s m args below meth c H locs 0 0 Q (F0 m 141 ls []) := by
  have hx := C.1
  have hb := C.2.1
  intro n
  induction n with
  | zero =>
    intro l2 m_x H locs ls G hl hf
    exact nomatch (show (none : Option ((Nat → Int32))) = some o from hf)
  | succ n ih =>
    intro l2 m_x H locs ls G hl hf
    rw [f_M_asTold_L141] at hf
    refine lv_iload_n hx hb dX12_asTold_141 rfl (lv_at hl 2 rfl) ?_
    refine lv_aload_n hx hb dX12_asTold_142 rfl (lv_at hl 0 rfl) ?_
    refine x_get C G fX12_298.g (wM_at0) rfl dX12_asTold_143 ?_
    refine x_get C G fX12_263.g (wM_at9) rfl dX12_asTold_146 ?_
    refine lv_icmp_ge (tgt := 192) hx hb dX12_asTold_149 (by decide) (fun h => ?_) (fun h => ?_)
    · have hf := it_t h hf
      obtain rfl := Option.some.inj hf
      exact J _ _ _ G (lv_sub hl [0] rfl)
    · have hf := it_f h hf
      refine lv_iload_n hx hb dX12_asTold_152 rfl (lv_at hl 1 rfl) ?_
      refine lv_iload_n hx hb dX12_asTold_153 rfl (lv_at hl 2 rfl) ?_
      obtain ⟨x7, hc, hf⟩ := bd_go hf
      refine xI_S C G (c_M_bit_any hc) mX12_bit kX12_237 ⟨Nat.le_of_ble_eq_true rfl, Nat.le_of_ble_eq_true rfl⟩ rfl hl.1 rfl (Nat.le_of_ble_eq_true rfl) ⟨Nat.le_refl _, Nat.le_refl _⟩ dX12_asTold_154 (fun hz7 H locs G => ?_)
      refine lv_if_eq (tgt := 186) hx hb dX12_asTold_157 (by decide) (fun h => ?_) (fun h => ?_)
      · have hf := it_t h hf
        obtain ⟨x8, ex8⟩ : ∃ z : Int32, z = l2 + (1 : Int32) := ⟨_, rfl⟩
        have hf := lt_go ex8 hf
        refine lv_iinc (v := x8) (lv' := [(2, .int x8), (0, .ref (ad 0)), (1, .int l1)]) hx hb dX12_asTold_186 hl (k := 2) rfl (by rw [ex8]; rfl) (by decide) rfl (fun ls hl => ?_)
        refine lv_goto (tgt := 141) hx hb dX12_asTold_189 (by decide) ?_
        exact ih x8 m_x _ _ _ G (lv_sub hl [1, 2, 0] rfl) hf
      · have hf := it_f h hf
        refine lv_aload_n hx hb dX12_asTold_160 rfl (lv_at hl 0 rfl) ?_
        refine x_get C G fX12_21 (wM_at0) rfl dX12_asTold_161 ?_
        refine lv_bipush (v := 25) hx hb dX12_asTold_164 (by decide) ?_
        refine lv_aload_n hx hb dX12_asTold_166 rfl (lv_at hl 0 rfl) ?_
        refine x_get C G fX12_298.g (wM_at0) rfl dX12_asTold_167 ?_
        refine x_get C G fX12_272 (wM_at9) rfl dX12_asTold_170 ?_
        refine lv_iload_n hx hb dX12_asTold_173 rfl (lv_at hl 2 rfl) ?_
        have hi := ck_in hf
        have hf := ck_go hf
        refine x_iald C G (wM_at15) hi dX12_asTold_174 ?_
        refine lv_iadd hx hb dX12_asTold_175 ?_
        refine lv_aload_n hx hb dX12_asTold_176 rfl (lv_at hl 0 rfl) ?_
        refine x_get C G fX12_298.g (wM_at0) rfl dX12_asTold_177 ?_
        refine x_get C G fX12_274 (wM_at9) rfl dX12_asTold_180 ?_
        refine lv_iload_n hx hb dX12_asTold_183 rfl (lv_at hl 2 rfl) ?_
        have hi := ck_in hf
        have hf := ck_go hf
        refine x_iald C G (wM_at16) hi dX12_asTold_184 ?_
        have hi := ck_in hf
        have hf := ck_go hf
        refine x_iast (ws' := (wM E ad m_thrown m_trouble m_where m_rv m_tape m_taped m_size m_spot m_sort m_place m_number m_fault m_wrongAt m_word m_v (upd m_x ((25 : Int32) + (tb_unsure l2.toNatClampNeg)).toNatClampNeg (tb_may l2.toNatClampNeg)) m_past m_kept m_acts m_images m_matchNow m_slopsNow m_matchesNow m_slopped m_seatBest m_fedBest m_slopsBest m_sawBest m_leastNow m_stableNow m_fitsNow m_someNow m_everyNow m_otherIn m_askLeft tb_seats tb_slack tb_saw tb_quarrel tb_people tb_pairs tb_forks tb_unsures tb_trieds tb_fed tb_seat tb_one tb_other tb_years tb_kind tb_unsure tb_may tb_tried tb_name)) C G (wM_at3) hi wM_set_m_x dX12_asTold_185 (fun H locs G => ?_)
        obtain ⟨x9, ex9⟩ : ∃ z : Int32, z = l2 + (1 : Int32) := ⟨_, rfl⟩
        have hf := lt_go ex9 hf
        refine lv_iinc (v := x9) (lv' := [(2, .int x9), (0, .ref (ad 0)), (1, .int l1)]) hx hb dX12_asTold_186 hl (k := 2) rfl (by rw [ex9]; rfl) (by decide) rfl (fun ls hl => ?_)
        refine lv_goto (tgt := 141) hx hb dX12_asTold_189 (by decide) ?_
        exact ih x9 (upd m_x ((25 : Int32) + (tb_unsure l2.toNatClampNeg)).toNatClampNeg (tb_may l2.toNatClampNeg)) _ _ _ G (lv_sub hl [1, 2, 0] rfl) hf
set_option maxHeartbeats 4000000 in
set_option maxRecDepth 100000 in
theorem c_M_asTold_m_M {l : Launch} {E : xE} {ad : Nat → Nat} {m_thrown m_trouble m_where m_taped m_size m_spot m_sort m_place m_number m_fault m_wrongAt m_acts m_images m_matchNow m_slopsNow m_matchesNow m_fedBest m_slopsBest m_sawBest m_leastNow m_stableNow m_fitsNow m_someNow m_everyNow m_askLeft tb_seats tb_slack tb_saw tb_quarrel tb_people tb_pairs tb_forks tb_unsures tb_trieds tb_fed : Int32} {m_rv : Value} {m_tape m_v m_x m_past m_kept m_slopped m_seatBest m_otherIn tb_seat tb_one tb_other tb_years tb_kind tb_unsure tb_may tb_tried : Nat → Int32} {m_word : Int64} {tb_name : Nat → Int64} {l1 : Int32} {R0 : (Nat → Int32)} (hf : f_M_asTold l1 m_x tb_pairs tb_forks tb_unsures tb_seat tb_one tb_other tb_years tb_kind tb_unsure tb_may = some R0) : xV l E yX12_asTold cX12_asTold 3 none 1 21 [.ref (ad 0), .int l1] (wM E ad m_thrown m_trouble m_where m_rv m_tape m_taped m_size m_spot m_sort m_place m_number m_fault m_wrongAt m_word m_v m_x m_past m_kept m_acts m_images m_matchNow m_slopsNow m_matchesNow m_slopped m_seatBest m_fedBest m_slopsBest m_sawBest m_leastNow m_stableNow m_fitsNow m_someNow m_everyNow m_otherIn m_askLeft tb_seats tb_slack tb_saw tb_quarrel tb_people tb_pairs tb_forks tb_unsures tb_trieds tb_fed tb_seat tb_one tb_other tb_years tb_kind tb_unsure tb_may tb_tried tb_name) (wM E ad m_thrown m_trouble m_where m_rv m_tape m_taped m_size m_spot m_sort m_place m_number m_fault m_wrongAt m_word m_v R0 m_past m_kept m_acts m_images m_matchNow m_slopsNow m_matchesNow m_slopped m_seatBest m_fedBest m_slopsBest m_sawBest m_leastNow m_stableNow m_fitsNow m_someNow m_everyNow m_otherIn m_askLeft tb_seats tb_slack tb_saw tb_quarrel tb_people tb_pairs tb_forks tb_unsures tb_trieds tb_fed tb_seat tb_one tb_other tb_years tb_kind tb_unsure tb_may tb_tried tb_name) := by
  refine xV_of (by decide) (Nat.le_of_ble_eq_true rfl) (fun p e s m args below meth c A C ls hl G => ?_)
  have hx := C.1
  have hb := C.2.1
  have hl : lv_has ls 3 [(0, .ref (ad 0)), (1, .int l1)] := hl
  unfold f_M_asTold at hf
  refine lv_iconst (v := 0) hx hb dX12_asTold_0 (by decide) ?_
  refine lv_istore_n (lv' := [(2, .int (0 : Int32)), (0, .ref (ad 0)), (1, .int l1)]) hx hb dX12_asTold_1 rfl hl (by decide) rfl (fun ls hl => ?_)
  obtain ⟨x2, hr, hf⟩ := bd_go hf
  have Jx2 : ∀ (H : Heap) (locs : List Loc) (ls : Array Slot), xG s E A (wM E ad m_thrown m_trouble m_where m_rv m_tape m_taped m_size m_spot m_sort m_place m_number m_fault m_wrongAt m_word m_v x2 m_past m_kept m_acts m_images m_matchNow m_slopsNow m_matchesNow m_slopped m_seatBest m_fedBest m_slopsBest m_sawBest m_leastNow m_stableNow m_fitsNow m_someNow m_everyNow m_otherIn m_askLeft tb_seats tb_slack tb_saw tb_quarrel tb_people tb_pairs tb_forks tb_unsures tb_trieds tb_fed tb_seat tb_one tb_other tb_years tb_kind tb_unsure tb_may tb_tried tb_name) H locs → lv_has ls 3 [(0, .ref (ad 0)), (1, .int l1)] → W p l e (xR 1 21) s m args below meth c H locs 0 0 (MQ below (xqV E A (wM E ad m_thrown m_trouble m_where m_rv m_tape m_taped m_size m_spot m_sort m_place m_number m_fault m_wrongAt m_word m_v R0 m_past m_kept m_acts m_images m_matchNow m_slopsNow m_matchesNow m_slopped m_seatBest m_fedBest m_slopsBest m_sawBest m_leastNow m_stableNow m_fitsNow m_someNow m_everyNow m_otherIn m_askLeft tb_seats tb_slack tb_saw tb_quarrel tb_people tb_pairs tb_forks tb_unsures tb_trieds tb_fed tb_seat tb_one tb_other tb_years tb_kind tb_unsure tb_may tb_tried tb_name)) args s 0 0 A) (F0 m 21 ls []) := by
    intro H locs ls G hl
    refine lv_iconst (v := 0) hx hb dX12_asTold_21 (by decide) ?_
    refine lv_istore_n (lv' := [(2, .int (0 : Int32)), (0, .ref (ad 0)), (1, .int l1)]) hx hb dX12_asTold_22 rfl hl (by decide) rfl (fun ls hl => ?_)
    obtain ⟨x4, hr, hf⟩ := bd_go hf
    have Jx4 : ∀ (H : Heap) (locs : List Loc) (ls : Array Slot), xG s E A (wM E ad m_thrown m_trouble m_where m_rv m_tape m_taped m_size m_spot m_sort m_place m_number m_fault m_wrongAt m_word m_v x4 m_past m_kept m_acts m_images m_matchNow m_slopsNow m_matchesNow m_slopped m_seatBest m_fedBest m_slopsBest m_sawBest m_leastNow m_stableNow m_fitsNow m_someNow m_everyNow m_otherIn m_askLeft tb_seats tb_slack tb_saw tb_quarrel tb_people tb_pairs tb_forks tb_unsures tb_trieds tb_fed tb_seat tb_one tb_other tb_years tb_kind tb_unsure tb_may tb_tried tb_name) H locs → lv_has ls 3 [(0, .ref (ad 0)), (1, .int l1)] → W p l e (xR 1 21) s m args below meth c H locs 0 0 (MQ below (xqV E A (wM E ad m_thrown m_trouble m_where m_rv m_tape m_taped m_size m_spot m_sort m_place m_number m_fault m_wrongAt m_word m_v R0 m_past m_kept m_acts m_images m_matchNow m_slopsNow m_matchesNow m_slopped m_seatBest m_fedBest m_slopsBest m_sawBest m_leastNow m_stableNow m_fitsNow m_someNow m_everyNow m_otherIn m_askLeft tb_seats tb_slack tb_saw tb_quarrel tb_people tb_pairs tb_forks tb_unsures tb_trieds tb_fed tb_seat tb_one tb_other tb_years tb_kind tb_unsure tb_may tb_tried tb_name)) args s 0 0 A) (F0 m 49 ls []) := by
      intro H locs ls G hl
      refine lv_iconst (v := 0) hx hb dX12_asTold_49 (by decide) ?_
      refine lv_istore_n (lv' := [(2, .int (0 : Int32)), (0, .ref (ad 0)), (1, .int l1)]) hx hb dX12_asTold_50 rfl hl (by decide) rfl (fun ls hl => ?_)
      obtain ⟨x6, hr, hf⟩ := bd_go hf
      have Jx6 : ∀ (H : Heap) (locs : List Loc) (ls : Array Slot), xG s E A (wM E ad m_thrown m_trouble m_where m_rv m_tape m_taped m_size m_spot m_sort m_place m_number m_fault m_wrongAt m_word m_v x6 m_past m_kept m_acts m_images m_matchNow m_slopsNow m_matchesNow m_slopped m_seatBest m_fedBest m_slopsBest m_sawBest m_leastNow m_stableNow m_fitsNow m_someNow m_everyNow m_otherIn m_askLeft tb_seats tb_slack tb_saw tb_quarrel tb_people tb_pairs tb_forks tb_unsures tb_trieds tb_fed tb_seat tb_one tb_other tb_years tb_kind tb_unsure tb_may tb_tried tb_name) H locs → lv_has ls 3 [(0, .ref (ad 0)), (1, .int l1)] → W p l e (xR 1 21) s m args below meth c H locs 0 0 (MQ below (xqV E A (wM E ad m_thrown m_trouble m_where m_rv m_tape m_taped m_size m_spot m_sort m_place m_number m_fault m_wrongAt m_word m_v R0 m_past m_kept m_acts m_images m_matchNow m_slopsNow m_matchesNow m_slopped m_seatBest m_fedBest m_slopsBest m_sawBest m_leastNow m_stableNow m_fitsNow m_someNow m_everyNow m_otherIn m_askLeft tb_seats tb_slack tb_saw tb_quarrel tb_people tb_pairs tb_forks tb_unsures tb_trieds tb_fed tb_seat tb_one tb_other tb_years tb_kind tb_unsure tb_may tb_tried tb_name)) args s 0 0 A) (F0 m 139 ls []) := by
        intro H locs ls G hl
        refine lv_iconst (v := 0) hx hb dX12_asTold_139 (by decide) ?_
        refine lv_istore_n (lv' := [(2, .int (0 : Int32)), (0, .ref (ad 0)), (1, .int l1)]) hx hb dX12_asTold_140 rfl hl (by decide) rfl (fun ls hl => ?_)
        obtain ⟨x10, hr, hf⟩ := bd_go hf
        have Jx10 : ∀ (H : Heap) (locs : List Loc) (ls : Array Slot), xG s E A (wM E ad m_thrown m_trouble m_where m_rv m_tape m_taped m_size m_spot m_sort m_place m_number m_fault m_wrongAt m_word m_v x10 m_past m_kept m_acts m_images m_matchNow m_slopsNow m_matchesNow m_slopped m_seatBest m_fedBest m_slopsBest m_sawBest m_leastNow m_stableNow m_fitsNow m_someNow m_everyNow m_otherIn m_askLeft tb_seats tb_slack tb_saw tb_quarrel tb_people tb_pairs tb_forks tb_unsures tb_trieds tb_fed tb_seat tb_one tb_other tb_years tb_kind tb_unsure tb_may tb_tried tb_name) H locs → lv_has ls 3 [(0, .ref (ad 0))] → W p l e (xR 1 21) s m args below meth c H locs 0 0 (MQ below (xqV E A (wM E ad m_thrown m_trouble m_where m_rv m_tape m_taped m_size m_spot m_sort m_place m_number m_fault m_wrongAt m_word m_v R0 m_past m_kept m_acts m_images m_matchNow m_slopsNow m_matchesNow m_slopped m_seatBest m_fedBest m_slopsBest m_sawBest m_leastNow m_stableNow m_fitsNow m_someNow m_everyNow m_otherIn m_askLeft tb_seats tb_slack tb_saw tb_quarrel tb_people tb_pairs tb_forks tb_unsures tb_trieds tb_fed tb_seat tb_one tb_other tb_years tb_kind tb_unsure tb_may tb_tried tb_name)) args s 0 0 A) (F0 m 192 ls []) := by
          intro H locs ls G hl
          refine lv_aload_n hx hb dX12_asTold_192 rfl (lv_at hl 0 rfl) ?_
          refine x_get C G fX12_21 (wM_at0) rfl dX12_asTold_193 ?_
          refine lv_bipush (v := 55) hx hb dX12_asTold_196 (by decide) ?_
          refine lv_aload_n hx hb dX12_asTold_198 rfl (lv_at hl 0 rfl) ?_
          refine x_get C G fX12_298.g (wM_at0) rfl dX12_asTold_199 ?_
          refine x_get C G fX12_241.g (wM_at9) rfl dX12_asTold_202 ?_
          have hi := ck_in hf
          have hf := ck_go hf
          refine x_iast (ws' := (wM E ad m_thrown m_trouble m_where m_rv m_tape m_taped m_size m_spot m_sort m_place m_number m_fault m_wrongAt m_word m_v (upd x10 (55 : Int32).toNatClampNeg tb_pairs) m_past m_kept m_acts m_images m_matchNow m_slopsNow m_matchesNow m_slopped m_seatBest m_fedBest m_slopsBest m_sawBest m_leastNow m_stableNow m_fitsNow m_someNow m_everyNow m_otherIn m_askLeft tb_seats tb_slack tb_saw tb_quarrel tb_people tb_pairs tb_forks tb_unsures tb_trieds tb_fed tb_seat tb_one tb_other tb_years tb_kind tb_unsure tb_may tb_tried tb_name)) C G (wM_at3) hi wM_set_m_x dX12_asTold_205 (fun H locs G => ?_)
          refine lv_aload_n hx hb dX12_asTold_206 rfl (lv_at hl 0 rfl) ?_
          refine x_get C G fX12_21 (wM_at0) rfl dX12_asTold_207 ?_
          refine lv_bipush (v := 56) hx hb dX12_asTold_210 (by decide) ?_
          refine lv_aload_n hx hb dX12_asTold_212 rfl (lv_at hl 0 rfl) ?_
          refine x_get C G fX12_298.g (wM_at0) rfl dX12_asTold_213 ?_
          refine x_get C G fX12_231.g (wM_at9) rfl dX12_asTold_216 ?_
          have hi := ck_in hf
          have hf := ck_go hf
          refine x_iast (ws' := (wM E ad m_thrown m_trouble m_where m_rv m_tape m_taped m_size m_spot m_sort m_place m_number m_fault m_wrongAt m_word m_v (upd (upd x10 (55 : Int32).toNatClampNeg tb_pairs) (56 : Int32).toNatClampNeg tb_forks) m_past m_kept m_acts m_images m_matchNow m_slopsNow m_matchesNow m_slopped m_seatBest m_fedBest m_slopsBest m_sawBest m_leastNow m_stableNow m_fitsNow m_someNow m_everyNow m_otherIn m_askLeft tb_seats tb_slack tb_saw tb_quarrel tb_people tb_pairs tb_forks tb_unsures tb_trieds tb_fed tb_seat tb_one tb_other tb_years tb_kind tb_unsure tb_may tb_tried tb_name)) C G (wM_at3) hi wM_set_m_x dX12_asTold_219 (fun H locs G => ?_)
          obtain rfl := Option.some.inj hf
          exact xV_ret C G dX12_asTold_220
        exact w_M_asTold_m_M_L141 C Jx10 fu _ _ _ _ _ G (lv_sub hl [1, 2, 0] rfl) hr
      exact w_M_asTold_m_M_L51 C Jx6 fu _ _ _ _ _ G (lv_sub hl [1, 2, 0] rfl) hr
    exact w_M_asTold_m_M_L23 C Jx4 fu _ _ _ _ _ G (lv_sub hl [1, 2, 0] rfl) hr
  exact w_M_asTold_m_M_L2 C Jx2 fu _ _ _ _ _ G (lv_sub hl [1, 2, 0] rfl) hr
set_option maxHeartbeats 4000000 in
set_option maxRecDepth 100000 in
theorem w_M_wrongTried_m_M_L7 {p : Program} {l : Launch} {e : Env} {s : State} {m : MethodId} {args : Array Value} {below : List Frame} {meth : Method} {c : Code} {A : Nat → Prop} {E : xE} {ad : Nat → Nat} {m_thrown m_trouble m_where m_taped m_size m_spot m_sort m_place m_number m_fault m_wrongAt m_acts m_images m_matchNow m_slopsNow m_matchesNow m_fedBest m_slopsBest m_sawBest m_leastNow m_stableNow m_fitsNow m_someNow m_everyNow m_askLeft tb_seats tb_slack tb_saw tb_quarrel tb_people tb_pairs tb_forks tb_unsures tb_trieds tb_fed : Int32} {m_rv : Value} {m_tape m_v m_x m_past m_kept m_slopped m_seatBest m_otherIn tb_seat tb_one tb_other tb_years tb_kind tb_unsure tb_may tb_tried : Nat → Int32} {m_word : Int64} {tb_name : Nat → Int64} {o : (Int32 × (Nat → Int32)) ⊕ (Unit)} {R0 : Int32 × (Nat → Int32)} (C : xC p s m args meth c cX12_wrongTried 3 RX12 E A (some .int)) (Jr : ∀ r, o = .inl r → r = R0) (J : ∀ t, o = .inr t → ∀ (H : Heap) (locs : List Loc) (ls : Array Slot), xG s E A (wM E ad m_thrown m_trouble m_where m_rv m_tape m_taped m_size m_spot m_sort m_place m_number m_fault m_wrongAt m_word m_v m_x m_past m_kept m_acts m_images m_matchNow m_slopsNow m_matchesNow m_slopped m_seatBest m_fedBest m_slopsBest m_sawBest m_leastNow m_stableNow m_fitsNow m_someNow m_everyNow m_otherIn m_askLeft tb_seats tb_slack tb_saw tb_quarrel tb_people tb_pairs tb_forks tb_unsures tb_trieds tb_fed tb_seat tb_one tb_other tb_years tb_kind tb_unsure tb_may tb_tried tb_name) H locs → lv_has ls 3 [] → W p l e (xR 4 87) s m args below meth c H locs 0 0 (MQ below (xqI E A (wM E ad m_thrown m_trouble m_where m_rv m_tape m_taped m_size m_spot m_sort m_place m_number m_fault m_wrongAt m_word m_v R0.2 m_past m_kept m_acts m_images m_matchNow m_slopsNow m_matchesNow m_slopped m_seatBest m_fedBest m_slopsBest m_sawBest m_leastNow m_stableNow m_fitsNow m_someNow m_everyNow m_otherIn m_askLeft tb_seats tb_slack tb_saw tb_quarrel tb_people tb_pairs tb_forks tb_unsures tb_trieds tb_fed tb_seat tb_one tb_other tb_years tb_kind tb_unsure tb_may tb_tried tb_name) (some .int) R0.1) args s 0 0 A) (F0 m 53 ls [])) :
    ∀ (n : Nat) (l2 : Int32) (H : Heap) (locs : List Loc) (ls : Array Slot), xG s E A (wM E ad m_thrown m_trouble m_where m_rv m_tape m_taped m_size m_spot m_sort m_place m_number m_fault m_wrongAt m_word m_v m_x m_past m_kept m_acts m_images m_matchNow m_slopsNow m_matchesNow m_slopped m_seatBest m_fedBest m_slopsBest m_sawBest m_leastNow m_stableNow m_fitsNow m_someNow m_everyNow m_otherIn m_askLeft tb_seats tb_slack tb_saw tb_quarrel tb_people tb_pairs tb_forks tb_unsures tb_trieds tb_fed tb_seat tb_one tb_other tb_years tb_kind tb_unsure tb_may tb_tried tb_name) H locs → lv_has ls 3 [(0, .ref (ad 0)), (2, .int l2)] → f_M_wrongTried_L7 m_x tb_slack tb_trieds tb_fed tb_tried n l2 = some o → W p l e (xR 4 87) s m args below meth c H locs 0 0 (MQ below (xqI E A (wM E ad m_thrown m_trouble m_where m_rv m_tape m_taped m_size m_spot m_sort m_place m_number m_fault m_wrongAt m_word m_v R0.2 m_past m_kept m_acts m_images m_matchNow m_slopsNow m_matchesNow m_slopped m_seatBest m_fedBest m_slopsBest m_sawBest m_leastNow m_stableNow m_fitsNow m_someNow m_everyNow m_otherIn m_askLeft tb_seats tb_slack tb_saw tb_quarrel tb_people tb_pairs tb_forks tb_unsures tb_trieds tb_fed tb_seat tb_one tb_other tb_years tb_kind tb_unsure tb_may tb_tried tb_name) (some .int) R0.1) args s 0 0 A) (F0 m 7 ls []) := by
  have hx := C.1
  have hb := C.2.1
  intro n
  induction n with
  | zero =>
    intro l2 H locs ls G hl hf
    exact nomatch (show (none : Option ((Int32 × (Nat → Int32)) ⊕ (Unit))) = some o from hf)
  | succ n ih =>
    intro l2 H locs ls G hl hf
    rw [f_M_wrongTried_L7] at hf
    refine lv_iload_n hx hb dX12_wrongTried_7 rfl (lv_at hl 1 rfl) ?_
    refine lv_aload_n hx hb dX12_wrongTried_8 rfl (lv_at hl 0 rfl) ?_
    refine x_get C G fX12_298.g (wM_at0) rfl dX12_wrongTried_9 ?_
    refine x_get C G fX12_277.g (wM_at9) rfl dX12_wrongTried_12 ?_
    refine lv_icmp_ge (tgt := 53) hx hb dX12_wrongTried_15 (by decide) (fun h => ?_) (fun h => ?_)
    · have hf := it_t h hf
      exact J _ (Option.some.inj hf).symm _ _ _ G (lv_sub hl [] rfl)
    · have hf := it_f h hf
      refine lv_aload_n hx hb dX12_wrongTried_18 rfl (lv_at hl 0 rfl) ?_
      refine lv_aload_n hx hb dX12_wrongTried_19 rfl (lv_at hl 0 rfl) ?_
      refine x_get C G fX12_298.g (wM_at0) rfl dX12_wrongTried_20 ?_
      refine x_get C G fX12_287 (wM_at9) rfl dX12_wrongTried_23 ?_
      refine lv_iload_n hx hb dX12_wrongTried_26 rfl (lv_at hl 1 rfl) ?_
      have hi := ck_in hf
      have hf := ck_go hf
      refine x_iald C G (wM_at17) hi dX12_wrongTried_27 ?_
      obtain ⟨x2, hc, hf⟩ := bd_go hf
      refine xI_V C G (c_M_isFeeding_m_M hc) mX12_isFeeding kX12_336 (wM_at0) rfl ⟨Nat.le_of_ble_eq_true rfl, Nat.le_of_ble_eq_true rfl⟩ rfl hl.1 rfl (Nat.le_of_ble_eq_true rfl) ⟨Nat.le_refl _, Nat.le_refl _⟩ dX12_wrongTried_28 (fun hz2 H locs G => ?_)
      refine lv_aload_n hx hb dX12_wrongTried_31 rfl (lv_at hl 0 rfl) ?_
      refine x_get C G fX12_298.g (wM_at0) rfl dX12_wrongTried_32 ?_
      refine x_get C G fX12_289.g (wM_at9) rfl dX12_wrongTried_35 ?_
      refine lv_iload_n hx hb dX12_wrongTried_38 rfl (lv_at hl 1 rfl) ?_
      obtain ⟨x3, hc, hf⟩ := bd_go hf
      refine xI_S C G (c_M_bit_any hc) mX12_bit kX12_237 ⟨Nat.le_of_ble_eq_true rfl, Nat.le_of_ble_eq_true rfl⟩ rfl hl.1 rfl (Nat.le_of_ble_eq_true rfl) ⟨Nat.le_refl _, Nat.le_refl _⟩ dX12_wrongTried_39 (fun hz3 H locs G => ?_)
      refine lv_icmp_eq (tgt := 47) hx hb dX12_wrongTried_42 (by decide) (fun h => ?_) (fun h => ?_)
      · have hf := it_t h hf
        obtain ⟨x4, ex4⟩ : ∃ z : Int32, z = l2 + (1 : Int32) := ⟨_, rfl⟩
        have hf := lt_go ex4 hf
        refine lv_iinc (v := x4) (lv' := [(2, .int x4), (0, .ref (ad 0))]) hx hb dX12_wrongTried_47 hl (k := 1) rfl (by rw [ex4]; rfl) (by decide) rfl (fun ls hl => ?_)
        refine lv_goto (tgt := 7) hx hb dX12_wrongTried_50 (by decide) ?_
        exact ih x4 _ _ _ G (lv_sub hl [1, 0] rfl) hf
      · have hf := it_f h hf
        refine lv_iload_n hx hb dX12_wrongTried_45 rfl (lv_at hl 1 rfl) ?_
        obtain rfl := Jr _ (Option.some.inj hf).symm
        exact xI_ret C G rfl dX12_wrongTried_46
set_option maxHeartbeats 4000000 in
set_option maxRecDepth 100000 in
theorem c_M_wrongTried_m_M {l : Launch} {E : xE} {ad : Nat → Nat} {m_thrown m_trouble m_where m_taped m_size m_spot m_sort m_place m_number m_fault m_wrongAt m_acts m_images m_matchNow m_slopsNow m_matchesNow m_fedBest m_slopsBest m_sawBest m_leastNow m_stableNow m_fitsNow m_someNow m_everyNow m_askLeft tb_seats tb_slack tb_saw tb_quarrel tb_people tb_pairs tb_forks tb_unsures tb_trieds tb_fed : Int32} {m_rv : Value} {m_tape m_v m_x m_past m_kept m_slopped m_seatBest m_otherIn tb_seat tb_one tb_other tb_years tb_kind tb_unsure tb_may tb_tried : Nat → Int32} {m_word : Int64} {tb_name : Nat → Int64} {l1 : Int32} {R0 : Int32 × (Nat → Int32)} (hf : f_M_wrongTried l1 m_x tb_slack tb_pairs tb_forks tb_unsures tb_trieds tb_fed tb_seat tb_one tb_other tb_years tb_kind tb_unsure tb_may tb_tried = some R0) : xI l E yX12_wrongTried cX12_wrongTried 3 (some .int) 4 87 [.ref (ad 0), .int l1] (wM E ad m_thrown m_trouble m_where m_rv m_tape m_taped m_size m_spot m_sort m_place m_number m_fault m_wrongAt m_word m_v m_x m_past m_kept m_acts m_images m_matchNow m_slopsNow m_matchesNow m_slopped m_seatBest m_fedBest m_slopsBest m_sawBest m_leastNow m_stableNow m_fitsNow m_someNow m_everyNow m_otherIn m_askLeft tb_seats tb_slack tb_saw tb_quarrel tb_people tb_pairs tb_forks tb_unsures tb_trieds tb_fed tb_seat tb_one tb_other tb_years tb_kind tb_unsure tb_may tb_tried tb_name) (wM E ad m_thrown m_trouble m_where m_rv m_tape m_taped m_size m_spot m_sort m_place m_number m_fault m_wrongAt m_word m_v R0.2 m_past m_kept m_acts m_images m_matchNow m_slopsNow m_matchesNow m_slopped m_seatBest m_fedBest m_slopsBest m_sawBest m_leastNow m_stableNow m_fitsNow m_someNow m_everyNow m_otherIn m_askLeft tb_seats tb_slack tb_saw tb_quarrel tb_people tb_pairs tb_forks tb_unsures tb_trieds tb_fed tb_seat tb_one tb_other tb_years tb_kind tb_unsure tb_may tb_tried tb_name) R0.1 := by
  refine xI_of (by decide) (Nat.le_of_ble_eq_true rfl) (fun p e s m args below meth c A C ls hl G => ?_)
  have hx := C.1
  have hb := C.2.1
  have hl : lv_has ls 3 [(0, .ref (ad 0)), (1, .int l1)] := hl
  unfold f_M_wrongTried at hf
  refine lv_aload_n hx hb dX12_wrongTried_0 rfl (lv_at hl 0 rfl) ?_
  refine lv_iload_n hx hb dX12_wrongTried_1 rfl (lv_at hl 1 rfl) ?_
  obtain ⟨x1, hc, hf⟩ := bd_go hf
  refine xV_V C G (c_M_asTold_m_M hc) mX12_asTold kX12_300 (wM_at0) rfl ⟨Nat.le_of_ble_eq_true rfl, Nat.le_of_ble_eq_true rfl⟩ rfl hl.1 rfl (Nat.le_of_ble_eq_true rfl) ⟨Nat.le_refl _, Nat.le_refl _⟩ dX12_wrongTried_2 (fun H locs G => ?_)
  refine lv_iconst (v := 0) hx hb dX12_wrongTried_5 (by decide) ?_
  refine lv_istore_n (lv' := [(2, .int (0 : Int32)), (0, .ref (ad 0)), (1, .int l1)]) hx hb dX12_wrongTried_6 rfl hl (by decide) rfl (fun ls hl => ?_)
  obtain ⟨ox5, hr, hf⟩ := bd_go hf
  have Jx5 : ∀ x5, ox5 = .inr x5 → ∀ (H : Heap) (locs : List Loc) (ls : Array Slot), xG s E A (wM E ad m_thrown m_trouble m_where m_rv m_tape m_taped m_size m_spot m_sort m_place m_number m_fault m_wrongAt m_word m_v x1 m_past m_kept m_acts m_images m_matchNow m_slopsNow m_matchesNow m_slopped m_seatBest m_fedBest m_slopsBest m_sawBest m_leastNow m_stableNow m_fitsNow m_someNow m_everyNow m_otherIn m_askLeft tb_seats tb_slack tb_saw tb_quarrel tb_people tb_pairs tb_forks tb_unsures tb_trieds tb_fed tb_seat tb_one tb_other tb_years tb_kind tb_unsure tb_may tb_tried tb_name) H locs → lv_has ls 3 [] → W p l e (xR 4 87) s m args below meth c H locs 0 0 (MQ below (xqI E A (wM E ad m_thrown m_trouble m_where m_rv m_tape m_taped m_size m_spot m_sort m_place m_number m_fault m_wrongAt m_word m_v R0.2 m_past m_kept m_acts m_images m_matchNow m_slopsNow m_matchesNow m_slopped m_seatBest m_fedBest m_slopsBest m_sawBest m_leastNow m_stableNow m_fitsNow m_someNow m_everyNow m_otherIn m_askLeft tb_seats tb_slack tb_saw tb_quarrel tb_people tb_pairs tb_forks tb_unsures tb_trieds tb_fed tb_seat tb_one tb_other tb_years tb_kind tb_unsure tb_may tb_tried tb_name) (some .int) R0.1) args s 0 0 A) (F0 m 53 ls []) := by
    intro x5 hq H locs ls G hl
    subst hq
    have hf := sm_r hf
    refine lv_bipush (v := -2) hx hb dX12_wrongTried_53 (by decide) ?_
    obtain rfl := Option.some.inj hf
    exact xI_ret C G rfl dX12_wrongTried_55
  have Jrx5 : ∀ r, ox5 = .inl r → r = R0 := by
    intro r hq
    subst hq
    exact Option.some.inj hf
  exact w_M_wrongTried_m_M_L7 C Jrx5 Jx5 fu _ _ _ _ G (lv_sub hl [1, 0] rfl) hr
set_option maxHeartbeats 4000000 in
set_option maxRecDepth 100000 in
theorem w_M_fitting_m_M_L29 {p : Program} {l : Launch} {e : Env} {s : State} {m : MethodId} {args : Array Value} {below : List Frame} {meth : Method} {c : Code} {A : Nat → Prop} {E : xE} {Q : State → Prop} {ad : Nat → Nat} {m_thrown m_trouble m_where m_taped m_size m_spot m_sort m_place m_number m_fault m_wrongAt m_acts m_images m_matchNow m_slopsNow m_matchesNow m_fedBest m_slopsBest m_sawBest m_leastNow m_stableNow m_fitsNow m_someNow m_everyNow m_askLeft tb_seats tb_slack tb_saw tb_quarrel tb_people tb_pairs tb_forks tb_unsures tb_trieds tb_fed : Int32} {m_rv : Value} {m_tape m_v m_x m_past m_kept m_slopped m_seatBest tb_seat tb_one tb_other tb_years tb_kind tb_unsure tb_may tb_tried : Nat → Int32} {m_word : Int64} {tb_name : Nat → Int64} {l1 : Int32} {l2 : Int32} {o : (Nat → Int32)} (C : xC p s m args meth c cX12_fitting 5 RX12 E A (some .int)) (J : ∀ (H : Heap) (locs : List Loc) (ls : Array Slot), xG s E A (wM E ad m_thrown m_trouble m_where m_rv m_tape m_taped m_size m_spot m_sort m_place m_number m_fault m_wrongAt m_word m_v m_x m_past m_kept m_acts m_images m_matchNow m_slopsNow m_matchesNow m_slopped m_seatBest m_fedBest m_slopsBest m_sawBest m_leastNow m_stableNow m_fitsNow m_someNow m_everyNow o m_askLeft tb_seats tb_slack tb_saw tb_quarrel tb_people tb_pairs tb_forks tb_unsures tb_trieds tb_fed tb_seat tb_one tb_other tb_years tb_kind tb_unsure tb_may tb_tried tb_name) H locs → lv_has ls 5 [(0, .ref (ad 0)), (1, .int l1), (2, .int l2)] → W p l e (xR 5 109) s m args below meth c H locs 0 0 Q (F0 m 47 ls [])) :
    ∀ (n : Nat) (l3 : Int32) (m_otherIn : Nat → Int32) (H : Heap) (locs : List Loc) (ls : Array Slot), xG s E A (wM E ad m_thrown m_trouble m_where m_rv m_tape m_taped m_size m_spot m_sort m_place m_number m_fault m_wrongAt m_word m_v m_x m_past m_kept m_acts m_images m_matchNow m_slopsNow m_matchesNow m_slopped m_seatBest m_fedBest m_slopsBest m_sawBest m_leastNow m_stableNow m_fitsNow m_someNow m_everyNow m_otherIn m_askLeft tb_seats tb_slack tb_saw tb_quarrel tb_people tb_pairs tb_forks tb_unsures tb_trieds tb_fed tb_seat tb_one tb_other tb_years tb_kind tb_unsure tb_may tb_tried tb_name) H locs → lv_has ls 5 [(0, .ref (ad 0)), (1, .int l1), (2, .int l2), (3, .int l3)] → f_M_fitting_L29 n l3 m_otherIn = some o → W p l e (xR 5 109) s m args below meth c H locs 0 0 Q (F0 m 29 ls []) := by
  have hx := C.1
  have hb := C.2.1
  intro n
  induction n with
  | zero =>
    intro l3 m_otherIn H locs ls G hl hf
    exact nomatch (show (none : Option ((Nat → Int32))) = some o from hf)
  | succ n ih =>
    intro l3 m_otherIn H locs ls G hl hf
    rw [f_M_fitting_L29] at hf
    refine lv_iload_n hx hb dX12_fitting_29 rfl (lv_at hl 3 rfl) ?_
    refine lv_iconst (v := 4) hx hb dX12_fitting_30 (by decide) ?_
    refine lv_icmp_ge (tgt := 47) hx hb dX12_fitting_31 (by decide) (fun h => ?_) (fun h => ?_)
    · have hf := it_t h hf
      obtain rfl := Option.some.inj hf
      exact J _ _ _ G (lv_sub hl [0, 1, 2] rfl)
    · have hf := it_f h hf
      refine lv_aload_n hx hb dX12_fitting_34 rfl (lv_at hl 0 rfl) ?_
      refine x_get C G fX12_36 (wM_at0) rfl dX12_fitting_35 ?_
      refine lv_iload_n hx hb dX12_fitting_38 rfl (lv_at hl 3 rfl) ?_
      refine lv_iconst (v := 0) hx hb dX12_fitting_39 (by decide) ?_
      have hi := ck_in hf
      have hf := ck_go hf
      refine x_iast (ws' := (wM E ad m_thrown m_trouble m_where m_rv m_tape m_taped m_size m_spot m_sort m_place m_number m_fault m_wrongAt m_word m_v m_x m_past m_kept m_acts m_images m_matchNow m_slopsNow m_matchesNow m_slopped m_seatBest m_fedBest m_slopsBest m_sawBest m_leastNow m_stableNow m_fitsNow m_someNow m_everyNow (upd m_otherIn l3.toNatClampNeg (0 : Int32)) m_askLeft tb_seats tb_slack tb_saw tb_quarrel tb_people tb_pairs tb_forks tb_unsures tb_trieds tb_fed tb_seat tb_one tb_other tb_years tb_kind tb_unsure tb_may tb_tried tb_name)) C G (wM_at8) hi wM_set_m_otherIn dX12_fitting_40 (fun H locs G => ?_)
      obtain ⟨x2, ex2⟩ : ∃ z : Int32, z = l3 + (1 : Int32) := ⟨_, rfl⟩
      have hf := lt_go ex2 hf
      refine lv_iinc (v := x2) (lv' := [(3, .int x2), (0, .ref (ad 0)), (1, .int l1), (2, .int l2)]) hx hb dX12_fitting_41 hl (k := 3) rfl (by rw [ex2]; rfl) (by decide) rfl (fun ls hl => ?_)
      refine lv_goto (tgt := 29) hx hb dX12_fitting_44 (by decide) ?_
      exact ih x2 (upd m_otherIn l3.toNatClampNeg (0 : Int32)) _ _ _ G (lv_sub hl [1, 2, 3, 0] rfl) hf
set_option maxHeartbeats 4000000 in
set_option maxRecDepth 100000 in
theorem w_M_fitting_m_M_L118 {p : Program} {l : Launch} {e : Env} {s : State} {m : MethodId} {args : Array Value} {below : List Frame} {meth : Method} {c : Code} {A : Nat → Prop} {E : xE} {Q : State → Prop} {ad : Nat → Nat} {m_thrown m_trouble m_where m_taped m_size m_spot m_sort m_place m_number m_fault m_wrongAt m_acts m_images m_matchNow m_slopsNow m_matchesNow m_fedBest m_slopsBest m_sawBest m_leastNow m_stableNow m_fitsNow m_someNow m_everyNow m_askLeft tb_seats tb_slack tb_saw tb_quarrel tb_people tb_pairs tb_forks tb_unsures tb_trieds tb_fed : Int32} {m_rv : Value} {m_tape m_v m_x m_past m_kept m_slopped m_seatBest tb_seat tb_one tb_other tb_years tb_kind tb_unsure tb_may tb_tried : Nat → Int32} {m_word : Int64} {tb_name : Nat → Int64} {l1 : Int32} {l2 : Int32} {l3 : Int32} {o : (Nat → Int32)} (C : xC p s m args meth c cX12_fitting 5 RX12 E A (some .int)) (J : ∀ (H : Heap) (locs : List Loc) (ls : Array Slot), xG s E A (wM E ad m_thrown m_trouble m_where m_rv m_tape m_taped m_size m_spot m_sort m_place m_number m_fault m_wrongAt m_word m_v m_x m_past m_kept m_acts m_images m_matchNow m_slopsNow m_matchesNow m_slopped m_seatBest m_fedBest m_slopsBest m_sawBest m_leastNow m_stableNow m_fitsNow m_someNow m_everyNow o m_askLeft tb_seats tb_slack tb_saw tb_quarrel tb_people tb_pairs tb_forks tb_unsures tb_trieds tb_fed tb_seat tb_one tb_other tb_years tb_kind tb_unsure tb_may tb_tried tb_name) H locs → lv_has ls 5 [(0, .ref (ad 0)), (1, .int l1), (2, .int l2), (3, .int l3)] → W p l e (xR 5 109) s m args below meth c H locs 0 0 Q (F0 m 160 ls [])) :
    ∀ (n : Nat) (l4 : Int32) (m_otherIn : Nat → Int32) (H : Heap) (locs : List Loc) (ls : Array Slot), xG s E A (wM E ad m_thrown m_trouble m_where m_rv m_tape m_taped m_size m_spot m_sort m_place m_number m_fault m_wrongAt m_word m_v m_x m_past m_kept m_acts m_images m_matchNow m_slopsNow m_matchesNow m_slopped m_seatBest m_fedBest m_slopsBest m_sawBest m_leastNow m_stableNow m_fitsNow m_someNow m_everyNow m_otherIn m_askLeft tb_seats tb_slack tb_saw tb_quarrel tb_people tb_pairs tb_forks tb_unsures tb_trieds tb_fed tb_seat tb_one tb_other tb_years tb_kind tb_unsure tb_may tb_tried tb_name) H locs → lv_has ls 5 [(0, .ref (ad 0)), (1, .int l1), (2, .int l2), (3, .int l3), (4, .int l4)] → f_M_fitting_L118 l3 tb_unsures n l4 m_otherIn = some o → W p l e (xR 5 109) s m args below meth c H locs 0 0 Q (F0 m 118 ls []) := by
  have hx := C.1
  have hb := C.2.1
  intro n
  induction n with
  | zero =>
    intro l4 m_otherIn H locs ls G hl hf
    exact nomatch (show (none : Option ((Nat → Int32))) = some o from hf)
  | succ n ih =>
    intro l4 m_otherIn H locs ls G hl hf
    rw [f_M_fitting_L118] at hf
    refine lv_iload hx hb dX12_fitting_118 (lv_at hl 4 rfl) ?_
    refine lv_aload_n hx hb dX12_fitting_120 rfl (lv_at hl 0 rfl) ?_
    refine x_get C G fX12_298.g (wM_at0) rfl dX12_fitting_121 ?_
    refine x_get C G fX12_263.g (wM_at9) rfl dX12_fitting_124 ?_
    refine lv_icmp_ge (tgt := 160) hx hb dX12_fitting_127 (by decide) (fun h => ?_) (fun h => ?_)
    · have hf := it_t h hf
      obtain rfl := Option.some.inj hf
      exact J _ _ _ G (lv_sub hl [0, 1, 2, 3] rfl)
    · have hf := it_f h hf
      refine lv_aload_n hx hb dX12_fitting_130 rfl (lv_at hl 0 rfl) ?_
      refine x_get C G fX12_36 (wM_at0) rfl dX12_fitting_131 ?_
      refine lv_iload hx hb dX12_fitting_134 (lv_at hl 4 rfl) ?_
      refine lv_dup2_11 hx hb dX12_fitting_136 rfl rfl ?_
      have hi := ck_in hf
      have hf := ck_go hf
      refine x_iald C G (wM_at8) hi dX12_fitting_137 ?_
      refine lv_iload_n hx hb dX12_fitting_138 rfl (lv_at hl 3 rfl) ?_
      refine lv_iload hx hb dX12_fitting_139 (lv_at hl 4 rfl) ?_
      obtain ⟨x9, hc, hf⟩ := bd_go hf
      refine xI_S C G (c_M_bit_any hc) mX12_bit kX12_237 ⟨Nat.le_of_ble_eq_true rfl, Nat.le_of_ble_eq_true rfl⟩ rfl hl.1 rfl (Nat.le_of_ble_eq_true rfl) ⟨Nat.le_refl _, Nat.le_refl _⟩ dX12_fitting_141 (fun hz9 H locs G => ?_)
      obtain ⟨x10, hrx10, hf⟩ := bd_go hf
      have Jx10 : ∀ (H : Heap) (locs : List Loc) (ls : Array Slot), xG s E A (wM E ad m_thrown m_trouble m_where m_rv m_tape m_taped m_size m_spot m_sort m_place m_number m_fault m_wrongAt m_word m_v m_x m_past m_kept m_acts m_images m_matchNow m_slopsNow m_matchesNow m_slopped m_seatBest m_fedBest m_slopsBest m_sawBest m_leastNow m_stableNow m_fitsNow m_someNow m_everyNow m_otherIn m_askLeft tb_seats tb_slack tb_saw tb_quarrel tb_people tb_pairs tb_forks tb_unsures tb_trieds tb_fed tb_seat tb_one tb_other tb_years tb_kind tb_unsure tb_may tb_tried tb_name) H locs → lv_has ls 5 [(0, .ref (ad 0)), (1, .int l1), (2, .int l2), (3, .int l3), (4, .int l4)] → W p l e (xR 5 109) s m args below meth c H locs 0 0 Q (F0 m 152 ls [.int x10, .int (m_otherIn l4.toNatClampNeg), .int l4, .ref (ad 8)]) := by
        intro H locs ls G hl
        refine lv_iadd hx hb dX12_fitting_152 ?_
        have hi := ck_in hf
        have hf := ck_go hf
        refine x_iast (ws' := (wM E ad m_thrown m_trouble m_where m_rv m_tape m_taped m_size m_spot m_sort m_place m_number m_fault m_wrongAt m_word m_v m_x m_past m_kept m_acts m_images m_matchNow m_slopsNow m_matchesNow m_slopped m_seatBest m_fedBest m_slopsBest m_sawBest m_leastNow m_stableNow m_fitsNow m_someNow m_everyNow (upd m_otherIn l4.toNatClampNeg ((m_otherIn l4.toNatClampNeg) + x10)) m_askLeft tb_seats tb_slack tb_saw tb_quarrel tb_people tb_pairs tb_forks tb_unsures tb_trieds tb_fed tb_seat tb_one tb_other tb_years tb_kind tb_unsure tb_may tb_tried tb_name)) C G (wM_at8) hi wM_set_m_otherIn dX12_fitting_153 (fun H locs G => ?_)
        obtain ⟨x11, ex11⟩ : ∃ z : Int32, z = l4 + (1 : Int32) := ⟨_, rfl⟩
        have hf := lt_go ex11 hf
        refine lv_iinc (v := x11) (lv' := [(4, .int x11), (0, .ref (ad 0)), (1, .int l1), (2, .int l2), (3, .int l3)]) hx hb dX12_fitting_154 hl (k := 4) rfl (by rw [ex11]; rfl) (by decide) rfl (fun ls hl => ?_)
        refine lv_goto (tgt := 118) hx hb dX12_fitting_157 (by decide) ?_
        exact ih x11 (upd m_otherIn l4.toNatClampNeg ((m_otherIn l4.toNatClampNeg) + x10)) _ _ _ G (lv_sub hl [1, 2, 3, 4, 0] rfl) hf
      have hf := hrx10
      refine lv_if_eq (tgt := 151) hx hb dX12_fitting_144 (by decide) (fun h => ?_) (fun h => ?_)
      · have hf := it_t h hf
        refine lv_iconst (v := 0) hx hb dX12_fitting_151 (by decide) ?_
        obtain rfl := Option.some.inj hf
        exact Jx10 _ _ _ G (lv_sub hl [0, 1, 2, 3, 4] rfl)
      · have hf := it_f h hf
        refine lv_iconst (v := 1) hx hb dX12_fitting_147 (by decide) ?_
        refine lv_goto (tgt := 152) hx hb dX12_fitting_148 (by decide) ?_
        obtain rfl := Option.some.inj hf
        exact Jx10 _ _ _ G (lv_sub hl [0, 1, 2, 3, 4] rfl)
set_option maxHeartbeats 4000000 in
set_option maxRecDepth 100000 in
theorem w_M_fitting_m_M_L49 {p : Program} {l : Launch} {e : Env} {s : State} {m : MethodId} {args : Array Value} {below : List Frame} {meth : Method} {c : Code} {A : Nat → Prop} {E : xE} {Q : State → Prop} {ad : Nat → Nat} {m_thrown m_trouble m_where m_taped m_size m_spot m_sort m_place m_number m_fault m_wrongAt m_acts m_images m_matchNow m_slopsNow m_matchesNow m_fedBest m_slopsBest m_sawBest m_leastNow m_stableNow m_askLeft tb_seats tb_slack tb_saw tb_quarrel tb_people tb_pairs tb_forks tb_unsures tb_trieds tb_fed : Int32} {m_rv : Value} {m_tape m_v m_past m_kept m_slopped m_seatBest tb_seat tb_one tb_other tb_years tb_kind tb_unsure tb_may tb_tried : Nat → Int32} {m_word : Int64} {tb_name : Nat → Int64} {l1 : Int32} {o : Int32 × (Nat → Int32) × Int32 × Int32 × Int32 × (Nat → Int32)} (C : xC p s m args meth c cX12_fitting 5 RX12 E A (some .int)) (J : ∀ (H : Heap) (locs : List Loc) (ls : Array Slot), xG s E A (wM E ad m_thrown m_trouble m_where m_rv m_tape m_taped m_size m_spot m_sort m_place m_number m_fault m_wrongAt m_word m_v o.2.1 m_past m_kept m_acts m_images m_matchNow m_slopsNow m_matchesNow m_slopped m_seatBest m_fedBest m_slopsBest m_sawBest m_leastNow m_stableNow o.2.2.1 o.2.2.2.1 o.2.2.2.2.1 o.2.2.2.2.2 m_askLeft tb_seats tb_slack tb_saw tb_quarrel tb_people tb_pairs tb_forks tb_unsures tb_trieds tb_fed tb_seat tb_one tb_other tb_years tb_kind tb_unsure tb_may tb_tried tb_name) H locs → lv_has ls 5 [(0, .ref (ad 0)), (2, .int o.1)] → W p l e (xR 5 109) s m args below meth c H locs 0 0 Q (F0 m 166 ls [])) :
    ∀ (n : Nat) (l2 : Int32) (l3 : Int32) (m_x : Nat → Int32) (m_fitsNow : Int32) (m_someNow : Int32) (m_everyNow : Int32) (m_otherIn : Nat → Int32) (H : Heap) (locs : List Loc) (ls : Array Slot), xG s E A (wM E ad m_thrown m_trouble m_where m_rv m_tape m_taped m_size m_spot m_sort m_place m_number m_fault m_wrongAt m_word m_v m_x m_past m_kept m_acts m_images m_matchNow m_slopsNow m_matchesNow m_slopped m_seatBest m_fedBest m_slopsBest m_sawBest m_leastNow m_stableNow m_fitsNow m_someNow m_everyNow m_otherIn m_askLeft tb_seats tb_slack tb_saw tb_quarrel tb_people tb_pairs tb_forks tb_unsures tb_trieds tb_fed tb_seat tb_one tb_other tb_years tb_kind tb_unsure tb_may tb_tried tb_name) H locs → lv_has ls 5 [(0, .ref (ad 0)), (1, .int l1), (2, .int l2), (3, .int l3)] → f_M_fitting_L49 l1 tb_slack tb_pairs tb_forks tb_unsures tb_trieds tb_fed tb_seat tb_one tb_other tb_years tb_kind tb_unsure tb_may tb_tried n l2 l3 m_x m_fitsNow m_someNow m_everyNow m_otherIn = some o → W p l e (xR 5 109) s m args below meth c H locs 0 0 Q (F0 m 49 ls []) := by
  have hx := C.1
  have hb := C.2.1
  intro n
  induction n with
  | zero =>
    intro l2 l3 m_x m_fitsNow m_someNow m_everyNow m_otherIn H locs ls G hl hf
    exact nomatch (show (none : Option (Int32 × (Nat → Int32) × Int32 × Int32 × Int32 × (Nat → Int32))) = some o from hf)
  | succ n ih =>
    intro l2 l3 m_x m_fitsNow m_someNow m_everyNow m_otherIn H locs ls G hl hf
    rw [f_M_fitting_L49] at hf
    refine lv_iload_n hx hb dX12_fitting_49 rfl (lv_at hl 3 rfl) ?_
    refine lv_iconst (v := 1) hx hb dX12_fitting_50 (by decide) ?_
    refine lv_aload_n hx hb dX12_fitting_51 rfl (lv_at hl 0 rfl) ?_
    refine x_get C G fX12_298.g (wM_at0) rfl dX12_fitting_52 ?_
    refine x_get C G fX12_263.g (wM_at9) rfl dX12_fitting_55 ?_
    refine lv_ishl hx hb dX12_fitting_58 ?_
    refine lv_icmp_ge (tgt := 166) hx hb dX12_fitting_59 (by decide) (fun h => ?_) (fun h => ?_)
    · have hf := it_t h hf
      obtain rfl := Option.some.inj hf
      exact J _ _ _ G (lv_sub hl [0, 2] rfl)
    · have hf := it_f h hf
      refine lv_aload_n hx hb dX12_fitting_62 rfl (lv_at hl 0 rfl) ?_
      refine lv_iload_n hx hb dX12_fitting_63 rfl (lv_at hl 3 rfl) ?_
      obtain ⟨x4, hc, hf⟩ := bd_go hf
      refine xI_V C G (c_M_wrongTried_m_M hc) mX12_wrongTried kX12_454 (wM_at0) rfl ⟨Nat.le_of_ble_eq_true rfl, Nat.le_of_ble_eq_true rfl⟩ rfl hl.1 rfl (Nat.le_of_ble_eq_true rfl) ⟨Nat.le_refl _, Nat.le_refl _⟩ dX12_fitting_64 (fun hz H locs G => ?_)
      refine lv_bipush (v := -2) hx hb dX12_fitting_67 (by decide) ?_
      refine lv_icmp_eq (tgt := 75) hx hb dX12_fitting_69 (by decide) (fun h => ?_) (fun h => ?_)
      · have hf := it_t h hf
        refine lv_aload_n hx hb dX12_fitting_75 rfl (lv_at hl 0 rfl) ?_
        refine x_get C G fX12_445.g (wM_at0) rfl dX12_fitting_76 ?_
        refine lv_iload_n hx hb dX12_fitting_79 rfl (lv_at hl 1 rfl) ?_
        obtain ⟨x5, hrx5, hf⟩ := bd_go hf
        have Jx5 : ∀ (H : Heap) (locs : List Loc) (ls : Array Slot), xG s E A (wM E ad m_thrown m_trouble m_where m_rv m_tape m_taped m_size m_spot m_sort m_place m_number m_fault m_wrongAt m_word m_v x4.2 m_past m_kept m_acts m_images m_matchNow m_slopsNow m_matchesNow m_slopped m_seatBest m_fedBest m_slopsBest m_sawBest m_leastNow m_stableNow m_fitsNow m_someNow m_everyNow m_otherIn m_askLeft tb_seats tb_slack tb_saw tb_quarrel tb_people tb_pairs tb_forks tb_unsures tb_trieds tb_fed tb_seat tb_one tb_other tb_years tb_kind tb_unsure tb_may tb_tried tb_name) H locs → lv_has ls 5 [(0, .ref (ad 0)), (1, .int l1), (2, .int x5), (3, .int l3)] → W p l e (xR 5 109) s m args below meth c H locs 0 0 Q (F0 m 85 ls []) := by
          intro H locs ls G hl
          refine lv_aload_n hx hb dX12_fitting_85 rfl (lv_at hl 0 rfl) ?_
          refine lv_dup hx hb dX12_fitting_86 rfl ?_
          refine x_get C G fX12_445.g (wM_at0) rfl dX12_fitting_87 ?_
          refine lv_iconst (v := 1) hx hb dX12_fitting_90 (by decide) ?_
          refine lv_iadd hx hb dX12_fitting_91 ?_
          refine lv_topi (fun x6 ex6 => ?_)
          have hf := lt_go ex6 hf
          refine x_put (ws' := (wM E ad m_thrown m_trouble m_where m_rv m_tape m_taped m_size m_spot m_sort m_place m_number m_fault m_wrongAt m_word m_v x4.2 m_past m_kept m_acts m_images m_matchNow m_slopsNow m_matchesNow m_slopped m_seatBest m_fedBest m_slopsBest m_sawBest m_leastNow m_stableNow x6 m_someNow m_everyNow m_otherIn m_askLeft tb_seats tb_slack tb_saw tb_quarrel tb_people tb_pairs tb_forks tb_unsures tb_trieds tb_fed tb_seat tb_one tb_other tb_years tb_kind tb_unsure tb_may tb_tried tb_name)) C G fX12_445 (wM_at0) rfl rfl (Nat.le_of_ble_eq_true rfl) wM_set_m_fitsNow dX12_fitting_92 (fun H locs G => ?_)
          refine lv_aload_n hx hb dX12_fitting_95 rfl (lv_at hl 0 rfl) ?_
          refine lv_dup hx hb dX12_fitting_96 rfl ?_
          refine x_get C G fX12_448.g (wM_at0) rfl dX12_fitting_97 ?_
          refine lv_iload_n hx hb dX12_fitting_100 rfl (lv_at hl 3 rfl) ?_
          refine lv_ior hx hb dX12_fitting_101 ?_
          refine lv_topi (fun x7 ex7 => ?_)
          have hf := lt_go ex7 hf
          refine x_put (ws' := (wM E ad m_thrown m_trouble m_where m_rv m_tape m_taped m_size m_spot m_sort m_place m_number m_fault m_wrongAt m_word m_v x4.2 m_past m_kept m_acts m_images m_matchNow m_slopsNow m_matchesNow m_slopped m_seatBest m_fedBest m_slopsBest m_sawBest m_leastNow m_stableNow x6 x7 m_everyNow m_otherIn m_askLeft tb_seats tb_slack tb_saw tb_quarrel tb_people tb_pairs tb_forks tb_unsures tb_trieds tb_fed tb_seat tb_one tb_other tb_years tb_kind tb_unsure tb_may tb_tried tb_name)) C G fX12_448 (wM_at0) rfl rfl (Nat.le_of_ble_eq_true rfl) wM_set_m_someNow dX12_fitting_102 (fun H locs G => ?_)
          refine lv_aload_n hx hb dX12_fitting_105 rfl (lv_at hl 0 rfl) ?_
          refine lv_dup hx hb dX12_fitting_106 rfl ?_
          refine x_get C G fX12_451.g (wM_at0) rfl dX12_fitting_107 ?_
          refine lv_iload_n hx hb dX12_fitting_110 rfl (lv_at hl 3 rfl) ?_
          refine lv_iand hx hb dX12_fitting_111 ?_
          refine lv_topi (fun x8 ex8 => ?_)
          have hf := lt_go ex8 hf
          refine x_put (ws' := (wM E ad m_thrown m_trouble m_where m_rv m_tape m_taped m_size m_spot m_sort m_place m_number m_fault m_wrongAt m_word m_v x4.2 m_past m_kept m_acts m_images m_matchNow m_slopsNow m_matchesNow m_slopped m_seatBest m_fedBest m_slopsBest m_sawBest m_leastNow m_stableNow x6 x7 x8 m_otherIn m_askLeft tb_seats tb_slack tb_saw tb_quarrel tb_people tb_pairs tb_forks tb_unsures tb_trieds tb_fed tb_seat tb_one tb_other tb_years tb_kind tb_unsure tb_may tb_tried tb_name)) C G fX12_451 (wM_at0) rfl rfl (Nat.le_of_ble_eq_true rfl) wM_set_m_everyNow dX12_fitting_112 (fun H locs G => ?_)
          refine lv_iconst (v := 0) hx hb dX12_fitting_115 (by decide) ?_
          refine lv_istore (lv' := [(4, .int (0 : Int32)), (0, .ref (ad 0)), (1, .int l1), (2, .int x5), (3, .int l3)]) hx hb dX12_fitting_116 hl (by decide) rfl (fun ls hl => ?_)
          obtain ⟨x12, hr, hf⟩ := bd_go hf
          have Jx12 : ∀ (H : Heap) (locs : List Loc) (ls : Array Slot), xG s E A (wM E ad m_thrown m_trouble m_where m_rv m_tape m_taped m_size m_spot m_sort m_place m_number m_fault m_wrongAt m_word m_v x4.2 m_past m_kept m_acts m_images m_matchNow m_slopsNow m_matchesNow m_slopped m_seatBest m_fedBest m_slopsBest m_sawBest m_leastNow m_stableNow x6 x7 x8 x12 m_askLeft tb_seats tb_slack tb_saw tb_quarrel tb_people tb_pairs tb_forks tb_unsures tb_trieds tb_fed tb_seat tb_one tb_other tb_years tb_kind tb_unsure tb_may tb_tried tb_name) H locs → lv_has ls 5 [(0, .ref (ad 0)), (1, .int l1), (2, .int x5), (3, .int l3)] → W p l e (xR 5 109) s m args below meth c H locs 0 0 Q (F0 m 160 ls []) := by
            intro H locs ls G hl
            obtain ⟨x13, ex13⟩ : ∃ z : Int32, z = l3 + (1 : Int32) := ⟨_, rfl⟩
            have hf := lt_go ex13 hf
            refine lv_iinc (v := x13) (lv' := [(3, .int x13), (0, .ref (ad 0)), (1, .int l1), (2, .int x5)]) hx hb dX12_fitting_160 hl (k := 3) rfl (by rw [ex13]; rfl) (by decide) rfl (fun ls hl => ?_)
            refine lv_goto (tgt := 49) hx hb dX12_fitting_163 (by decide) ?_
            exact ih x5 x13 x4.2 x6 x7 x8 x12 _ _ _ G (lv_sub hl [1, 2, 3, 0] rfl) hf
          exact w_M_fitting_m_M_L118 C Jx12 fu _ _ _ _ _ G (lv_sub hl [1, 2, 3, 4, 0] rfl) hr
        have hf := hrx5
        refine lv_icmp_ne (tgt := 85) hx hb dX12_fitting_80 (by decide) (fun h => ?_) (fun h => ?_)
        · have hf := it_f h hf
          obtain rfl := Option.some.inj hf
          exact Jx5 _ _ _ G (lv_sub hl [0, 1, 2, 3] rfl)
        · have hf := it_t h hf
          refine lv_iload_n hx hb dX12_fitting_83 rfl (lv_at hl 3 rfl) ?_
          refine lv_istore_n (lv' := [(2, .int l3), (0, .ref (ad 0)), (1, .int l1), (3, .int l3)]) hx hb dX12_fitting_84 rfl hl (by decide) rfl (fun ls hl => ?_)
          obtain rfl := Option.some.inj hf
          exact Jx5 _ _ _ G (lv_sub hl [1, 2, 0, 3] rfl)
      · have hf := it_f h hf
        refine lv_goto (tgt := 160) hx hb dX12_fitting_72 (by decide) ?_
        obtain ⟨x14, ex14⟩ : ∃ z : Int32, z = l3 + (1 : Int32) := ⟨_, rfl⟩
        have hf := lt_go ex14 hf
        refine lv_iinc (v := x14) (lv' := [(3, .int x14), (0, .ref (ad 0)), (1, .int l1), (2, .int l2)]) hx hb dX12_fitting_160 hl (k := 3) rfl (by rw [ex14]; rfl) (by decide) rfl (fun ls hl => ?_)
        refine lv_goto (tgt := 49) hx hb dX12_fitting_163 (by decide) ?_
        exact ih l2 x14 x4.2 m_fitsNow m_someNow m_everyNow m_otherIn _ _ _ G (lv_sub hl [1, 2, 3, 0] rfl) hf
set_option maxHeartbeats 4000000 in
set_option maxRecDepth 100000 in
theorem c_M_fitting_m_M {l : Launch} {E : xE} {ad : Nat → Nat} {m_thrown m_trouble m_where m_taped m_size m_spot m_sort m_place m_number m_fault m_wrongAt m_acts m_images m_matchNow m_slopsNow m_matchesNow m_fedBest m_slopsBest m_sawBest m_leastNow m_stableNow m_fitsNow m_someNow m_everyNow m_askLeft tb_seats tb_slack tb_saw tb_quarrel tb_people tb_pairs tb_forks tb_unsures tb_trieds tb_fed : Int32} {m_rv : Value} {m_tape m_v m_x m_past m_kept m_slopped m_seatBest m_otherIn tb_seat tb_one tb_other tb_years tb_kind tb_unsure tb_may tb_tried : Nat → Int32} {m_word : Int64} {tb_name : Nat → Int64} {l1 : Int32} {R0 : Int32 × (Nat → Int32) × Int32 × Int32 × Int32 × (Nat → Int32)} (hf : f_M_fitting l1 m_x m_otherIn tb_slack tb_pairs tb_forks tb_unsures tb_trieds tb_fed tb_seat tb_one tb_other tb_years tb_kind tb_unsure tb_may tb_tried = some R0) : xI l E yX12_fitting cX12_fitting 5 (some .int) 5 109 [.ref (ad 0), .int l1] (wM E ad m_thrown m_trouble m_where m_rv m_tape m_taped m_size m_spot m_sort m_place m_number m_fault m_wrongAt m_word m_v m_x m_past m_kept m_acts m_images m_matchNow m_slopsNow m_matchesNow m_slopped m_seatBest m_fedBest m_slopsBest m_sawBest m_leastNow m_stableNow m_fitsNow m_someNow m_everyNow m_otherIn m_askLeft tb_seats tb_slack tb_saw tb_quarrel tb_people tb_pairs tb_forks tb_unsures tb_trieds tb_fed tb_seat tb_one tb_other tb_years tb_kind tb_unsure tb_may tb_tried tb_name) (wM E ad m_thrown m_trouble m_where m_rv m_tape m_taped m_size m_spot m_sort m_place m_number m_fault m_wrongAt m_word m_v R0.2.1 m_past m_kept m_acts m_images m_matchNow m_slopsNow m_matchesNow m_slopped m_seatBest m_fedBest m_slopsBest m_sawBest m_leastNow m_stableNow R0.2.2.1 R0.2.2.2.1 R0.2.2.2.2.1 R0.2.2.2.2.2 m_askLeft tb_seats tb_slack tb_saw tb_quarrel tb_people tb_pairs tb_forks tb_unsures tb_trieds tb_fed tb_seat tb_one tb_other tb_years tb_kind tb_unsure tb_may tb_tried tb_name) R0.1 := by
  refine xI_of (by decide) (Nat.le_of_ble_eq_true rfl) (fun p e s m args below meth c A C ls hl G => ?_)
  have hx := C.1
  have hb := C.2.1
  have hl : lv_has ls 5 [(0, .ref (ad 0)), (1, .int l1)] := hl
  unfold f_M_fitting at hf
  refine lv_aload_n hx hb dX12_fitting_0 rfl (lv_at hl 0 rfl) ?_
  refine lv_iconst (v := 0) hx hb dX12_fitting_1 (by decide) ?_
  refine x_put (ws' := (wM E ad m_thrown m_trouble m_where m_rv m_tape m_taped m_size m_spot m_sort m_place m_number m_fault m_wrongAt m_word m_v m_x m_past m_kept m_acts m_images m_matchNow m_slopsNow m_matchesNow m_slopped m_seatBest m_fedBest m_slopsBest m_sawBest m_leastNow m_stableNow (0 : Int32) m_someNow m_everyNow m_otherIn m_askLeft tb_seats tb_slack tb_saw tb_quarrel tb_people tb_pairs tb_forks tb_unsures tb_trieds tb_fed tb_seat tb_one tb_other tb_years tb_kind tb_unsure tb_may tb_tried tb_name)) C G fX12_445 (wM_at0) rfl rfl (Nat.le_of_ble_eq_true rfl) wM_set_m_fitsNow dX12_fitting_2 (fun H locs G => ?_)
  refine lv_aload_n hx hb dX12_fitting_5 rfl (lv_at hl 0 rfl) ?_
  refine lv_iconst (v := 0) hx hb dX12_fitting_6 (by decide) ?_
  refine x_put (ws' := (wM E ad m_thrown m_trouble m_where m_rv m_tape m_taped m_size m_spot m_sort m_place m_number m_fault m_wrongAt m_word m_v m_x m_past m_kept m_acts m_images m_matchNow m_slopsNow m_matchesNow m_slopped m_seatBest m_fedBest m_slopsBest m_sawBest m_leastNow m_stableNow (0 : Int32) (0 : Int32) m_everyNow m_otherIn m_askLeft tb_seats tb_slack tb_saw tb_quarrel tb_people tb_pairs tb_forks tb_unsures tb_trieds tb_fed tb_seat tb_one tb_other tb_years tb_kind tb_unsure tb_may tb_tried tb_name)) C G fX12_448 (wM_at0) rfl rfl (Nat.le_of_ble_eq_true rfl) wM_set_m_someNow dX12_fitting_7 (fun H locs G => ?_)
  refine lv_aload_n hx hb dX12_fitting_10 rfl (lv_at hl 0 rfl) ?_
  refine lv_iconst (v := 1) hx hb dX12_fitting_11 (by decide) ?_
  refine lv_aload_n hx hb dX12_fitting_12 rfl (lv_at hl 0 rfl) ?_
  refine x_get C G fX12_298.g (wM_at0) rfl dX12_fitting_13 ?_
  refine x_get C G fX12_263.g (wM_at9) rfl dX12_fitting_16 ?_
  refine lv_ishl hx hb dX12_fitting_19 ?_
  refine lv_iconst (v := 1) hx hb dX12_fitting_20 (by decide) ?_
  refine lv_isub hx hb dX12_fitting_21 ?_
  refine lv_topi (fun x1 ex1 => ?_)
  have hf := lt_go ex1 hf
  refine x_put (ws' := (wM E ad m_thrown m_trouble m_where m_rv m_tape m_taped m_size m_spot m_sort m_place m_number m_fault m_wrongAt m_word m_v m_x m_past m_kept m_acts m_images m_matchNow m_slopsNow m_matchesNow m_slopped m_seatBest m_fedBest m_slopsBest m_sawBest m_leastNow m_stableNow (0 : Int32) (0 : Int32) x1 m_otherIn m_askLeft tb_seats tb_slack tb_saw tb_quarrel tb_people tb_pairs tb_forks tb_unsures tb_trieds tb_fed tb_seat tb_one tb_other tb_years tb_kind tb_unsure tb_may tb_tried tb_name)) C G fX12_451 (wM_at0) rfl rfl (Nat.le_of_ble_eq_true rfl) wM_set_m_everyNow dX12_fitting_22 (fun H locs G => ?_)
  refine lv_iconst (v := -1) hx hb dX12_fitting_25 (by decide) ?_
  refine lv_istore_n (lv' := [(2, .int (-1 : Int32)), (0, .ref (ad 0)), (1, .int l1)]) hx hb dX12_fitting_26 rfl hl (by decide) rfl (fun ls hl => ?_)
  refine lv_iconst (v := 0) hx hb dX12_fitting_27 (by decide) ?_
  refine lv_istore_n (lv' := [(3, .int (0 : Int32)), (2, .int (-1 : Int32)), (0, .ref (ad 0)), (1, .int l1)]) hx hb dX12_fitting_28 rfl hl (by decide) rfl (fun ls hl => ?_)
  obtain ⟨x3, hr, hf⟩ := bd_go hf
  have Jx3 : ∀ (H : Heap) (locs : List Loc) (ls : Array Slot), xG s E A (wM E ad m_thrown m_trouble m_where m_rv m_tape m_taped m_size m_spot m_sort m_place m_number m_fault m_wrongAt m_word m_v m_x m_past m_kept m_acts m_images m_matchNow m_slopsNow m_matchesNow m_slopped m_seatBest m_fedBest m_slopsBest m_sawBest m_leastNow m_stableNow (0 : Int32) (0 : Int32) x1 x3 m_askLeft tb_seats tb_slack tb_saw tb_quarrel tb_people tb_pairs tb_forks tb_unsures tb_trieds tb_fed tb_seat tb_one tb_other tb_years tb_kind tb_unsure tb_may tb_tried tb_name) H locs → lv_has ls 5 [(0, .ref (ad 0)), (1, .int l1), (2, .int (-1 : Int32))] → W p l e (xR 5 109) s m args below meth c H locs 0 0 (MQ below (xqI E A (wM E ad m_thrown m_trouble m_where m_rv m_tape m_taped m_size m_spot m_sort m_place m_number m_fault m_wrongAt m_word m_v R0.2.1 m_past m_kept m_acts m_images m_matchNow m_slopsNow m_matchesNow m_slopped m_seatBest m_fedBest m_slopsBest m_sawBest m_leastNow m_stableNow R0.2.2.1 R0.2.2.2.1 R0.2.2.2.2.1 R0.2.2.2.2.2 m_askLeft tb_seats tb_slack tb_saw tb_quarrel tb_people tb_pairs tb_forks tb_unsures tb_trieds tb_fed tb_seat tb_one tb_other tb_years tb_kind tb_unsure tb_may tb_tried tb_name) (some .int) R0.1) args s 0 0 A) (F0 m 47 ls []) := by
    intro H locs ls G hl
    refine lv_iconst (v := 0) hx hb dX12_fitting_47 (by decide) ?_
    refine lv_istore_n (lv' := [(3, .int (0 : Int32)), (0, .ref (ad 0)), (1, .int l1), (2, .int (-1 : Int32))]) hx hb dX12_fitting_48 rfl hl (by decide) rfl (fun ls hl => ?_)
    obtain ⟨x15, hr, hf⟩ := bd_go hf
    have Jx15 : ∀ (H : Heap) (locs : List Loc) (ls : Array Slot), xG s E A (wM E ad m_thrown m_trouble m_where m_rv m_tape m_taped m_size m_spot m_sort m_place m_number m_fault m_wrongAt m_word m_v x15.2.1 m_past m_kept m_acts m_images m_matchNow m_slopsNow m_matchesNow m_slopped m_seatBest m_fedBest m_slopsBest m_sawBest m_leastNow m_stableNow x15.2.2.1 x15.2.2.2.1 x15.2.2.2.2.1 x15.2.2.2.2.2 m_askLeft tb_seats tb_slack tb_saw tb_quarrel tb_people tb_pairs tb_forks tb_unsures tb_trieds tb_fed tb_seat tb_one tb_other tb_years tb_kind tb_unsure tb_may tb_tried tb_name) H locs → lv_has ls 5 [(0, .ref (ad 0)), (2, .int x15.1)] → W p l e (xR 5 109) s m args below meth c H locs 0 0 (MQ below (xqI E A (wM E ad m_thrown m_trouble m_where m_rv m_tape m_taped m_size m_spot m_sort m_place m_number m_fault m_wrongAt m_word m_v R0.2.1 m_past m_kept m_acts m_images m_matchNow m_slopsNow m_matchesNow m_slopped m_seatBest m_fedBest m_slopsBest m_sawBest m_leastNow m_stableNow R0.2.2.1 R0.2.2.2.1 R0.2.2.2.2.1 R0.2.2.2.2.2 m_askLeft tb_seats tb_slack tb_saw tb_quarrel tb_people tb_pairs tb_forks tb_unsures tb_trieds tb_fed tb_seat tb_one tb_other tb_years tb_kind tb_unsure tb_may tb_tried tb_name) (some .int) R0.1) args s 0 0 A) (F0 m 166 ls []) := by
      intro H locs ls G hl
      refine lv_aload_n hx hb dX12_fitting_166 rfl (lv_at hl 0 rfl) ?_
      refine x_get C G fX12_445.g (wM_at0) rfl dX12_fitting_167 ?_
      refine lv_if_ne (tgt := 178) hx hb dX12_fitting_170 (by decide) (fun h => ?_) (fun h => ?_)
      · have hf := it_f h hf
        refine lv_iload_n hx hb dX12_fitting_178 rfl (lv_at hl 1 rfl) ?_
        obtain rfl := Option.some.inj hf
        exact xI_ret C G rfl dX12_fitting_179
      · have hf := it_t h hf
        refine lv_aload_n hx hb dX12_fitting_173 rfl (lv_at hl 0 rfl) ?_
        refine lv_iconst (v := 0) hx hb dX12_fitting_174 (by decide) ?_
        refine x_put (ws' := (wM E ad m_thrown m_trouble m_where m_rv m_tape m_taped m_size m_spot m_sort m_place m_number m_fault m_wrongAt m_word m_v x15.2.1 m_past m_kept m_acts m_images m_matchNow m_slopsNow m_matchesNow m_slopped m_seatBest m_fedBest m_slopsBest m_sawBest m_leastNow m_stableNow x15.2.2.1 x15.2.2.2.1 (0 : Int32) x15.2.2.2.2.2 m_askLeft tb_seats tb_slack tb_saw tb_quarrel tb_people tb_pairs tb_forks tb_unsures tb_trieds tb_fed tb_seat tb_one tb_other tb_years tb_kind tb_unsure tb_may tb_tried tb_name)) C G fX12_451 (wM_at0) rfl rfl (Nat.le_of_ble_eq_true rfl) wM_set_m_everyNow dX12_fitting_175 (fun H locs G => ?_)
        refine lv_iload_n hx hb dX12_fitting_178 rfl (lv_at hl 1 rfl) ?_
        obtain rfl := Option.some.inj hf
        exact xI_ret C G rfl dX12_fitting_179
    exact w_M_fitting_m_M_L49 C Jx15 fu _ _ _ _ _ _ _ _ _ _ G (lv_sub hl [1, 2, 3, 0] rfl) hr
  exact w_M_fitting_m_M_L29 C Jx3 fu _ _ _ _ _ G (lv_sub hl [2, 3, 1, 0] rfl) hr
set_option maxHeartbeats 4000000 in
set_option maxRecDepth 100000 in
theorem c_M_fits_m_M {l : Launch} {E : xE} {ad : Nat → Nat} {m_thrown m_trouble m_where m_taped m_size m_spot m_sort m_place m_number m_fault m_wrongAt m_acts m_images m_matchNow m_slopsNow m_matchesNow m_fedBest m_slopsBest m_sawBest m_leastNow m_stableNow m_fitsNow m_someNow m_everyNow m_askLeft tb_seats tb_slack tb_saw tb_quarrel tb_people tb_pairs tb_forks tb_unsures tb_trieds tb_fed : Int32} {m_rv : Value} {m_tape m_v m_x m_past m_kept m_slopped m_seatBest m_otherIn tb_seat tb_one tb_other tb_years tb_kind tb_unsure tb_may tb_tried : Nat → Int32} {m_word : Int64} {tb_name : Nat → Int64} {R0 : Int32 × Int32 × Int32 × Int32 × (Nat → Int32) × Int32 × Int32 × Int32 × (Nat → Int32)} (hf : f_M_fits m_x m_otherIn tb_slack tb_pairs tb_forks tb_unsures tb_trieds tb_fed tb_seat tb_one tb_other tb_years tb_kind tb_unsure tb_may tb_tried = some R0) : xI l E yX12_fits cX12_fits 1 (some .int) 6 133 [.ref (ad 0)] (wM E ad m_thrown m_trouble m_where m_rv m_tape m_taped m_size m_spot m_sort m_place m_number m_fault m_wrongAt m_word m_v m_x m_past m_kept m_acts m_images m_matchNow m_slopsNow m_matchesNow m_slopped m_seatBest m_fedBest m_slopsBest m_sawBest m_leastNow m_stableNow m_fitsNow m_someNow m_everyNow m_otherIn m_askLeft tb_seats tb_slack tb_saw tb_quarrel tb_people tb_pairs tb_forks tb_unsures tb_trieds tb_fed tb_seat tb_one tb_other tb_years tb_kind tb_unsure tb_may tb_tried tb_name) (wM E ad R0.2.1 R0.2.2.1 R0.2.2.2.1 m_rv m_tape m_taped m_size m_spot m_sort m_place m_number m_fault m_wrongAt m_word m_v R0.2.2.2.2.1 m_past m_kept m_acts m_images m_matchNow m_slopsNow m_matchesNow m_slopped m_seatBest m_fedBest m_slopsBest m_sawBest m_leastNow m_stableNow R0.2.2.2.2.2.1 R0.2.2.2.2.2.2.1 R0.2.2.2.2.2.2.2.1 R0.2.2.2.2.2.2.2.2 m_askLeft tb_seats tb_slack tb_saw tb_quarrel tb_people tb_pairs tb_forks tb_unsures tb_trieds tb_fed tb_seat tb_one tb_other tb_years tb_kind tb_unsure tb_may tb_tried tb_name) R0.1 := by
  refine xI_of (by decide) (Nat.le_of_ble_eq_true rfl) (fun p e s m args below meth c A C ls hl G => ?_)
  have hx := C.1
  have hb := C.2.1
  have hl : lv_has ls 1 [(0, .ref (ad 0))] := hl
  unfold f_M_fits at hf
  refine lv_aload_n hx hb dX12_fits_0 rfl (lv_at hl 0 rfl) ?_
  refine lv_iconst (v := 0) hx hb dX12_fits_1 (by decide) ?_
  refine x_put (ws' := (wM E ad (0 : Int32) m_trouble m_where m_rv m_tape m_taped m_size m_spot m_sort m_place m_number m_fault m_wrongAt m_word m_v m_x m_past m_kept m_acts m_images m_matchNow m_slopsNow m_matchesNow m_slopped m_seatBest m_fedBest m_slopsBest m_sawBest m_leastNow m_stableNow m_fitsNow m_someNow m_everyNow m_otherIn m_askLeft tb_seats tb_slack tb_saw tb_quarrel tb_people tb_pairs tb_forks tb_unsures tb_trieds tb_fed tb_seat tb_one tb_other tb_years tb_kind tb_unsure tb_may tb_tried tb_name)) C G fX12_39 (wM_at0) rfl rfl (Nat.le_of_ble_eq_true rfl) wM_set_m_thrown dX12_fits_2 (fun H locs G => ?_)
  refine lv_aload_n hx hb dX12_fits_5 rfl (lv_at hl 0 rfl) ?_
  refine x_get C G fX12_298.g (wM_at0) rfl dX12_fits_6 ?_
  refine lv_ifnonnull (tgt := 18) hx hb dX12_fits_9 (by decide) ?_
  refine lv_aload_n hx hb dX12_fits_18 rfl (lv_at hl 0 rfl) ?_
  refine lv_iconst (v := -1) hx hb dX12_fits_19 (by decide) ?_
  obtain ⟨x1, hc, hf⟩ := bd_go hf
  refine xI_V C G (c_M_fitting_m_M hc) mX12_fitting kX12_457 (wM_at0) rfl ⟨Nat.le_of_ble_eq_true rfl, Nat.le_of_ble_eq_true rfl⟩ rfl hl.1 rfl (Nat.le_of_ble_eq_true rfl) ⟨Nat.le_refl _, Nat.le_refl _⟩ dX12_fits_20 (fun hz H locs G => ?_)
  refine lv_pop hx hb dX12_fits_23 rfl ?_
  refine lv_aload_n hx hb dX12_fits_24 rfl (lv_at hl 0 rfl) ?_
  refine lv_aload_n hx hb dX12_fits_25 rfl (lv_at hl 0 rfl) ?_
  refine x_get C G fX12_445.g (wM_at0) rfl dX12_fits_26 ?_
  obtain ⟨x2, hc, hf⟩ := bd_go hf
  refine xI_V C G (c_M_good_m_M hc) mX12_good kX12_49 (wM_at0) rfl ⟨Nat.le_of_ble_eq_true rfl, Nat.le_of_ble_eq_true rfl⟩ rfl hl.1 rfl (Nat.le_of_ble_eq_true rfl) ⟨Nat.le_refl _, Nat.le_refl _⟩ dX12_fits_29 (fun hz H locs G => ?_)
  obtain rfl := Option.some.inj hf
  exact xI_ret C G rfl dX12_fits_32
set_option maxHeartbeats 4000000 in
set_option maxRecDepth 100000 in
theorem c_M_fitAt_m_M {l : Launch} {E : xE} {ad : Nat → Nat} {m_thrown m_trouble m_where m_taped m_size m_spot m_sort m_place m_number m_fault m_wrongAt m_acts m_images m_matchNow m_slopsNow m_matchesNow m_fedBest m_slopsBest m_sawBest m_leastNow m_stableNow m_fitsNow m_someNow m_everyNow m_askLeft tb_seats tb_slack tb_saw tb_quarrel tb_people tb_pairs tb_forks tb_unsures tb_trieds tb_fed : Int32} {m_rv : Value} {m_tape m_v m_x m_past m_kept m_slopped m_seatBest m_otherIn tb_seat tb_one tb_other tb_years tb_kind tb_unsure tb_may tb_tried : Nat → Int32} {m_word : Int64} {tb_name : Nat → Int64} {l1 : Int32} {R0 : Int32 × Int32 × Int32 × Int32 × (Nat → Int32) × Int32 × Int32 × Int32 × (Nat → Int32)} (hf : f_M_fitAt l1 m_x m_fitsNow m_someNow m_everyNow m_otherIn tb_slack tb_pairs tb_forks tb_unsures tb_trieds tb_fed tb_seat tb_one tb_other tb_years tb_kind tb_unsure tb_may tb_tried = some R0) : xI l E yX12_fitAt cX12_fitAt 3 (some .int) 6 133 [.ref (ad 0), .int l1] (wM E ad m_thrown m_trouble m_where m_rv m_tape m_taped m_size m_spot m_sort m_place m_number m_fault m_wrongAt m_word m_v m_x m_past m_kept m_acts m_images m_matchNow m_slopsNow m_matchesNow m_slopped m_seatBest m_fedBest m_slopsBest m_sawBest m_leastNow m_stableNow m_fitsNow m_someNow m_everyNow m_otherIn m_askLeft tb_seats tb_slack tb_saw tb_quarrel tb_people tb_pairs tb_forks tb_unsures tb_trieds tb_fed tb_seat tb_one tb_other tb_years tb_kind tb_unsure tb_may tb_tried tb_name) (wM E ad R0.2.1 R0.2.2.1 R0.2.2.2.1 m_rv m_tape m_taped m_size m_spot m_sort m_place m_number m_fault m_wrongAt m_word m_v R0.2.2.2.2.1 m_past m_kept m_acts m_images m_matchNow m_slopsNow m_matchesNow m_slopped m_seatBest m_fedBest m_slopsBest m_sawBest m_leastNow m_stableNow R0.2.2.2.2.2.1 R0.2.2.2.2.2.2.1 R0.2.2.2.2.2.2.2.1 R0.2.2.2.2.2.2.2.2 m_askLeft tb_seats tb_slack tb_saw tb_quarrel tb_people tb_pairs tb_forks tb_unsures tb_trieds tb_fed tb_seat tb_one tb_other tb_years tb_kind tb_unsure tb_may tb_tried tb_name) R0.1 := by
  refine xI_of (by decide) (Nat.le_of_ble_eq_true rfl) (fun p e s m args below meth c A C ls hl G => ?_)
  have hx := C.1
  have hb := C.2.1
  have hl : lv_has ls 3 [(0, .ref (ad 0)), (1, .int l1)] := hl
  unfold f_M_fitAt at hf
  refine lv_aload_n hx hb dX12_fitAt_0 rfl (lv_at hl 0 rfl) ?_
  refine lv_iconst (v := 0) hx hb dX12_fitAt_1 (by decide) ?_
  refine x_put (ws' := (wM E ad (0 : Int32) m_trouble m_where m_rv m_tape m_taped m_size m_spot m_sort m_place m_number m_fault m_wrongAt m_word m_v m_x m_past m_kept m_acts m_images m_matchNow m_slopsNow m_matchesNow m_slopped m_seatBest m_fedBest m_slopsBest m_sawBest m_leastNow m_stableNow m_fitsNow m_someNow m_everyNow m_otherIn m_askLeft tb_seats tb_slack tb_saw tb_quarrel tb_people tb_pairs tb_forks tb_unsures tb_trieds tb_fed tb_seat tb_one tb_other tb_years tb_kind tb_unsure tb_may tb_tried tb_name)) C G fX12_39 (wM_at0) rfl rfl (Nat.le_of_ble_eq_true rfl) wM_set_m_thrown dX12_fitAt_2 (fun H locs G => ?_)
  refine lv_aload_n hx hb dX12_fitAt_5 rfl (lv_at hl 0 rfl) ?_
  refine x_get C G fX12_298.g (wM_at0) rfl dX12_fitAt_6 ?_
  refine lv_ifnull hx hb dX12_fitAt_9 ?_
  refine lv_iload_n hx hb dX12_fitAt_12 rfl (lv_at hl 1 rfl) ?_
  refine lv_if_ge (tgt := 22) hx hb dX12_fitAt_13 (by decide) (fun h => ?_) (fun h => ?_)
  · have hf := it_t h hf
    refine lv_aload_n hx hb dX12_fitAt_22 rfl (lv_at hl 0 rfl) ?_
    refine lv_iload_n hx hb dX12_fitAt_23 rfl (lv_at hl 1 rfl) ?_
    obtain ⟨x1, hc, hf⟩ := bd_go hf
    refine xI_V C G (c_M_fitting_m_M hc) mX12_fitting kX12_457 (wM_at0) rfl ⟨Nat.le_of_ble_eq_true rfl, Nat.le_of_ble_eq_true rfl⟩ rfl hl.1 rfl (Nat.le_of_ble_eq_true rfl) ⟨Nat.le_refl _, Nat.le_refl _⟩ dX12_fitAt_24 (fun hz H locs G => ?_)
    refine lv_istore_n (lv' := [(2, .int x1.1), (0, .ref (ad 0)), (1, .int l1)]) hx hb dX12_fitAt_27 rfl hl (by decide) rfl (fun ls hl => ?_)
    refine lv_iload_n hx hb dX12_fitAt_28 rfl (lv_at hl 0 rfl) ?_
    refine lv_iconst (v := -1) hx hb dX12_fitAt_29 (by decide) ?_
    refine lv_icmp_ne (tgt := 41) hx hb dX12_fitAt_30 (by decide) (fun h => ?_) (fun h => ?_)
    · have hf := it_f h hf
      refine lv_aload_n hx hb dX12_fitAt_41 rfl (lv_at hl 1 rfl) ?_
      refine lv_iload_n hx hb dX12_fitAt_42 rfl (lv_at hl 0 rfl) ?_
      obtain ⟨x2, hc, hf⟩ := bd_go hf
      refine xI_V C G (c_M_good_m_M hc) mX12_good kX12_49 (wM_at0) rfl ⟨Nat.le_of_ble_eq_true rfl, Nat.le_of_ble_eq_true rfl⟩ rfl hl.1 rfl (Nat.le_of_ble_eq_true rfl) ⟨Nat.le_refl _, Nat.le_refl _⟩ dX12_fitAt_43 (fun hz H locs G => ?_)
      obtain rfl := Option.some.inj hf
      exact xI_ret C G rfl dX12_fitAt_46
    · have hf := it_t h hf
      refine lv_aload_n hx hb dX12_fitAt_33 rfl (lv_at hl 1 rfl) ?_
      refine lv_iconst (v := 1) hx hb dX12_fitAt_34 (by decide) ?_
      obtain ⟨x3, hc, hf⟩ := bd_go hf
      refine xI_V C G (c_M_refused_m_M hc) mX12_refused kX12_45 (wM_at0) rfl ⟨Nat.le_of_ble_eq_true rfl, Nat.le_of_ble_eq_true rfl⟩ rfl hl.1 rfl (Nat.le_of_ble_eq_true rfl) ⟨Nat.le_refl _, Nat.le_refl _⟩ dX12_fitAt_35 (fun hz H locs G => ?_)
      refine lv_goto (tgt := 46) hx hb dX12_fitAt_38 (by decide) ?_
      obtain rfl := Option.some.inj hf
      exact xI_ret C G rfl dX12_fitAt_46
  · have hf := it_f h hf
    refine lv_aload_n hx hb dX12_fitAt_16 rfl (lv_at hl 0 rfl) ?_
    refine lv_iconst (v := 1) hx hb dX12_fitAt_17 (by decide) ?_
    obtain ⟨x4, hc, hf⟩ := bd_go hf
    refine xI_V C G (c_M_refused_m_M hc) mX12_refused kX12_45 (wM_at0) rfl ⟨Nat.le_of_ble_eq_true rfl, Nat.le_of_ble_eq_true rfl⟩ rfl hl.1 rfl (Nat.le_of_ble_eq_true rfl) ⟨Nat.le_refl _, Nat.le_refl _⟩ dX12_fitAt_18 (fun hz H locs G => ?_)
    obtain rfl := Option.some.inj hf
    exact xI_ret C G rfl dX12_fitAt_21
set_option maxHeartbeats 4000000 in
set_option maxRecDepth 100000 in
theorem c_M_could_m_M {l : Launch} {E : xE} {ad : Nat → Nat} {m_thrown m_trouble m_where m_taped m_size m_spot m_sort m_place m_number m_fault m_wrongAt m_acts m_images m_matchNow m_slopsNow m_matchesNow m_fedBest m_slopsBest m_sawBest m_leastNow m_stableNow m_fitsNow m_someNow m_everyNow m_askLeft tb_seats tb_slack tb_saw tb_quarrel tb_people tb_pairs tb_forks tb_unsures tb_trieds tb_fed : Int32} {m_rv : Value} {m_tape m_v m_x m_past m_kept m_slopped m_seatBest m_otherIn tb_seat tb_one tb_other tb_years tb_kind tb_unsure tb_may tb_tried : Nat → Int32} {m_word : Int64} {tb_name : Nat → Int64} {R0 : Int32 × Int32 × Int32 × Int32 × (Nat → Int32) × Int32 × Int32 × Int32 × (Nat → Int32)} (hf : f_M_could m_x m_otherIn tb_slack tb_pairs tb_forks tb_unsures tb_trieds tb_fed tb_seat tb_one tb_other tb_years tb_kind tb_unsure tb_may tb_tried = some R0) : xI l E yX12_could cX12_could 1 (some .int) 6 133 [.ref (ad 0)] (wM E ad m_thrown m_trouble m_where m_rv m_tape m_taped m_size m_spot m_sort m_place m_number m_fault m_wrongAt m_word m_v m_x m_past m_kept m_acts m_images m_matchNow m_slopsNow m_matchesNow m_slopped m_seatBest m_fedBest m_slopsBest m_sawBest m_leastNow m_stableNow m_fitsNow m_someNow m_everyNow m_otherIn m_askLeft tb_seats tb_slack tb_saw tb_quarrel tb_people tb_pairs tb_forks tb_unsures tb_trieds tb_fed tb_seat tb_one tb_other tb_years tb_kind tb_unsure tb_may tb_tried tb_name) (wM E ad R0.2.1 R0.2.2.1 R0.2.2.2.1 m_rv m_tape m_taped m_size m_spot m_sort m_place m_number m_fault m_wrongAt m_word m_v R0.2.2.2.2.1 m_past m_kept m_acts m_images m_matchNow m_slopsNow m_matchesNow m_slopped m_seatBest m_fedBest m_slopsBest m_sawBest m_leastNow m_stableNow R0.2.2.2.2.2.1 R0.2.2.2.2.2.2.1 R0.2.2.2.2.2.2.2.1 R0.2.2.2.2.2.2.2.2 m_askLeft tb_seats tb_slack tb_saw tb_quarrel tb_people tb_pairs tb_forks tb_unsures tb_trieds tb_fed tb_seat tb_one tb_other tb_years tb_kind tb_unsure tb_may tb_tried tb_name) R0.1 := by
  refine xI_of (by decide) (Nat.le_of_ble_eq_true rfl) (fun p e s m args below meth c A C ls hl G => ?_)
  have hx := C.1
  have hb := C.2.1
  have hl : lv_has ls 1 [(0, .ref (ad 0))] := hl
  unfold f_M_could at hf
  refine lv_aload_n hx hb dX12_could_0 rfl (lv_at hl 0 rfl) ?_
  refine lv_iconst (v := 0) hx hb dX12_could_1 (by decide) ?_
  refine x_put (ws' := (wM E ad (0 : Int32) m_trouble m_where m_rv m_tape m_taped m_size m_spot m_sort m_place m_number m_fault m_wrongAt m_word m_v m_x m_past m_kept m_acts m_images m_matchNow m_slopsNow m_matchesNow m_slopped m_seatBest m_fedBest m_slopsBest m_sawBest m_leastNow m_stableNow m_fitsNow m_someNow m_everyNow m_otherIn m_askLeft tb_seats tb_slack tb_saw tb_quarrel tb_people tb_pairs tb_forks tb_unsures tb_trieds tb_fed tb_seat tb_one tb_other tb_years tb_kind tb_unsure tb_may tb_tried tb_name)) C G fX12_39 (wM_at0) rfl rfl (Nat.le_of_ble_eq_true rfl) wM_set_m_thrown dX12_could_2 (fun H locs G => ?_)
  refine lv_aload_n hx hb dX12_could_5 rfl (lv_at hl 0 rfl) ?_
  refine x_get C G fX12_298.g (wM_at0) rfl dX12_could_6 ?_
  refine lv_ifnonnull (tgt := 18) hx hb dX12_could_9 (by decide) ?_
  refine lv_aload_n hx hb dX12_could_18 rfl (lv_at hl 0 rfl) ?_
  refine lv_iconst (v := -1) hx hb dX12_could_19 (by decide) ?_
  obtain ⟨x1, hc, hf⟩ := bd_go hf
  refine xI_V C G (c_M_fitting_m_M hc) mX12_fitting kX12_457 (wM_at0) rfl ⟨Nat.le_of_ble_eq_true rfl, Nat.le_of_ble_eq_true rfl⟩ rfl hl.1 rfl (Nat.le_of_ble_eq_true rfl) ⟨Nat.le_refl _, Nat.le_refl _⟩ dX12_could_20 (fun hz H locs G => ?_)
  refine lv_pop hx hb dX12_could_23 rfl ?_
  refine lv_aload_n hx hb dX12_could_24 rfl (lv_at hl 0 rfl) ?_
  refine lv_aload_n hx hb dX12_could_25 rfl (lv_at hl 0 rfl) ?_
  refine x_get C G fX12_448.g (wM_at0) rfl dX12_could_26 ?_
  obtain ⟨x2, hc, hf⟩ := bd_go hf
  refine xI_V C G (c_M_good_m_M hc) mX12_good kX12_49 (wM_at0) rfl ⟨Nat.le_of_ble_eq_true rfl, Nat.le_of_ble_eq_true rfl⟩ rfl hl.1 rfl (Nat.le_of_ble_eq_true rfl) ⟨Nat.le_refl _, Nat.le_refl _⟩ dX12_could_29 (fun hz H locs G => ?_)
  obtain rfl := Option.some.inj hf
  exact xI_ret C G rfl dX12_could_32
