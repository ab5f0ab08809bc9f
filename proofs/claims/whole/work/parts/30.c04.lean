set_option maxHeartbeats 4000000 in
set_option maxRecDepth 100000 in
theorem c_M_isWord_m_years_R {l : Launch} {E : xE} {ad : Nat → Nat} {m_thrown m_trouble m_where m_taped m_size m_spot m_sort m_place m_number m_fault m_wrongAt m_acts m_images m_matchNow m_slopsNow m_matchesNow m_fedBest m_slopsBest m_sawBest m_leastNow m_stableNow m_fitsNow m_someNow m_everyNow m_askLeft rt_seats rt_slack rt_saw rt_quarrel rt_people rt_pairs rt_forks rt_unsures rt_trieds rt_fed : Int32} {m_tv : Value} {m_tape m_v m_x m_past m_kept m_slopped m_seatBest m_otherIn rt_seat rt_one rt_other rt_years rt_kind rt_unsure rt_may rt_tried : Nat → Int32} {m_word : Int64} {rt_name : Nat → Int64} {R0 : Int32} (hf : f_M_isWord (26379859 : Int64) m_sort m_word = some R0) : xI l E yX12_isWord cX12_isWord 2 (some .boolean) 6 143 [.ref (ad 0), .ref (E.2.2.1 11)] (wR E ad m_thrown m_trouble m_where m_tv m_tape m_taped m_size m_spot m_sort m_place m_number m_fault m_wrongAt m_word m_v m_x m_past m_kept m_acts m_images m_matchNow m_slopsNow m_matchesNow m_slopped m_seatBest m_fedBest m_slopsBest m_sawBest m_leastNow m_stableNow m_fitsNow m_someNow m_everyNow m_otherIn m_askLeft rt_seats rt_slack rt_saw rt_quarrel rt_people rt_pairs rt_forks rt_unsures rt_trieds rt_fed rt_seat rt_one rt_other rt_years rt_kind rt_unsure rt_may rt_tried rt_name) (wR E ad m_thrown m_trouble m_where m_tv m_tape m_taped m_size m_spot m_sort m_place m_number m_fault m_wrongAt m_word m_v m_x m_past m_kept m_acts m_images m_matchNow m_slopsNow m_matchesNow m_slopped m_seatBest m_fedBest m_slopsBest m_sawBest m_leastNow m_stableNow m_fitsNow m_someNow m_everyNow m_otherIn m_askLeft rt_seats rt_slack rt_saw rt_quarrel rt_people rt_pairs rt_forks rt_unsures rt_trieds rt_fed rt_seat rt_one rt_other rt_years rt_kind rt_unsure rt_may rt_tried rt_name) R0 := by
  refine xI_of (by decide) (Nat.le_of_ble_eq_true rfl) (fun p e s m args below meth c A C ls hl G => ?_)
  have hx := C.1
  have hb := C.2.1
  have hl : lv_has ls 2 [(0, .ref (ad 0)), (1, .ref (E.2.2.1 11))] := hl
  unfold f_M_isWord at hf
  refine lv_aload_n hx hb dX12_isWord_0 rfl (lv_at hl 0 rfl) ?_
  refine x_get C G fX12_71.g (wR_at0) rfl dX12_isWord_1 ?_
  refine lv_iconst (v := 2) hx hb dX12_isWord_4 (by decide) ?_
  obtain ⟨b1, hr, hf⟩ := bd_go hf
  cases b1 with
  | true =>
    have hf := it_t rfl hf
    have J : ∀ (H : Heap) (locs : List Loc), xG s E A (wR E ad m_thrown m_trouble m_where m_tv m_tape m_taped m_size m_spot m_sort m_place m_number m_fault m_wrongAt m_word m_v m_x m_past m_kept m_acts m_images m_matchNow m_slopsNow m_matchesNow m_slopped m_seatBest m_fedBest m_slopsBest m_sawBest m_leastNow m_stableNow m_fitsNow m_someNow m_everyNow m_otherIn m_askLeft rt_seats rt_slack rt_saw rt_quarrel rt_people rt_pairs rt_forks rt_unsures rt_trieds rt_fed rt_seat rt_one rt_other rt_years rt_kind rt_unsure rt_may rt_tried rt_name) H locs → W p l e (xR 6 143) s m args below meth c H locs 0 0 (MQ below (xqI E A (wR E ad m_thrown m_trouble m_where m_tv m_tape m_taped m_size m_spot m_sort m_place m_number m_fault m_wrongAt m_word m_v m_x m_past m_kept m_acts m_images m_matchNow m_slopsNow m_matchesNow m_slopped m_seatBest m_fedBest m_slopsBest m_sawBest m_leastNow m_stableNow m_fitsNow m_someNow m_everyNow m_otherIn m_askLeft rt_seats rt_slack rt_saw rt_quarrel rt_people rt_pairs rt_forks rt_unsures rt_trieds rt_fed rt_seat rt_one rt_other rt_years rt_kind rt_unsure rt_may rt_tried rt_name) (some .boolean) R0) args s 0 0 A) (F0 m 24 ls []) := by
      intro H locs G
      refine lv_iconst (v := 0) hx hb dX12_isWord_24 (by decide) ?_
      obtain rfl := Option.some.inj hf
      exact xI_ret (r := (0 : Int32)) C G rfl dX12_isWord_25
    have hf := hr
    clear hr
    refine lv_icmp_ne (tgt := 24) hx hb dX12_isWord_5 (by decide) (fun h => ?_) (fun h => ?_)
    · have hf := it_f h hf
      exact J _ _ G
    · have hf := it_t h hf
      refine lv_aload_n hx hb dX12_isWord_8 rfl (lv_at hl 0 rfl) ?_
      refine x_get C G fX12_87.g (wR_at0) rfl dX12_isWord_9 ?_
      refine lv_aload_n hx hb dX12_isWord_12 rfl (lv_at hl 1 rfl) ?_
      refine xL_S C G (c_M_packed 11 (by decide) (26379859 : Int64) (by decide +kernel)) mX12_packed kX12_103 ⟨Nat.le_of_ble_eq_true rfl, Nat.le_of_ble_eq_true rfl⟩ rfl hl.1 rfl (Nat.le_of_ble_eq_true rfl) ⟨Nat.le_refl _, Nat.le_refl _⟩ dX12_isWord_13 (fun H locs G => ?_)
      refine W.lcmp hx hb dX12_isWord_16 ?_
      refine lv_if_ne (tgt := 24) hx hb dX12_isWord_17 (by decide) (fun h => ?_) (fun h => ?_)
      · have hf := it_f h hf
        exact J _ _ G
      · have hf := it_t h hf
        exact absurd (Option.some.inj hf) (by decide)
  | false =>
    have hf := it_f (by decide) hf
    have J : ∀ (H : Heap) (locs : List Loc), xG s E A (wR E ad m_thrown m_trouble m_where m_tv m_tape m_taped m_size m_spot m_sort m_place m_number m_fault m_wrongAt m_word m_v m_x m_past m_kept m_acts m_images m_matchNow m_slopsNow m_matchesNow m_slopped m_seatBest m_fedBest m_slopsBest m_sawBest m_leastNow m_stableNow m_fitsNow m_someNow m_everyNow m_otherIn m_askLeft rt_seats rt_slack rt_saw rt_quarrel rt_people rt_pairs rt_forks rt_unsures rt_trieds rt_fed rt_seat rt_one rt_other rt_years rt_kind rt_unsure rt_may rt_tried rt_name) H locs → W p l e (xR 6 143) s m args below meth c H locs 0 0 (MQ below (xqI E A (wR E ad m_thrown m_trouble m_where m_tv m_tape m_taped m_size m_spot m_sort m_place m_number m_fault m_wrongAt m_word m_v m_x m_past m_kept m_acts m_images m_matchNow m_slopsNow m_matchesNow m_slopped m_seatBest m_fedBest m_slopsBest m_sawBest m_leastNow m_stableNow m_fitsNow m_someNow m_everyNow m_otherIn m_askLeft rt_seats rt_slack rt_saw rt_quarrel rt_people rt_pairs rt_forks rt_unsures rt_trieds rt_fed rt_seat rt_one rt_other rt_years rt_kind rt_unsure rt_may rt_tried rt_name) (some .boolean) R0) args s 0 0 A) (F0 m 20 ls []) := by
      intro H locs G
      refine lv_iconst (v := 1) hx hb dX12_isWord_20 (by decide) ?_
      refine lv_goto (tgt := 25) hx hb dX12_isWord_21 (by decide) ?_
      obtain rfl := Option.some.inj hf
      exact xI_ret (r := (1 : Int32)) C G rfl dX12_isWord_25
    have hf := hr
    clear hr
    refine lv_icmp_ne (tgt := 24) hx hb dX12_isWord_5 (by decide) (fun h => ?_) (fun h => ?_)
    · have hf := it_f h hf
      exact absurd (Option.some.inj hf) (by decide)
    · have hf := it_t h hf
      refine lv_aload_n hx hb dX12_isWord_8 rfl (lv_at hl 0 rfl) ?_
      refine x_get C G fX12_87.g (wR_at0) rfl dX12_isWord_9 ?_
      refine lv_aload_n hx hb dX12_isWord_12 rfl (lv_at hl 1 rfl) ?_
      refine xL_S C G (c_M_packed 11 (by decide) (26379859 : Int64) (by decide +kernel)) mX12_packed kX12_103 ⟨Nat.le_of_ble_eq_true rfl, Nat.le_of_ble_eq_true rfl⟩ rfl hl.1 rfl (Nat.le_of_ble_eq_true rfl) ⟨Nat.le_refl _, Nat.le_refl _⟩ dX12_isWord_13 (fun H locs G => ?_)
      refine W.lcmp hx hb dX12_isWord_16 ?_
      refine lv_if_ne (tgt := 24) hx hb dX12_isWord_17 (by decide) (fun h => ?_) (fun h => ?_)
      · have hf := it_f h hf
        exact absurd (Option.some.inj hf) (by decide)
      · have hf := it_t h hf
        exact J _ _ G
set_option maxHeartbeats 4000000 in
set_option maxRecDepth 100000 in
theorem c_M_needs_m_years_R {l : Launch} {E : xE} {ad : Nat → Nat} {m_thrown m_trouble m_where m_taped m_size m_spot m_sort m_place m_number m_fault m_wrongAt m_acts m_images m_matchNow m_slopsNow m_matchesNow m_fedBest m_slopsBest m_sawBest m_leastNow m_stableNow m_fitsNow m_someNow m_everyNow m_askLeft rt_seats rt_slack rt_saw rt_quarrel rt_people rt_pairs rt_forks rt_unsures rt_trieds rt_fed : Int32} {m_tv : Value} {m_tape m_v m_x m_past m_kept m_slopped m_seatBest m_otherIn rt_seat rt_one rt_other rt_years rt_kind rt_unsure rt_may rt_tried : Nat → Int32} {m_word : Int64} {rt_name : Nat → Int64} {R0 : Int32 × Int32 × Int32 × Int32 × Int32 × Int32 × Int64} (hf : f_M_needs (26379859 : Int64) m_tape m_size m_spot m_sort m_place m_number m_fault m_wrongAt m_word = some R0) : xV l E yX12_needs cX12_needs 2 none 7 164 [.ref (ad 0), .ref (E.2.2.1 11)] (wR E ad m_thrown m_trouble m_where m_tv m_tape m_taped m_size m_spot m_sort m_place m_number m_fault m_wrongAt m_word m_v m_x m_past m_kept m_acts m_images m_matchNow m_slopsNow m_matchesNow m_slopped m_seatBest m_fedBest m_slopsBest m_sawBest m_leastNow m_stableNow m_fitsNow m_someNow m_everyNow m_otherIn m_askLeft rt_seats rt_slack rt_saw rt_quarrel rt_people rt_pairs rt_forks rt_unsures rt_trieds rt_fed rt_seat rt_one rt_other rt_years rt_kind rt_unsure rt_may rt_tried rt_name) (wR E ad m_thrown m_trouble m_where m_tv m_tape m_taped m_size R0.1 R0.2.1 R0.2.2.1 R0.2.2.2.1 R0.2.2.2.2.1 R0.2.2.2.2.2.1 R0.2.2.2.2.2.2 m_v m_x m_past m_kept m_acts m_images m_matchNow m_slopsNow m_matchesNow m_slopped m_seatBest m_fedBest m_slopsBest m_sawBest m_leastNow m_stableNow m_fitsNow m_someNow m_everyNow m_otherIn m_askLeft rt_seats rt_slack rt_saw rt_quarrel rt_people rt_pairs rt_forks rt_unsures rt_trieds rt_fed rt_seat rt_one rt_other rt_years rt_kind rt_unsure rt_may rt_tried rt_name) := by
  refine xV_of (by decide) (Nat.le_of_ble_eq_true rfl) (fun p e s m args below meth c A C ls hl G => ?_)
  have hx := C.1
  have hb := C.2.1
  have hl : lv_has ls 2 [(0, .ref (ad 0)), (1, .ref (E.2.2.1 11))] := hl
  unfold f_M_needs at hf
  refine lv_aload_n hx hb dX12_needs_0 rfl (lv_at hl 0 rfl) ?_
  refine lv_aload_n hx hb dX12_needs_1 rfl (lv_at hl 1 rfl) ?_
  obtain ⟨x1, hc, hf⟩ := bd_go hf
  refine xI_V C G (c_M_isWord_m_years_R hc) mX12_isWord kX12_110 (wR_at0) rfl ⟨Nat.le_of_ble_eq_true rfl, Nat.le_of_ble_eq_true rfl⟩ rfl hl.1 rfl (Nat.le_of_ble_eq_true rfl) ⟨Nat.le_refl _, Nat.le_refl _⟩ dX12_needs_2 (fun hz1 H locs G => ?_)
  obtain ⟨x2, hrx2, hf⟩ := bd_go hf
  have Jx2 : ∀ (H : Heap) (locs : List Loc) (ls : Array Slot), xG s E A (wR E ad m_thrown m_trouble m_where m_tv m_tape m_taped m_size m_spot x2.1 m_place m_number x2.2.1 x2.2.2 m_word m_v m_x m_past m_kept m_acts m_images m_matchNow m_slopsNow m_matchesNow m_slopped m_seatBest m_fedBest m_slopsBest m_sawBest m_leastNow m_stableNow m_fitsNow m_someNow m_everyNow m_otherIn m_askLeft rt_seats rt_slack rt_saw rt_quarrel rt_people rt_pairs rt_forks rt_unsures rt_trieds rt_fed rt_seat rt_one rt_other rt_years rt_kind rt_unsure rt_may rt_tried rt_name) H locs → lv_has ls 2 [(0, .ref (ad 0))] → W p l e (xR 7 164) s m args below meth c H locs 0 0 (MQ below (xqV E A (wR E ad m_thrown m_trouble m_where m_tv m_tape m_taped m_size R0.1 R0.2.1 R0.2.2.1 R0.2.2.2.1 R0.2.2.2.2.1 R0.2.2.2.2.2.1 R0.2.2.2.2.2.2 m_v m_x m_past m_kept m_acts m_images m_matchNow m_slopsNow m_matchesNow m_slopped m_seatBest m_fedBest m_slopsBest m_sawBest m_leastNow m_stableNow m_fitsNow m_someNow m_everyNow m_otherIn m_askLeft rt_seats rt_slack rt_saw rt_quarrel rt_people rt_pairs rt_forks rt_unsures rt_trieds rt_fed rt_seat rt_one rt_other rt_years rt_kind rt_unsure rt_may rt_tried rt_name)) args s 0 0 A) (F0 m 13 ls []) := by
    intro H locs ls G hl
    refine lv_aload_n hx hb dX12_needs_13 rfl (lv_at hl 0 rfl) ?_
    obtain ⟨x3, hc, hf⟩ := bd_go hf
    refine xV_V C G (c_M_goesOn_m_R hc) mX12_goesOn kX12_107 (wR_at0) rfl ⟨Nat.le_of_ble_eq_true rfl, Nat.le_of_ble_eq_true rfl⟩ rfl hl.1 rfl (Nat.le_of_ble_eq_true rfl) ⟨Nat.le_refl _, Nat.le_refl _⟩ dX12_needs_14 (fun H locs G => ?_)
    obtain rfl := Option.some.inj hf
    exact xV_ret C G dX12_needs_17
  have hf := hrx2
  refine lv_if_ne (tgt := 13) hx hb dX12_needs_5 (by decide) (fun h => ?_) (fun h => ?_)
  · have hf := it_f h hf
    obtain rfl := Option.some.inj hf
    exact Jx2 _ _ _ G (lv_sub hl [0] rfl)
  · have hf := it_t h hf
    refine lv_aload_n hx hb dX12_needs_8 rfl (lv_at hl 0 rfl) ?_
    refine lv_iconst (v := 1) hx hb dX12_needs_9 (by decide) ?_
    obtain ⟨x4, hc, hf⟩ := bd_go hf
    refine xV_V C G (c_M_flaw_m_R hc) mX12_flaw kX12_114 (wR_at0) rfl ⟨Nat.le_of_ble_eq_true rfl, Nat.le_of_ble_eq_true rfl⟩ rfl hl.1 rfl (Nat.le_of_ble_eq_true rfl) ⟨Nat.le_refl _, Nat.le_refl _⟩ dX12_needs_10 (fun H locs G => ?_)
    obtain rfl := Option.some.inj hf
    exact Jx2 _ _ _ G (lv_sub hl [0] rfl)
set_option maxHeartbeats 4000000 in
set_option maxRecDepth 100000 in
theorem c_M_readPart_m_years_R {l : Launch} {E : xE} {ad : Nat → Nat} {m_thrown m_trouble m_where m_taped m_size m_spot m_sort m_place m_number m_fault m_wrongAt m_acts m_images m_matchNow m_slopsNow m_matchesNow m_fedBest m_slopsBest m_sawBest m_leastNow m_stableNow m_fitsNow m_someNow m_everyNow m_askLeft rt_seats rt_slack rt_saw rt_quarrel rt_people rt_pairs rt_forks rt_unsures rt_trieds rt_fed : Int32} {m_tv : Value} {m_tape m_v m_x m_past m_kept m_slopped m_seatBest m_otherIn rt_seat rt_one rt_other rt_years rt_kind rt_unsure rt_may rt_tried : Nat → Int32} {m_word : Int64} {rt_name : Nat → Int64} {l2 : Int32} {l3 : Int32} {R0 : Int32 × Int32 × Int32 × Int32 × Int32 × Int32 × Int32 × Int64} (hf : f_M_readPart (26379859 : Int64) l2 l3 m_tape m_size m_spot m_sort m_place m_number m_fault m_wrongAt m_word = some R0) : xI l E yX12_readPart cX12_readPart 4 (some .int) 8 185 [.ref (ad 0), .ref (E.2.2.1 11), .int l2, .int l3] (wR E ad m_thrown m_trouble m_where m_tv m_tape m_taped m_size m_spot m_sort m_place m_number m_fault m_wrongAt m_word m_v m_x m_past m_kept m_acts m_images m_matchNow m_slopsNow m_matchesNow m_slopped m_seatBest m_fedBest m_slopsBest m_sawBest m_leastNow m_stableNow m_fitsNow m_someNow m_everyNow m_otherIn m_askLeft rt_seats rt_slack rt_saw rt_quarrel rt_people rt_pairs rt_forks rt_unsures rt_trieds rt_fed rt_seat rt_one rt_other rt_years rt_kind rt_unsure rt_may rt_tried rt_name) (wR E ad m_thrown m_trouble m_where m_tv m_tape m_taped m_size R0.2.1 R0.2.2.1 R0.2.2.2.1 R0.2.2.2.2.1 R0.2.2.2.2.2.1 R0.2.2.2.2.2.2.1 R0.2.2.2.2.2.2.2 m_v m_x m_past m_kept m_acts m_images m_matchNow m_slopsNow m_matchesNow m_slopped m_seatBest m_fedBest m_slopsBest m_sawBest m_leastNow m_stableNow m_fitsNow m_someNow m_everyNow m_otherIn m_askLeft rt_seats rt_slack rt_saw rt_quarrel rt_people rt_pairs rt_forks rt_unsures rt_trieds rt_fed rt_seat rt_one rt_other rt_years rt_kind rt_unsure rt_may rt_tried rt_name) R0.1 := by
  refine xI_of (by decide) (Nat.le_of_ble_eq_true rfl) (fun p e s m args below meth c A C ls hl G => ?_)
  have hx := C.1
  have hb := C.2.1
  have hl : lv_has ls 4 [(0, .ref (ad 0)), (1, .ref (E.2.2.1 11)), (2, .int l2), (3, .int l3)] := hl
  unfold f_M_readPart at hf
  refine lv_aload_n hx hb dX12_readPart_0 rfl (lv_at hl 0 rfl) ?_
  refine lv_aload_n hx hb dX12_readPart_1 rfl (lv_at hl 1 rfl) ?_
  obtain ⟨x1, hc, hf⟩ := bd_go hf
  refine xV_V C G (c_M_needs_m_years_R hc) mX12_needs kX12_126 (wR_at0) rfl ⟨Nat.le_of_ble_eq_true rfl, Nat.le_of_ble_eq_true rfl⟩ rfl hl.1 rfl (Nat.le_of_ble_eq_true rfl) ⟨Nat.le_refl _, Nat.le_refl _⟩ dX12_readPart_2 (fun H locs G => ?_)
  refine lv_aload_n hx hb dX12_readPart_5 rfl (lv_at hl 0 rfl) ?_
  refine lv_iload_n hx hb dX12_readPart_6 rfl (lv_at hl 2 rfl) ?_
  refine lv_iload_n hx hb dX12_readPart_7 rfl (lv_at hl 3 rfl) ?_
  obtain ⟨x2, hc, hf⟩ := bd_go hf
  refine xI_V C G (c_M_readWhole_m_R hc) mX12_readWhole kX12_130 (wR_at0) rfl ⟨Nat.le_of_ble_eq_true rfl, Nat.le_of_ble_eq_true rfl⟩ rfl hl.1 rfl (Nat.le_of_ble_eq_true rfl) ⟨Nat.le_refl _, Nat.le_refl _⟩ dX12_readPart_8 (fun hz H locs G => ?_)
  obtain rfl := Option.some.inj hf
  exact xI_ret C G rfl dX12_readPart_11
set_option maxHeartbeats 4000000 in
set_option maxRecDepth 100000 in
theorem c_M_isWord_m_plain_R {l : Launch} {E : xE} {ad : Nat → Nat} {m_thrown m_trouble m_where m_taped m_size m_spot m_sort m_place m_number m_fault m_wrongAt m_acts m_images m_matchNow m_slopsNow m_matchesNow m_fedBest m_slopsBest m_sawBest m_leastNow m_stableNow m_fitsNow m_someNow m_everyNow m_askLeft rt_seats rt_slack rt_saw rt_quarrel rt_people rt_pairs rt_forks rt_unsures rt_trieds rt_fed : Int32} {m_tv : Value} {m_tape m_v m_x m_past m_kept m_slopped m_seatBest m_otherIn rt_seat rt_one rt_other rt_years rt_kind rt_unsure rt_may rt_tried : Nat → Int32} {m_word : Int64} {rt_name : Nat → Int64} {R0 : Int32} (hf : f_M_isWord (17171758 : Int64) m_sort m_word = some R0) : xI l E yX12_isWord cX12_isWord 2 (some .boolean) 6 143 [.ref (ad 0), .ref (E.2.2.1 12)] (wR E ad m_thrown m_trouble m_where m_tv m_tape m_taped m_size m_spot m_sort m_place m_number m_fault m_wrongAt m_word m_v m_x m_past m_kept m_acts m_images m_matchNow m_slopsNow m_matchesNow m_slopped m_seatBest m_fedBest m_slopsBest m_sawBest m_leastNow m_stableNow m_fitsNow m_someNow m_everyNow m_otherIn m_askLeft rt_seats rt_slack rt_saw rt_quarrel rt_people rt_pairs rt_forks rt_unsures rt_trieds rt_fed rt_seat rt_one rt_other rt_years rt_kind rt_unsure rt_may rt_tried rt_name) (wR E ad m_thrown m_trouble m_where m_tv m_tape m_taped m_size m_spot m_sort m_place m_number m_fault m_wrongAt m_word m_v m_x m_past m_kept m_acts m_images m_matchNow m_slopsNow m_matchesNow m_slopped m_seatBest m_fedBest m_slopsBest m_sawBest m_leastNow m_stableNow m_fitsNow m_someNow m_everyNow m_otherIn m_askLeft rt_seats rt_slack rt_saw rt_quarrel rt_people rt_pairs rt_forks rt_unsures rt_trieds rt_fed rt_seat rt_one rt_other rt_years rt_kind rt_unsure rt_may rt_tried rt_name) R0 := by
  refine xI_of (by decide) (Nat.le_of_ble_eq_true rfl) (fun p e s m args below meth c A C ls hl G => ?_)
  have hx := C.1
  have hb := C.2.1
  have hl : lv_has ls 2 [(0, .ref (ad 0)), (1, .ref (E.2.2.1 12))] := hl
  unfold f_M_isWord at hf
  refine lv_aload_n hx hb dX12_isWord_0 rfl (lv_at hl 0 rfl) ?_
  refine x_get C G fX12_71.g (wR_at0) rfl dX12_isWord_1 ?_
  refine lv_iconst (v := 2) hx hb dX12_isWord_4 (by decide) ?_
  obtain ⟨b1, hr, hf⟩ := bd_go hf
  cases b1 with
  | true =>
    have hf := it_t rfl hf
    have J : ∀ (H : Heap) (locs : List Loc), xG s E A (wR E ad m_thrown m_trouble m_where m_tv m_tape m_taped m_size m_spot m_sort m_place m_number m_fault m_wrongAt m_word m_v m_x m_past m_kept m_acts m_images m_matchNow m_slopsNow m_matchesNow m_slopped m_seatBest m_fedBest m_slopsBest m_sawBest m_leastNow m_stableNow m_fitsNow m_someNow m_everyNow m_otherIn m_askLeft rt_seats rt_slack rt_saw rt_quarrel rt_people rt_pairs rt_forks rt_unsures rt_trieds rt_fed rt_seat rt_one rt_other rt_years rt_kind rt_unsure rt_may rt_tried rt_name) H locs → W p l e (xR 6 143) s m args below meth c H locs 0 0 (MQ below (xqI E A (wR E ad m_thrown m_trouble m_where m_tv m_tape m_taped m_size m_spot m_sort m_place m_number m_fault m_wrongAt m_word m_v m_x m_past m_kept m_acts m_images m_matchNow m_slopsNow m_matchesNow m_slopped m_seatBest m_fedBest m_slopsBest m_sawBest m_leastNow m_stableNow m_fitsNow m_someNow m_everyNow m_otherIn m_askLeft rt_seats rt_slack rt_saw rt_quarrel rt_people rt_pairs rt_forks rt_unsures rt_trieds rt_fed rt_seat rt_one rt_other rt_years rt_kind rt_unsure rt_may rt_tried rt_name) (some .boolean) R0) args s 0 0 A) (F0 m 24 ls []) := by
      intro H locs G
      refine lv_iconst (v := 0) hx hb dX12_isWord_24 (by decide) ?_
      obtain rfl := Option.some.inj hf
      exact xI_ret (r := (0 : Int32)) C G rfl dX12_isWord_25
    have hf := hr
    clear hr
    refine lv_icmp_ne (tgt := 24) hx hb dX12_isWord_5 (by decide) (fun h => ?_) (fun h => ?_)
    · have hf := it_f h hf
      exact J _ _ G
    · have hf := it_t h hf
      refine lv_aload_n hx hb dX12_isWord_8 rfl (lv_at hl 0 rfl) ?_
      refine x_get C G fX12_87.g (wR_at0) rfl dX12_isWord_9 ?_
      refine lv_aload_n hx hb dX12_isWord_12 rfl (lv_at hl 1 rfl) ?_
      refine xL_S C G (c_M_packed 12 (by decide) (17171758 : Int64) (by decide +kernel)) mX12_packed kX12_103 ⟨Nat.le_of_ble_eq_true rfl, Nat.le_of_ble_eq_true rfl⟩ rfl hl.1 rfl (Nat.le_of_ble_eq_true rfl) ⟨Nat.le_refl _, Nat.le_refl _⟩ dX12_isWord_13 (fun H locs G => ?_)
      refine W.lcmp hx hb dX12_isWord_16 ?_
      refine lv_if_ne (tgt := 24) hx hb dX12_isWord_17 (by decide) (fun h => ?_) (fun h => ?_)
      · have hf := it_f h hf
        exact J _ _ G
      · have hf := it_t h hf
        exact absurd (Option.some.inj hf) (by decide)
  | false =>
    have hf := it_f (by decide) hf
    have J : ∀ (H : Heap) (locs : List Loc), xG s E A (wR E ad m_thrown m_trouble m_where m_tv m_tape m_taped m_size m_spot m_sort m_place m_number m_fault m_wrongAt m_word m_v m_x m_past m_kept m_acts m_images m_matchNow m_slopsNow m_matchesNow m_slopped m_seatBest m_fedBest m_slopsBest m_sawBest m_leastNow m_stableNow m_fitsNow m_someNow m_everyNow m_otherIn m_askLeft rt_seats rt_slack rt_saw rt_quarrel rt_people rt_pairs rt_forks rt_unsures rt_trieds rt_fed rt_seat rt_one rt_other rt_years rt_kind rt_unsure rt_may rt_tried rt_name) H locs → W p l e (xR 6 143) s m args below meth c H locs 0 0 (MQ below (xqI E A (wR E ad m_thrown m_trouble m_where m_tv m_tape m_taped m_size m_spot m_sort m_place m_number m_fault m_wrongAt m_word m_v m_x m_past m_kept m_acts m_images m_matchNow m_slopsNow m_matchesNow m_slopped m_seatBest m_fedBest m_slopsBest m_sawBest m_leastNow m_stableNow m_fitsNow m_someNow m_everyNow m_otherIn m_askLeft rt_seats rt_slack rt_saw rt_quarrel rt_people rt_pairs rt_forks rt_unsures rt_trieds rt_fed rt_seat rt_one rt_other rt_years rt_kind rt_unsure rt_may rt_tried rt_name) (some .boolean) R0) args s 0 0 A) (F0 m 20 ls []) := by
      intro H locs G
      refine lv_iconst (v := 1) hx hb dX12_isWord_20 (by decide) ?_
      refine lv_goto (tgt := 25) hx hb dX12_isWord_21 (by decide) ?_
      obtain rfl := Option.some.inj hf
      exact xI_ret (r := (1 : Int32)) C G rfl dX12_isWord_25
    have hf := hr
    clear hr
    refine lv_icmp_ne (tgt := 24) hx hb dX12_isWord_5 (by decide) (fun h => ?_) (fun h => ?_)
    · have hf := it_f h hf
      exact absurd (Option.some.inj hf) (by decide)
    · have hf := it_t h hf
      refine lv_aload_n hx hb dX12_isWord_8 rfl (lv_at hl 0 rfl) ?_
      refine x_get C G fX12_87.g (wR_at0) rfl dX12_isWord_9 ?_
      refine lv_aload_n hx hb dX12_isWord_12 rfl (lv_at hl 1 rfl) ?_
      refine xL_S C G (c_M_packed 12 (by decide) (17171758 : Int64) (by decide +kernel)) mX12_packed kX12_103 ⟨Nat.le_of_ble_eq_true rfl, Nat.le_of_ble_eq_true rfl⟩ rfl hl.1 rfl (Nat.le_of_ble_eq_true rfl) ⟨Nat.le_refl _, Nat.le_refl _⟩ dX12_isWord_13 (fun H locs G => ?_)
      refine W.lcmp hx hb dX12_isWord_16 ?_
      refine lv_if_ne (tgt := 24) hx hb dX12_isWord_17 (by decide) (fun h => ?_) (fun h => ?_)
      · have hf := it_f h hf
        exact absurd (Option.some.inj hf) (by decide)
      · have hf := it_t h hf
        exact J _ _ G
set_option maxHeartbeats 4000000 in
set_option maxRecDepth 100000 in
theorem c_M_isWord_m_hinged_R {l : Launch} {E : xE} {ad : Nat → Nat} {m_thrown m_trouble m_where m_taped m_size m_spot m_sort m_place m_number m_fault m_wrongAt m_acts m_images m_matchNow m_slopsNow m_matchesNow m_fedBest m_slopsBest m_sawBest m_leastNow m_stableNow m_fitsNow m_someNow m_everyNow m_askLeft rt_seats rt_slack rt_saw rt_quarrel rt_people rt_pairs rt_forks rt_unsures rt_trieds rt_fed : Int32} {m_tv : Value} {m_tape m_v m_x m_past m_kept m_slopped m_seatBest m_otherIn rt_seat rt_one rt_other rt_years rt_kind rt_unsure rt_may rt_tried : Nat → Int32} {m_word : Int64} {rt_name : Nat → Int64} {R0 : Int32} (hf : f_M_isWord (278338724 : Int64) m_sort m_word = some R0) : xI l E yX12_isWord cX12_isWord 2 (some .boolean) 6 143 [.ref (ad 0), .ref (E.2.2.1 13)] (wR E ad m_thrown m_trouble m_where m_tv m_tape m_taped m_size m_spot m_sort m_place m_number m_fault m_wrongAt m_word m_v m_x m_past m_kept m_acts m_images m_matchNow m_slopsNow m_matchesNow m_slopped m_seatBest m_fedBest m_slopsBest m_sawBest m_leastNow m_stableNow m_fitsNow m_someNow m_everyNow m_otherIn m_askLeft rt_seats rt_slack rt_saw rt_quarrel rt_people rt_pairs rt_forks rt_unsures rt_trieds rt_fed rt_seat rt_one rt_other rt_years rt_kind rt_unsure rt_may rt_tried rt_name) (wR E ad m_thrown m_trouble m_where m_tv m_tape m_taped m_size m_spot m_sort m_place m_number m_fault m_wrongAt m_word m_v m_x m_past m_kept m_acts m_images m_matchNow m_slopsNow m_matchesNow m_slopped m_seatBest m_fedBest m_slopsBest m_sawBest m_leastNow m_stableNow m_fitsNow m_someNow m_everyNow m_otherIn m_askLeft rt_seats rt_slack rt_saw rt_quarrel rt_people rt_pairs rt_forks rt_unsures rt_trieds rt_fed rt_seat rt_one rt_other rt_years rt_kind rt_unsure rt_may rt_tried rt_name) R0 := by
  refine xI_of (by decide) (Nat.le_of_ble_eq_true rfl) (fun p e s m args below meth c A C ls hl G => ?_)
  have hx := C.1
  have hb := C.2.1
  have hl : lv_has ls 2 [(0, .ref (ad 0)), (1, .ref (E.2.2.1 13))] := hl
  unfold f_M_isWord at hf
  refine lv_aload_n hx hb dX12_isWord_0 rfl (lv_at hl 0 rfl) ?_
  refine x_get C G fX12_71.g (wR_at0) rfl dX12_isWord_1 ?_
  refine lv_iconst (v := 2) hx hb dX12_isWord_4 (by decide) ?_
  obtain ⟨b1, hr, hf⟩ := bd_go hf
  cases b1 with
  | true =>
    have hf := it_t rfl hf
    have J : ∀ (H : Heap) (locs : List Loc), xG s E A (wR E ad m_thrown m_trouble m_where m_tv m_tape m_taped m_size m_spot m_sort m_place m_number m_fault m_wrongAt m_word m_v m_x m_past m_kept m_acts m_images m_matchNow m_slopsNow m_matchesNow m_slopped m_seatBest m_fedBest m_slopsBest m_sawBest m_leastNow m_stableNow m_fitsNow m_someNow m_everyNow m_otherIn m_askLeft rt_seats rt_slack rt_saw rt_quarrel rt_people rt_pairs rt_forks rt_unsures rt_trieds rt_fed rt_seat rt_one rt_other rt_years rt_kind rt_unsure rt_may rt_tried rt_name) H locs → W p l e (xR 6 143) s m args below meth c H locs 0 0 (MQ below (xqI E A (wR E ad m_thrown m_trouble m_where m_tv m_tape m_taped m_size m_spot m_sort m_place m_number m_fault m_wrongAt m_word m_v m_x m_past m_kept m_acts m_images m_matchNow m_slopsNow m_matchesNow m_slopped m_seatBest m_fedBest m_slopsBest m_sawBest m_leastNow m_stableNow m_fitsNow m_someNow m_everyNow m_otherIn m_askLeft rt_seats rt_slack rt_saw rt_quarrel rt_people rt_pairs rt_forks rt_unsures rt_trieds rt_fed rt_seat rt_one rt_other rt_years rt_kind rt_unsure rt_may rt_tried rt_name) (some .boolean) R0) args s 0 0 A) (F0 m 24 ls []) := by
      intro H locs G
      refine lv_iconst (v := 0) hx hb dX12_isWord_24 (by decide) ?_
      obtain rfl := Option.some.inj hf
      exact xI_ret (r := (0 : Int32)) C G rfl dX12_isWord_25
    have hf := hr
    clear hr
    refine lv_icmp_ne (tgt := 24) hx hb dX12_isWord_5 (by decide) (fun h => ?_) (fun h => ?_)
    · have hf := it_f h hf
      exact J _ _ G
    · have hf := it_t h hf
      refine lv_aload_n hx hb dX12_isWord_8 rfl (lv_at hl 0 rfl) ?_
      refine x_get C G fX12_87.g (wR_at0) rfl dX12_isWord_9 ?_
      refine lv_aload_n hx hb dX12_isWord_12 rfl (lv_at hl 1 rfl) ?_
      refine xL_S C G (c_M_packed 13 (by decide) (278338724 : Int64) (by decide +kernel)) mX12_packed kX12_103 ⟨Nat.le_of_ble_eq_true rfl, Nat.le_of_ble_eq_true rfl⟩ rfl hl.1 rfl (Nat.le_of_ble_eq_true rfl) ⟨Nat.le_refl _, Nat.le_refl _⟩ dX12_isWord_13 (fun H locs G => ?_)
      refine W.lcmp hx hb dX12_isWord_16 ?_
      refine lv_if_ne (tgt := 24) hx hb dX12_isWord_17 (by decide) (fun h => ?_) (fun h => ?_)
      · have hf := it_f h hf
        exact J _ _ G
      · have hf := it_t h hf
        exact absurd (Option.some.inj hf) (by decide)
  | false =>
    have hf := it_f (by decide) hf
    have J : ∀ (H : Heap) (locs : List Loc), xG s E A (wR E ad m_thrown m_trouble m_where m_tv m_tape m_taped m_size m_spot m_sort m_place m_number m_fault m_wrongAt m_word m_v m_x m_past m_kept m_acts m_images m_matchNow m_slopsNow m_matchesNow m_slopped m_seatBest m_fedBest m_slopsBest m_sawBest m_leastNow m_stableNow m_fitsNow m_someNow m_everyNow m_otherIn m_askLeft rt_seats rt_slack rt_saw rt_quarrel rt_people rt_pairs rt_forks rt_unsures rt_trieds rt_fed rt_seat rt_one rt_other rt_years rt_kind rt_unsure rt_may rt_tried rt_name) H locs → W p l e (xR 6 143) s m args below meth c H locs 0 0 (MQ below (xqI E A (wR E ad m_thrown m_trouble m_where m_tv m_tape m_taped m_size m_spot m_sort m_place m_number m_fault m_wrongAt m_word m_v m_x m_past m_kept m_acts m_images m_matchNow m_slopsNow m_matchesNow m_slopped m_seatBest m_fedBest m_slopsBest m_sawBest m_leastNow m_stableNow m_fitsNow m_someNow m_everyNow m_otherIn m_askLeft rt_seats rt_slack rt_saw rt_quarrel rt_people rt_pairs rt_forks rt_unsures rt_trieds rt_fed rt_seat rt_one rt_other rt_years rt_kind rt_unsure rt_may rt_tried rt_name) (some .boolean) R0) args s 0 0 A) (F0 m 20 ls []) := by
      intro H locs G
      refine lv_iconst (v := 1) hx hb dX12_isWord_20 (by decide) ?_
      refine lv_goto (tgt := 25) hx hb dX12_isWord_21 (by decide) ?_
      obtain rfl := Option.some.inj hf
      exact xI_ret (r := (1 : Int32)) C G rfl dX12_isWord_25
    have hf := hr
    clear hr
    refine lv_icmp_ne (tgt := 24) hx hb dX12_isWord_5 (by decide) (fun h => ?_) (fun h => ?_)
    · have hf := it_f h hf
      exact absurd (Option.some.inj hf) (by decide)
    · have hf := it_t h hf
      refine lv_aload_n hx hb dX12_isWord_8 rfl (lv_at hl 0 rfl) ?_
      refine x_get C G fX12_87.g (wR_at0) rfl dX12_isWord_9 ?_
      refine lv_aload_n hx hb dX12_isWord_12 rfl (lv_at hl 1 rfl) ?_
      refine xL_S C G (c_M_packed 13 (by decide) (278338724 : Int64) (by decide +kernel)) mX12_packed kX12_103 ⟨Nat.le_of_ble_eq_true rfl, Nat.le_of_ble_eq_true rfl⟩ rfl hl.1 rfl (Nat.le_of_ble_eq_true rfl) ⟨Nat.le_refl _, Nat.le_refl _⟩ dX12_isWord_13 (fun H locs G => ?_)
      refine W.lcmp hx hb dX12_isWord_16 ?_
      refine lv_if_ne (tgt := 24) hx hb dX12_isWord_17 (by decide) (fun h => ?_) (fun h => ?_)
      · have hf := it_f h hf
        exact absurd (Option.some.inj hf) (by decide)
      · have hf := it_t h hf
        exact J _ _ G
set_option maxHeartbeats 4000000 in
set_option maxRecDepth 100000 in
theorem c_M_isWord_m_ringed_R {l : Launch} {E : xE} {ad : Nat → Nat} {m_thrown m_trouble m_where m_taped m_size m_spot m_sort m_place m_number m_fault m_wrongAt m_acts m_images m_matchNow m_slopsNow m_matchesNow m_fedBest m_slopsBest m_sawBest m_leastNow m_stableNow m_fitsNow m_someNow m_everyNow m_askLeft rt_seats rt_slack rt_saw rt_quarrel rt_people rt_pairs rt_forks rt_unsures rt_trieds rt_fed : Int32} {m_tv : Value} {m_tape m_v m_x m_past m_kept m_slopped m_seatBest m_otherIn rt_seat rt_one rt_other rt_years rt_kind rt_unsure rt_may rt_tried : Nat → Int32} {m_word : Int64} {rt_name : Nat → Int64} {R0 : Int32} (hf : f_M_isWord (613883044 : Int64) m_sort m_word = some R0) : xI l E yX12_isWord cX12_isWord 2 (some .boolean) 6 143 [.ref (ad 0), .ref (E.2.2.1 14)] (wR E ad m_thrown m_trouble m_where m_tv m_tape m_taped m_size m_spot m_sort m_place m_number m_fault m_wrongAt m_word m_v m_x m_past m_kept m_acts m_images m_matchNow m_slopsNow m_matchesNow m_slopped m_seatBest m_fedBest m_slopsBest m_sawBest m_leastNow m_stableNow m_fitsNow m_someNow m_everyNow m_otherIn m_askLeft rt_seats rt_slack rt_saw rt_quarrel rt_people rt_pairs rt_forks rt_unsures rt_trieds rt_fed rt_seat rt_one rt_other rt_years rt_kind rt_unsure rt_may rt_tried rt_name) (wR E ad m_thrown m_trouble m_where m_tv m_tape m_taped m_size m_spot m_sort m_place m_number m_fault m_wrongAt m_word m_v m_x m_past m_kept m_acts m_images m_matchNow m_slopsNow m_matchesNow m_slopped m_seatBest m_fedBest m_slopsBest m_sawBest m_leastNow m_stableNow m_fitsNow m_someNow m_everyNow m_otherIn m_askLeft rt_seats rt_slack rt_saw rt_quarrel rt_people rt_pairs rt_forks rt_unsures rt_trieds rt_fed rt_seat rt_one rt_other rt_years rt_kind rt_unsure rt_may rt_tried rt_name) R0 := by
  refine xI_of (by decide) (Nat.le_of_ble_eq_true rfl) (fun p e s m args below meth c A C ls hl G => ?_)
  have hx := C.1
  have hb := C.2.1
  have hl : lv_has ls 2 [(0, .ref (ad 0)), (1, .ref (E.2.2.1 14))] := hl
  unfold f_M_isWord at hf
  refine lv_aload_n hx hb dX12_isWord_0 rfl (lv_at hl 0 rfl) ?_
  refine x_get C G fX12_71.g (wR_at0) rfl dX12_isWord_1 ?_
  refine lv_iconst (v := 2) hx hb dX12_isWord_4 (by decide) ?_
  obtain ⟨b1, hr, hf⟩ := bd_go hf
  cases b1 with
  | true =>
    have hf := it_t rfl hf
    have J : ∀ (H : Heap) (locs : List Loc), xG s E A (wR E ad m_thrown m_trouble m_where m_tv m_tape m_taped m_size m_spot m_sort m_place m_number m_fault m_wrongAt m_word m_v m_x m_past m_kept m_acts m_images m_matchNow m_slopsNow m_matchesNow m_slopped m_seatBest m_fedBest m_slopsBest m_sawBest m_leastNow m_stableNow m_fitsNow m_someNow m_everyNow m_otherIn m_askLeft rt_seats rt_slack rt_saw rt_quarrel rt_people rt_pairs rt_forks rt_unsures rt_trieds rt_fed rt_seat rt_one rt_other rt_years rt_kind rt_unsure rt_may rt_tried rt_name) H locs → W p l e (xR 6 143) s m args below meth c H locs 0 0 (MQ below (xqI E A (wR E ad m_thrown m_trouble m_where m_tv m_tape m_taped m_size m_spot m_sort m_place m_number m_fault m_wrongAt m_word m_v m_x m_past m_kept m_acts m_images m_matchNow m_slopsNow m_matchesNow m_slopped m_seatBest m_fedBest m_slopsBest m_sawBest m_leastNow m_stableNow m_fitsNow m_someNow m_everyNow m_otherIn m_askLeft rt_seats rt_slack rt_saw rt_quarrel rt_people rt_pairs rt_forks rt_unsures rt_trieds rt_fed rt_seat rt_one rt_other rt_years rt_kind rt_unsure rt_may rt_tried rt_name) (some .boolean) R0) args s 0 0 A) (F0 m 24 ls []) := by
      intro H locs G
      refine lv_iconst (v := 0) hx hb dX12_isWord_24 (by decide) ?_
      obtain rfl := Option.some.inj hf
      exact xI_ret (r := (0 : Int32)) C G rfl dX12_isWord_25
    have hf := hr
    clear hr
    refine lv_icmp_ne (tgt := 24) hx hb dX12_isWord_5 (by decide) (fun h => ?_) (fun h => ?_)
    · have hf := it_f h hf
      exact J _ _ G
    · have hf := it_t h hf
      refine lv_aload_n hx hb dX12_isWord_8 rfl (lv_at hl 0 rfl) ?_
      refine x_get C G fX12_87.g (wR_at0) rfl dX12_isWord_9 ?_
      refine lv_aload_n hx hb dX12_isWord_12 rfl (lv_at hl 1 rfl) ?_
      refine xL_S C G (c_M_packed 14 (by decide) (613883044 : Int64) (by decide +kernel)) mX12_packed kX12_103 ⟨Nat.le_of_ble_eq_true rfl, Nat.le_of_ble_eq_true rfl⟩ rfl hl.1 rfl (Nat.le_of_ble_eq_true rfl) ⟨Nat.le_refl _, Nat.le_refl _⟩ dX12_isWord_13 (fun H locs G => ?_)
      refine W.lcmp hx hb dX12_isWord_16 ?_
      refine lv_if_ne (tgt := 24) hx hb dX12_isWord_17 (by decide) (fun h => ?_) (fun h => ?_)
      · have hf := it_f h hf
        exact J _ _ G
      · have hf := it_t h hf
        exact absurd (Option.some.inj hf) (by decide)
  | false =>
    have hf := it_f (by decide) hf
    have J : ∀ (H : Heap) (locs : List Loc), xG s E A (wR E ad m_thrown m_trouble m_where m_tv m_tape m_taped m_size m_spot m_sort m_place m_number m_fault m_wrongAt m_word m_v m_x m_past m_kept m_acts m_images m_matchNow m_slopsNow m_matchesNow m_slopped m_seatBest m_fedBest m_slopsBest m_sawBest m_leastNow m_stableNow m_fitsNow m_someNow m_everyNow m_otherIn m_askLeft rt_seats rt_slack rt_saw rt_quarrel rt_people rt_pairs rt_forks rt_unsures rt_trieds rt_fed rt_seat rt_one rt_other rt_years rt_kind rt_unsure rt_may rt_tried rt_name) H locs → W p l e (xR 6 143) s m args below meth c H locs 0 0 (MQ below (xqI E A (wR E ad m_thrown m_trouble m_where m_tv m_tape m_taped m_size m_spot m_sort m_place m_number m_fault m_wrongAt m_word m_v m_x m_past m_kept m_acts m_images m_matchNow m_slopsNow m_matchesNow m_slopped m_seatBest m_fedBest m_slopsBest m_sawBest m_leastNow m_stableNow m_fitsNow m_someNow m_everyNow m_otherIn m_askLeft rt_seats rt_slack rt_saw rt_quarrel rt_people rt_pairs rt_forks rt_unsures rt_trieds rt_fed rt_seat rt_one rt_other rt_years rt_kind rt_unsure rt_may rt_tried rt_name) (some .boolean) R0) args s 0 0 A) (F0 m 20 ls []) := by
      intro H locs G
      refine lv_iconst (v := 1) hx hb dX12_isWord_20 (by decide) ?_
      refine lv_goto (tgt := 25) hx hb dX12_isWord_21 (by decide) ?_
      obtain rfl := Option.some.inj hf
      exact xI_ret (r := (1 : Int32)) C G rfl dX12_isWord_25
    have hf := hr
    clear hr
    refine lv_icmp_ne (tgt := 24) hx hb dX12_isWord_5 (by decide) (fun h => ?_) (fun h => ?_)
    · have hf := it_f h hf
      exact absurd (Option.some.inj hf) (by decide)
    · have hf := it_t h hf
      refine lv_aload_n hx hb dX12_isWord_8 rfl (lv_at hl 0 rfl) ?_
      refine x_get C G fX12_87.g (wR_at0) rfl dX12_isWord_9 ?_
      refine lv_aload_n hx hb dX12_isWord_12 rfl (lv_at hl 1 rfl) ?_
      refine xL_S C G (c_M_packed 14 (by decide) (613883044 : Int64) (by decide +kernel)) mX12_packed kX12_103 ⟨Nat.le_of_ble_eq_true rfl, Nat.le_of_ble_eq_true rfl⟩ rfl hl.1 rfl (Nat.le_of_ble_eq_true rfl) ⟨Nat.le_refl _, Nat.le_refl _⟩ dX12_isWord_13 (fun H locs G => ?_)
      refine W.lcmp hx hb dX12_isWord_16 ?_
      refine lv_if_ne (tgt := 24) hx hb dX12_isWord_17 (by decide) (fun h => ?_) (fun h => ?_)
      · have hf := it_f h hf
        exact absurd (Option.some.inj hf) (by decide)
      · have hf := it_t h hf
        exact J _ _ G
set_option maxHeartbeats 4000000 in
set_option maxRecDepth 100000 in
theorem c_M_readKnown_m_R {l : Launch} {E : xE} {ad : Nat → Nat} {m_thrown m_trouble m_where m_taped m_size m_spot m_sort m_place m_number m_fault m_wrongAt m_acts m_images m_matchNow m_slopsNow m_matchesNow m_fedBest m_slopsBest m_sawBest m_leastNow m_stableNow m_fitsNow m_someNow m_everyNow m_askLeft rt_seats rt_slack rt_saw rt_quarrel rt_people rt_pairs rt_forks rt_unsures rt_trieds rt_fed : Int32} {m_tv : Value} {m_tape m_v m_x m_past m_kept m_slopped m_seatBest m_otherIn rt_seat rt_one rt_other rt_years rt_kind rt_unsure rt_may rt_tried : Nat → Int32} {m_word : Int64} {rt_name : Nat → Int64} {R0 : Int32 × Int32 × Int32 × Int32 × Int32 × Int32 × Int64 × Int32 × (Nat → Int32) × (Nat → Int32) × (Nat → Int32) × (Nat → Int32)} (hf : f_M_readKnown m_tape m_size m_spot m_sort m_place m_number m_fault m_wrongAt m_word rt_seats rt_people rt_pairs rt_one rt_other rt_years rt_kind rt_name = some R0) : xV l E yX12_readKnown cX12_readKnown 5 none 10 226 [.ref (ad 0)] (wR E ad m_thrown m_trouble m_where m_tv m_tape m_taped m_size m_spot m_sort m_place m_number m_fault m_wrongAt m_word m_v m_x m_past m_kept m_acts m_images m_matchNow m_slopsNow m_matchesNow m_slopped m_seatBest m_fedBest m_slopsBest m_sawBest m_leastNow m_stableNow m_fitsNow m_someNow m_everyNow m_otherIn m_askLeft rt_seats rt_slack rt_saw rt_quarrel rt_people rt_pairs rt_forks rt_unsures rt_trieds rt_fed rt_seat rt_one rt_other rt_years rt_kind rt_unsure rt_may rt_tried rt_name) (wR E ad m_thrown m_trouble m_where m_tv m_tape m_taped m_size R0.1 R0.2.1 R0.2.2.1 R0.2.2.2.1 R0.2.2.2.2.1 R0.2.2.2.2.2.1 R0.2.2.2.2.2.2.1 m_v m_x m_past m_kept m_acts m_images m_matchNow m_slopsNow m_matchesNow m_slopped m_seatBest m_fedBest m_slopsBest m_sawBest m_leastNow m_stableNow m_fitsNow m_someNow m_everyNow m_otherIn m_askLeft rt_seats rt_slack rt_saw rt_quarrel rt_people R0.2.2.2.2.2.2.2.1 rt_forks rt_unsures rt_trieds rt_fed rt_seat R0.2.2.2.2.2.2.2.2.1 R0.2.2.2.2.2.2.2.2.2.1 R0.2.2.2.2.2.2.2.2.2.2.1 R0.2.2.2.2.2.2.2.2.2.2.2 rt_unsure rt_may rt_tried rt_name) := by
  refine xV_of (by decide) (Nat.le_of_ble_eq_true rfl) (fun p e s m args below meth c A C ls hl G => ?_)
  have hx := C.1
  have hb := C.2.1
  have hl : lv_has ls 5 [(0, .ref (ad 0))] := hl
  unfold f_M_readKnown at hf
  refine lv_aload_n hx hb dX12_readKnown_0 rfl (lv_at hl 0 rfl) ?_
  refine lv_aload_n hx hb dX12_readKnown_1 rfl (lv_at hl 0 rfl) ?_
  refine x_get C G fX12_145.g (wR_at0) rfl dX12_readKnown_2 ?_
  refine x_get C G fX12_241.g (wR_at9) rfl dX12_readKnown_5 ?_
  refine lv_bipush (v := 10) hx hb dX12_readKnown_8 (by decide) ?_
  obtain ⟨x1, hc, hf⟩ := bd_go hf
  refine xV_V C G (c_M_lineBegins_m_R hc) mX12_lineBegins kX12_215 (wR_at0) rfl ⟨Nat.le_of_ble_eq_true rfl, Nat.le_of_ble_eq_true rfl⟩ rfl hl.1 rfl (Nat.le_of_ble_eq_true rfl) ⟨Nat.le_refl _, Nat.le_refl _⟩ dX12_readKnown_10 (fun H locs G => ?_)
  refine lv_aload_n hx hb dX12_readKnown_13 rfl (lv_at hl 0 rfl) ?_
  obtain ⟨x2, hc, hf⟩ := bd_go hf
  refine xI_V C G (c_M_readPerson_m_R hc) mX12_readPerson kX12_165 (wR_at0) rfl ⟨Nat.le_of_ble_eq_true rfl, Nat.le_of_ble_eq_true rfl⟩ rfl hl.1 rfl (Nat.le_of_ble_eq_true rfl) ⟨Nat.le_refl _, Nat.le_refl _⟩ dX12_readKnown_14 (fun hz H locs G => ?_)
  refine lv_istore_n (lv' := [(1, .int x2.1), (0, .ref (ad 0))]) hx hb dX12_readKnown_17 rfl hl (by decide) rfl (fun ls hl => ?_)
  refine lv_aload_n hx hb dX12_readKnown_18 rfl (lv_at hl 1 rfl) ?_
  obtain ⟨x3, hc, hf⟩ := bd_go hf
  refine xI_V C G (c_M_personAt_m_R hc) mX12_personAt kX12_162 (wR_at0) rfl ⟨Nat.le_of_ble_eq_true rfl, Nat.le_of_ble_eq_true rfl⟩ rfl hl.1 rfl (Nat.le_of_ble_eq_true rfl) ⟨Nat.le_refl _, Nat.le_refl _⟩ dX12_readKnown_19 (fun hz H locs G => ?_)
  refine lv_istore_n (lv' := [(2, .int x3.1), (1, .int x2.1), (0, .ref (ad 0))]) hx hb dX12_readKnown_22 rfl hl (by decide) rfl (fun ls hl => ?_)
  refine lv_aload_n hx hb dX12_readKnown_23 rfl (lv_at hl 2 rfl) ?_
  refine x_get C G fX12_71.g (wR_at0) rfl dX12_readKnown_24 ?_
  refine lv_iconst (v := 5) hx hb dX12_readKnown_27 (by decide) ?_
  obtain ⟨x4, hrx4, hf⟩ := bd_go hf
  have Jx4 : ∀ (H : Heap) (locs : List Loc) (ls : Array Slot), xG s E A (wR E ad m_thrown m_trouble m_where m_tv m_tape m_taped m_size x2.2.1 x4.1 x2.2.2.2.1 x2.2.2.2.2.1 x4.2.1 x4.2.2 x2.2.2.2.2.2.2.2 m_v m_x m_past m_kept m_acts m_images m_matchNow m_slopsNow m_matchesNow m_slopped m_seatBest m_fedBest m_slopsBest m_sawBest m_leastNow m_stableNow m_fitsNow m_someNow m_everyNow m_otherIn m_askLeft rt_seats rt_slack rt_saw rt_quarrel rt_people rt_pairs rt_forks rt_unsures rt_trieds rt_fed rt_seat rt_one rt_other rt_years rt_kind rt_unsure rt_may rt_tried rt_name) H locs → lv_has ls 5 [(0, .ref (ad 0)), (1, .int x2.1), (2, .int x3.1)] → W p l e (xR 10 226) s m args below meth c H locs 0 0 (MQ below (xqV E A (wR E ad m_thrown m_trouble m_where m_tv m_tape m_taped m_size R0.1 R0.2.1 R0.2.2.1 R0.2.2.2.1 R0.2.2.2.2.1 R0.2.2.2.2.2.1 R0.2.2.2.2.2.2.1 m_v m_x m_past m_kept m_acts m_images m_matchNow m_slopsNow m_matchesNow m_slopped m_seatBest m_fedBest m_slopsBest m_sawBest m_leastNow m_stableNow m_fitsNow m_someNow m_everyNow m_otherIn m_askLeft rt_seats rt_slack rt_saw rt_quarrel rt_people R0.2.2.2.2.2.2.2.1 rt_forks rt_unsures rt_trieds rt_fed rt_seat R0.2.2.2.2.2.2.2.2.1 R0.2.2.2.2.2.2.2.2.2.1 R0.2.2.2.2.2.2.2.2.2.2.1 R0.2.2.2.2.2.2.2.2.2.2.2 rt_unsure rt_may rt_tried rt_name)) args s 0 0 A) (F0 m 54 ls []) := by
    intro H locs ls G hl
    refine lv_aload_n hx hb dX12_readKnown_54 rfl (lv_at hl 0 rfl) ?_
    obtain ⟨x5, hc, hf⟩ := bd_go hf
    refine xV_V C G (c_M_goesOn_m_R hc) mX12_goesOn kX12_107 (wR_at0) rfl ⟨Nat.le_of_ble_eq_true rfl, Nat.le_of_ble_eq_true rfl⟩ rfl hl.1 rfl (Nat.le_of_ble_eq_true rfl) ⟨Nat.le_refl _, Nat.le_refl _⟩ dX12_readKnown_55 (fun H locs G => ?_)
    refine lv_aload_n hx hb dX12_readKnown_58 rfl (lv_at hl 0 rfl) ?_
    refine va_ldcS hx hb C.2.2.2.1 (C.2.2.2.2.2.2.2.2.2.2.1 11 (by decide)) dX12_readKnown_59 ?_
    refine lv_iconst (v := 0) hx hb dX12_readKnown_61 (by decide) ?_
    refine lv_bipush (v := 99) hx hb dX12_readKnown_62 (by decide) ?_
    obtain ⟨x6, hc, hf⟩ := bd_go hf
    refine xI_V C G (c_M_readPart_m_years_R hc) mX12_readPart kX12_199 (wR_at0) rfl ⟨Nat.le_of_ble_eq_true rfl, Nat.le_of_ble_eq_true rfl⟩ rfl hl.1 rfl (Nat.le_of_ble_eq_true rfl) ⟨Nat.le_refl _, Nat.le_refl _⟩ dX12_readKnown_64 (fun hz H locs G => ?_)
    refine lv_istore_n (lv' := [(3, .int x6.1), (0, .ref (ad 0)), (1, .int x2.1), (2, .int x3.1)]) hx hb dX12_readKnown_67 rfl hl (by decide) rfl (fun ls hl => ?_)
    refine lv_aload_n hx hb dX12_readKnown_68 rfl (lv_at hl 1 rfl) ?_
    refine va_ldcS hx hb C.2.2.2.1 (C.2.2.2.2.2.2.2.2.2.2.1 12 (by decide)) dX12_readKnown_69 ?_
    obtain ⟨x7, hc, hf⟩ := bd_go hf
    refine xI_V C G (c_M_isWord_m_plain_R hc) mX12_isWord kX12_110 (wR_at0) rfl ⟨Nat.le_of_ble_eq_true rfl, Nat.le_of_ble_eq_true rfl⟩ rfl hl.1 rfl (Nat.le_of_ble_eq_true rfl) ⟨Nat.le_refl _, Nat.le_refl _⟩ dX12_readKnown_71 (fun hz7 H locs G => ?_)
    obtain ⟨x8, hrx8, hf⟩ := bd_go hf
    have Jx8 : ∀ (H : Heap) (locs : List Loc) (ls : Array Slot), xG s E A (wR E ad m_thrown m_trouble m_where m_tv m_tape m_taped m_size x6.2.1 x6.2.2.1 x6.2.2.2.1 x6.2.2.2.2.1 x6.2.2.2.2.2.1 x6.2.2.2.2.2.2.1 x6.2.2.2.2.2.2.2 m_v m_x m_past m_kept m_acts m_images m_matchNow m_slopsNow m_matchesNow m_slopped m_seatBest m_fedBest m_slopsBest m_sawBest m_leastNow m_stableNow m_fitsNow m_someNow m_everyNow m_otherIn m_askLeft rt_seats rt_slack rt_saw rt_quarrel rt_people rt_pairs rt_forks rt_unsures rt_trieds rt_fed rt_seat rt_one rt_other rt_years rt_kind rt_unsure rt_may rt_tried rt_name) H locs → lv_has ls 5 [(0, .ref (ad 0)), (1, .int x2.1), (2, .int x3.1), (3, .int x6.1)] → W p l e (xR 10 226) s m args below meth c H locs 0 0 (MQ below (xqV E A (wR E ad m_thrown m_trouble m_where m_tv m_tape m_taped m_size R0.1 R0.2.1 R0.2.2.1 R0.2.2.2.1 R0.2.2.2.2.1 R0.2.2.2.2.2.1 R0.2.2.2.2.2.2.1 m_v m_x m_past m_kept m_acts m_images m_matchNow m_slopsNow m_matchesNow m_slopped m_seatBest m_fedBest m_slopsBest m_sawBest m_leastNow m_stableNow m_fitsNow m_someNow m_everyNow m_otherIn m_askLeft rt_seats rt_slack rt_saw rt_quarrel rt_people R0.2.2.2.2.2.2.2.1 rt_forks rt_unsures rt_trieds rt_fed rt_seat R0.2.2.2.2.2.2.2.2.1 R0.2.2.2.2.2.2.2.2.2.1 R0.2.2.2.2.2.2.2.2.2.2.1 R0.2.2.2.2.2.2.2.2.2.2.2 rt_unsure rt_may rt_tried rt_name)) args s 0 0 A) (F0 m 108 ls [.int x8]) := by
      intro H locs ls G hl
      refine lv_istore (lv' := [(4, .int x8), (0, .ref (ad 0)), (1, .int x2.1), (2, .int x3.1), (3, .int x6.1)]) hx hb dX12_readKnown_108 hl (by decide) rfl (fun ls hl => ?_)
      refine lv_iload hx hb dX12_readKnown_110 (lv_at hl 0 rfl) ?_
      refine lv_iconst (v := -1) hx hb dX12_readKnown_112 (by decide) ?_
      obtain ⟨x9, hrx9, hf⟩ := bd_go hf
      have Jx9 : ∀ (H : Heap) (locs : List Loc) (ls : Array Slot), xG s E A (wR E ad m_thrown m_trouble m_where m_tv m_tape m_taped m_size x6.2.1 x9.1 x6.2.2.2.1 x6.2.2.2.2.1 x9.2.1 x9.2.2 x6.2.2.2.2.2.2.2 m_v m_x m_past m_kept m_acts m_images m_matchNow m_slopsNow m_matchesNow m_slopped m_seatBest m_fedBest m_slopsBest m_sawBest m_leastNow m_stableNow m_fitsNow m_someNow m_everyNow m_otherIn m_askLeft rt_seats rt_slack rt_saw rt_quarrel rt_people rt_pairs rt_forks rt_unsures rt_trieds rt_fed rt_seat rt_one rt_other rt_years rt_kind rt_unsure rt_may rt_tried rt_name) H locs → lv_has ls 5 [(0, .ref (ad 0)), (1, .int x2.1), (2, .int x3.1), (3, .int x6.1), (4, .int x8)] → W p l e (xR 10 226) s m args below meth c H locs 0 0 (MQ below (xqV E A (wR E ad m_thrown m_trouble m_where m_tv m_tape m_taped m_size R0.1 R0.2.1 R0.2.2.1 R0.2.2.2.1 R0.2.2.2.2.1 R0.2.2.2.2.2.1 R0.2.2.2.2.2.2.1 m_v m_x m_past m_kept m_acts m_images m_matchNow m_slopsNow m_matchesNow m_slopped m_seatBest m_fedBest m_slopsBest m_sawBest m_leastNow m_stableNow m_fitsNow m_someNow m_everyNow m_otherIn m_askLeft rt_seats rt_slack rt_saw rt_quarrel rt_people R0.2.2.2.2.2.2.2.1 rt_forks rt_unsures rt_trieds rt_fed rt_seat R0.2.2.2.2.2.2.2.2.1 R0.2.2.2.2.2.2.2.2.2.1 R0.2.2.2.2.2.2.2.2.2.2.1 R0.2.2.2.2.2.2.2.2.2.2.2 rt_unsure rt_may rt_tried rt_name)) args s 0 0 A) (F0 m 121 ls []) := by
        intro H locs ls G hl
        refine lv_aload_n hx hb dX12_readKnown_121 rfl (lv_at hl 0 rfl) ?_
        obtain ⟨x10, hc, hf⟩ := bd_go hf
        refine xV_V C G (c_M_goesOn_m_R hc) mX12_goesOn kX12_107 (wR_at0) rfl ⟨Nat.le_of_ble_eq_true rfl, Nat.le_of_ble_eq_true rfl⟩ rfl hl.1 rfl (Nat.le_of_ble_eq_true rfl) ⟨Nat.le_refl _, Nat.le_refl _⟩ dX12_readKnown_122 (fun H locs G => ?_)
        refine lv_aload_n hx hb dX12_readKnown_125 rfl (lv_at hl 0 rfl) ?_
        refine x_get C G fX12_71.g (wR_at0) rfl dX12_readKnown_126 ?_
        refine lv_iconst (v := 5) hx hb dX12_readKnown_129 (by decide) ?_
        refine lv_icmp_ne (tgt := 134) hx hb dX12_readKnown_130 (by decide) (fun h => ?_) (fun h => ?_)
        · have hf := it_f h hf
          refine lv_aload_n hx hb dX12_readKnown_134 rfl (lv_at hl 0 rfl) ?_
          refine x_get C G fX12_145.g (wR_at0) rfl dX12_readKnown_135 ?_
          refine x_get C G fX12_252 (wR_at9) rfl dX12_readKnown_138 ?_
          refine lv_aload_n hx hb dX12_readKnown_141 rfl (lv_at hl 0 rfl) ?_
          refine x_get C G fX12_145.g (wR_at0) rfl dX12_readKnown_142 ?_
          refine x_get C G fX12_241.g (wR_at9) rfl dX12_readKnown_145 ?_
          refine lv_iload_n hx hb dX12_readKnown_148 rfl (lv_at hl 1 rfl) ?_
          have hi := ck_in hf
          have hf := ck_go hf
          refine x_iast (ws' := (wR E ad m_thrown m_trouble m_where m_tv m_tape m_taped m_size x10.1 x10.2.1 x10.2.2.1 x10.2.2.2.1 x9.2.1 x9.2.2 x10.2.2.2.2 m_v m_x m_past m_kept m_acts m_images m_matchNow m_slopsNow m_matchesNow m_slopped m_seatBest m_fedBest m_slopsBest m_sawBest m_leastNow m_stableNow m_fitsNow m_someNow m_everyNow m_otherIn m_askLeft rt_seats rt_slack rt_saw rt_quarrel rt_people rt_pairs rt_forks rt_unsures rt_trieds rt_fed rt_seat (upd rt_one rt_pairs.toNatClampNeg x2.1) rt_other rt_years rt_kind rt_unsure rt_may rt_tried rt_name)) C G (wR_at11) hi wR_set_rt_one dX12_readKnown_149 (fun H locs G => ?_)
          refine lv_aload_n hx hb dX12_readKnown_150 rfl (lv_at hl 0 rfl) ?_
          refine x_get C G fX12_145.g (wR_at0) rfl dX12_readKnown_151 ?_
          refine x_get C G fX12_255 (wR_at9) rfl dX12_readKnown_154 ?_
          refine lv_aload_n hx hb dX12_readKnown_157 rfl (lv_at hl 0 rfl) ?_
          refine x_get C G fX12_145.g (wR_at0) rfl dX12_readKnown_158 ?_
          refine x_get C G fX12_241.g (wR_at9) rfl dX12_readKnown_161 ?_
          refine lv_iload_n hx hb dX12_readKnown_164 rfl (lv_at hl 2 rfl) ?_
          have hi := ck_in hf
          have hf := ck_go hf
          refine x_iast (ws' := (wR E ad m_thrown m_trouble m_where m_tv m_tape m_taped m_size x10.1 x10.2.1 x10.2.2.1 x10.2.2.2.1 x9.2.1 x9.2.2 x10.2.2.2.2 m_v m_x m_past m_kept m_acts m_images m_matchNow m_slopsNow m_matchesNow m_slopped m_seatBest m_fedBest m_slopsBest m_sawBest m_leastNow m_stableNow m_fitsNow m_someNow m_everyNow m_otherIn m_askLeft rt_seats rt_slack rt_saw rt_quarrel rt_people rt_pairs rt_forks rt_unsures rt_trieds rt_fed rt_seat (upd rt_one rt_pairs.toNatClampNeg x2.1) (upd rt_other rt_pairs.toNatClampNeg x3.1) rt_years rt_kind rt_unsure rt_may rt_tried rt_name)) C G (wR_at12) hi wR_set_rt_other dX12_readKnown_165 (fun H locs G => ?_)
          refine lv_aload_n hx hb dX12_readKnown_166 rfl (lv_at hl 0 rfl) ?_
          refine x_get C G fX12_145.g (wR_at0) rfl dX12_readKnown_167 ?_
          refine x_get C G fX12_258 (wR_at9) rfl dX12_readKnown_170 ?_
          refine lv_aload_n hx hb dX12_readKnown_173 rfl (lv_at hl 0 rfl) ?_
          refine x_get C G fX12_145.g (wR_at0) rfl dX12_readKnown_174 ?_
          refine x_get C G fX12_241.g (wR_at9) rfl dX12_readKnown_177 ?_
          refine lv_iload_n hx hb dX12_readKnown_180 rfl (lv_at hl 3 rfl) ?_
          have hi := ck_in hf
          have hf := ck_go hf
          refine x_iast (ws' := (wR E ad m_thrown m_trouble m_where m_tv m_tape m_taped m_size x10.1 x10.2.1 x10.2.2.1 x10.2.2.2.1 x9.2.1 x9.2.2 x10.2.2.2.2 m_v m_x m_past m_kept m_acts m_images m_matchNow m_slopsNow m_matchesNow m_slopped m_seatBest m_fedBest m_slopsBest m_sawBest m_leastNow m_stableNow m_fitsNow m_someNow m_everyNow m_otherIn m_askLeft rt_seats rt_slack rt_saw rt_quarrel rt_people rt_pairs rt_forks rt_unsures rt_trieds rt_fed rt_seat (upd rt_one rt_pairs.toNatClampNeg x2.1) (upd rt_other rt_pairs.toNatClampNeg x3.1) (upd rt_years rt_pairs.toNatClampNeg x6.1) rt_kind rt_unsure rt_may rt_tried rt_name)) C G (wR_at13) hi wR_set_rt_years dX12_readKnown_181 (fun H locs G => ?_)
          refine lv_aload_n hx hb dX12_readKnown_182 rfl (lv_at hl 0 rfl) ?_
          refine x_get C G fX12_145.g (wR_at0) rfl dX12_readKnown_183 ?_
          refine x_get C G fX12_260 (wR_at9) rfl dX12_readKnown_186 ?_
          refine lv_aload_n hx hb dX12_readKnown_189 rfl (lv_at hl 0 rfl) ?_
          refine x_get C G fX12_145.g (wR_at0) rfl dX12_readKnown_190 ?_
          refine x_get C G fX12_241.g (wR_at9) rfl dX12_readKnown_193 ?_
          refine lv_iload hx hb dX12_readKnown_196 (lv_at hl 4 rfl) ?_
          have hi := ck_in hf
          have hf := ck_go hf
          refine x_iast (ws' := (wR E ad m_thrown m_trouble m_where m_tv m_tape m_taped m_size x10.1 x10.2.1 x10.2.2.1 x10.2.2.2.1 x9.2.1 x9.2.2 x10.2.2.2.2 m_v m_x m_past m_kept m_acts m_images m_matchNow m_slopsNow m_matchesNow m_slopped m_seatBest m_fedBest m_slopsBest m_sawBest m_leastNow m_stableNow m_fitsNow m_someNow m_everyNow m_otherIn m_askLeft rt_seats rt_slack rt_saw rt_quarrel rt_people rt_pairs rt_forks rt_unsures rt_trieds rt_fed rt_seat (upd rt_one rt_pairs.toNatClampNeg x2.1) (upd rt_other rt_pairs.toNatClampNeg x3.1) (upd rt_years rt_pairs.toNatClampNeg x6.1) (upd rt_kind rt_pairs.toNatClampNeg x8) rt_unsure rt_may rt_tried rt_name)) C G (wR_at14) hi wR_set_rt_kind dX12_readKnown_198 (fun H locs G => ?_)
          refine lv_aload_n hx hb dX12_readKnown_199 rfl (lv_at hl 0 rfl) ?_
          refine x_get C G fX12_145.g (wR_at0) rfl dX12_readKnown_200 ?_
          refine lv_dup hx hb dX12_readKnown_203 rfl ?_
          refine x_get C G fX12_241.g (wR_at9) rfl dX12_readKnown_204 ?_
          refine lv_iconst (v := 1) hx hb dX12_readKnown_207 (by decide) ?_
          refine lv_iadd hx hb dX12_readKnown_208 ?_
          refine lv_topi (fun x11 ex11 => ?_)
          have hf := lt_go ex11 hf
          refine x_put (ws' := (wR E ad m_thrown m_trouble m_where m_tv m_tape m_taped m_size x10.1 x10.2.1 x10.2.2.1 x10.2.2.2.1 x9.2.1 x9.2.2 x10.2.2.2.2 m_v m_x m_past m_kept m_acts m_images m_matchNow m_slopsNow m_matchesNow m_slopped m_seatBest m_fedBest m_slopsBest m_sawBest m_leastNow m_stableNow m_fitsNow m_someNow m_everyNow m_otherIn m_askLeft rt_seats rt_slack rt_saw rt_quarrel rt_people x11 rt_forks rt_unsures rt_trieds rt_fed rt_seat (upd rt_one rt_pairs.toNatClampNeg x2.1) (upd rt_other rt_pairs.toNatClampNeg x3.1) (upd rt_years rt_pairs.toNatClampNeg x6.1) (upd rt_kind rt_pairs.toNatClampNeg x8) rt_unsure rt_may rt_tried rt_name)) C G fX12_241 (wR_at9) rfl rfl (Nat.le_of_ble_eq_true rfl) wR_set_rt_pairs dX12_readKnown_209 (fun H locs G => ?_)
          obtain rfl := Option.some.inj hf
          exact xV_ret C G dX12_readKnown_212
        · have hf := it_t h hf
          obtain rfl := Option.some.inj hf
          exact xV_ret C G dX12_readKnown_133
      have hf := hrx9
      refine lv_icmp_ne (tgt := 121) hx hb dX12_readKnown_113 (by decide) (fun h => ?_) (fun h => ?_)
      · have hf := it_f h hf
        obtain rfl := Option.some.inj hf
        exact Jx9 _ _ _ G (lv_sub hl [1, 2, 3, 4, 0] rfl)
      · have hf := it_t h hf
        refine lv_aload_n hx hb dX12_readKnown_116 rfl (lv_at hl 1 rfl) ?_
        refine lv_iconst (v := 1) hx hb dX12_readKnown_117 (by decide) ?_
        obtain ⟨x12, hc, hf⟩ := bd_go hf
        refine xV_V C G (c_M_flaw_m_R hc) mX12_flaw kX12_114 (wR_at0) rfl ⟨Nat.le_of_ble_eq_true rfl, Nat.le_of_ble_eq_true rfl⟩ rfl hl.1 rfl (Nat.le_of_ble_eq_true rfl) ⟨Nat.le_refl _, Nat.le_refl _⟩ dX12_readKnown_118 (fun H locs G => ?_)
        obtain rfl := Option.some.inj hf
        exact Jx9 _ _ _ G (lv_sub hl [1, 2, 3, 4, 0] rfl)
    have hf := hrx8
    refine lv_if_eq (tgt := 81) hx hb dX12_readKnown_74 (by decide) (fun h => ?_) (fun h => ?_)
    · have hf := it_t h hf
      refine lv_aload_n hx hb dX12_readKnown_81 rfl (lv_at hl 1 rfl) ?_
      refine va_ldcS hx hb C.2.2.2.1 (C.2.2.2.2.2.2.2.2.2.2.1 13 (by decide)) dX12_readKnown_82 ?_
      obtain ⟨x13, hc, hf⟩ := bd_go hf
      refine xI_V C G (c_M_isWord_m_hinged_R hc) mX12_isWord kX12_110 (wR_at0) rfl ⟨Nat.le_of_ble_eq_true rfl, Nat.le_of_ble_eq_true rfl⟩ rfl hl.1 rfl (Nat.le_of_ble_eq_true rfl) ⟨Nat.le_refl _, Nat.le_refl _⟩ dX12_readKnown_84 (fun hz13 H locs G => ?_)
      refine lv_if_eq (tgt := 94) hx hb dX12_readKnown_87 (by decide) (fun h => ?_) (fun h => ?_)
      · have hf := it_t h hf
        refine lv_aload_n hx hb dX12_readKnown_94 rfl (lv_at hl 1 rfl) ?_
        refine va_ldcS hx hb C.2.2.2.1 (C.2.2.2.2.2.2.2.2.2.2.1 14 (by decide)) dX12_readKnown_95 ?_
        obtain ⟨x14, hc, hf⟩ := bd_go hf
        refine xI_V C G (c_M_isWord_m_ringed_R hc) mX12_isWord kX12_110 (wR_at0) rfl ⟨Nat.le_of_ble_eq_true rfl, Nat.le_of_ble_eq_true rfl⟩ rfl hl.1 rfl (Nat.le_of_ble_eq_true rfl) ⟨Nat.le_refl _, Nat.le_refl _⟩ dX12_readKnown_97 (fun hz14 H locs G => ?_)
        refine lv_if_eq (tgt := 107) hx hb dX12_readKnown_100 (by decide) (fun h => ?_) (fun h => ?_)
        · have hf := it_t h hf
          refine lv_iconst (v := -1) hx hb dX12_readKnown_107 (by decide) ?_
          obtain rfl := Option.some.inj hf
          exact Jx8 _ _ _ G (lv_sub hl [1, 2, 3, 0] rfl)
        · have hf := it_f h hf
          refine lv_iconst (v := 2) hx hb dX12_readKnown_103 (by decide) ?_
          refine lv_goto (tgt := 108) hx hb dX12_readKnown_104 (by decide) ?_
          obtain rfl := Option.some.inj hf
          exact Jx8 _ _ _ G (lv_sub hl [1, 2, 3, 0] rfl)
      · have hf := it_f h hf
        refine lv_iconst (v := 1) hx hb dX12_readKnown_90 (by decide) ?_
        refine lv_goto (tgt := 108) hx hb dX12_readKnown_91 (by decide) ?_
        obtain rfl := Option.some.inj hf
        exact Jx8 _ _ _ G (lv_sub hl [1, 2, 3, 0] rfl)
    · have hf := it_f h hf
      refine lv_iconst (v := 0) hx hb dX12_readKnown_77 (by decide) ?_
      refine lv_goto (tgt := 108) hx hb dX12_readKnown_78 (by decide) ?_
      obtain rfl := Option.some.inj hf
      exact Jx8 _ _ _ G (lv_sub hl [1, 2, 3, 0] rfl)
  have hf := hrx4
  obtain ⟨b15, hr, hf⟩ := bd_go hf
  cases b15 with
  | true =>
    have hf := it_t rfl hf
    have J : ∀ (H : Heap) (locs : List Loc), xG s E A (wR E ad m_thrown m_trouble m_where m_tv m_tape m_taped m_size x2.2.1 x3.2.1 x2.2.2.2.1 x2.2.2.2.2.1 x3.2.2.1 x3.2.2.2 x2.2.2.2.2.2.2.2 m_v m_x m_past m_kept m_acts m_images m_matchNow m_slopsNow m_matchesNow m_slopped m_seatBest m_fedBest m_slopsBest m_sawBest m_leastNow m_stableNow m_fitsNow m_someNow m_everyNow m_otherIn m_askLeft rt_seats rt_slack rt_saw rt_quarrel rt_people rt_pairs rt_forks rt_unsures rt_trieds rt_fed rt_seat rt_one rt_other rt_years rt_kind rt_unsure rt_may rt_tried rt_name) H locs → W p l e (xR 10 226) s m args below meth c H locs 0 0 (MQ below (xqV E A (wR E ad m_thrown m_trouble m_where m_tv m_tape m_taped m_size R0.1 R0.2.1 R0.2.2.1 R0.2.2.2.1 R0.2.2.2.2.1 R0.2.2.2.2.2.1 R0.2.2.2.2.2.2.1 m_v m_x m_past m_kept m_acts m_images m_matchNow m_slopsNow m_matchesNow m_slopped m_seatBest m_fedBest m_slopsBest m_sawBest m_leastNow m_stableNow m_fitsNow m_someNow m_everyNow m_otherIn m_askLeft rt_seats rt_slack rt_saw rt_quarrel rt_people R0.2.2.2.2.2.2.2.1 rt_forks rt_unsures rt_trieds rt_fed rt_seat R0.2.2.2.2.2.2.2.2.1 R0.2.2.2.2.2.2.2.2.2.1 R0.2.2.2.2.2.2.2.2.2.2.1 R0.2.2.2.2.2.2.2.2.2.2.2 rt_unsure rt_may rt_tried rt_name)) args s 0 0 A) (F0 m 54 ls []) := by
      intro H locs G
      obtain rfl := Option.some.inj hf
      exact Jx4 _ _ _ G (lv_sub hl [2, 1, 0] rfl)
    have hf := hr
    clear hr
    refine lv_icmp_eq (tgt := 54) hx hb dX12_readKnown_28 (by decide) (fun h => ?_) (fun h => ?_)
    · have hf := it_t h hf
      exact J _ _ G
    · have hf := it_f h hf
      refine lv_iload_n hx hb dX12_readKnown_31 rfl (lv_at hl 1 rfl) ?_
      refine lv_iload_n hx hb dX12_readKnown_32 rfl (lv_at hl 0 rfl) ?_
      refine lv_icmp_eq (tgt := 49) hx hb dX12_readKnown_33 (by decide) (fun h => ?_) (fun h => ?_)
      · have hf := it_t h hf
        exact absurd (Option.some.inj hf) (by decide)
      · have hf := it_f h hf
        refine lv_aload_n hx hb dX12_readKnown_36 rfl (lv_at hl 2 rfl) ?_
        refine x_get C G fX12_145.g (wR_at0) rfl dX12_readKnown_37 ?_
        refine lv_iload_n hx hb dX12_readKnown_40 rfl (lv_at hl 1 rfl) ?_
        refine lv_iload_n hx hb dX12_readKnown_41 rfl (lv_at hl 0 rfl) ?_
        obtain ⟨x16, hc, hf⟩ := bd_go hf
        refine xI_V C G (c_Tab_pairOf_rt_R hc) mX11_pairOf kX12_168 (wR_at9) rfl ⟨Nat.le_of_ble_eq_true rfl, Nat.le_of_ble_eq_true rfl⟩ rfl hl.1 rfl (Nat.le_of_ble_eq_true rfl) ⟨Nat.le_refl _, Nat.le_refl _⟩ dX12_readKnown_42 (fun hz H locs G => ?_)
        refine lv_iconst (v := -1) hx hb dX12_readKnown_45 (by decide) ?_
        refine lv_icmp_eq (tgt := 54) hx hb dX12_readKnown_46 (by decide) (fun h => ?_) (fun h => ?_)
        · have hf := it_t h hf
          exact J _ _ G
        · have hf := it_f h hf
          exact absurd (Option.some.inj hf) (by decide)
  | false =>
    have hf := it_f (by decide) hf
    have J : ∀ (H : Heap) (locs : List Loc), xG s E A (wR E ad m_thrown m_trouble m_where m_tv m_tape m_taped m_size x2.2.1 x3.2.1 x2.2.2.2.1 x2.2.2.2.2.1 x3.2.2.1 x3.2.2.2 x2.2.2.2.2.2.2.2 m_v m_x m_past m_kept m_acts m_images m_matchNow m_slopsNow m_matchesNow m_slopped m_seatBest m_fedBest m_slopsBest m_sawBest m_leastNow m_stableNow m_fitsNow m_someNow m_everyNow m_otherIn m_askLeft rt_seats rt_slack rt_saw rt_quarrel rt_people rt_pairs rt_forks rt_unsures rt_trieds rt_fed rt_seat rt_one rt_other rt_years rt_kind rt_unsure rt_may rt_tried rt_name) H locs → W p l e (xR 10 226) s m args below meth c H locs 0 0 (MQ below (xqV E A (wR E ad m_thrown m_trouble m_where m_tv m_tape m_taped m_size R0.1 R0.2.1 R0.2.2.1 R0.2.2.2.1 R0.2.2.2.2.1 R0.2.2.2.2.2.1 R0.2.2.2.2.2.2.1 m_v m_x m_past m_kept m_acts m_images m_matchNow m_slopsNow m_matchesNow m_slopped m_seatBest m_fedBest m_slopsBest m_sawBest m_leastNow m_stableNow m_fitsNow m_someNow m_everyNow m_otherIn m_askLeft rt_seats rt_slack rt_saw rt_quarrel rt_people R0.2.2.2.2.2.2.2.1 rt_forks rt_unsures rt_trieds rt_fed rt_seat R0.2.2.2.2.2.2.2.2.1 R0.2.2.2.2.2.2.2.2.2.1 R0.2.2.2.2.2.2.2.2.2.2.1 R0.2.2.2.2.2.2.2.2.2.2.2 rt_unsure rt_may rt_tried rt_name)) args s 0 0 A) (F0 m 49 ls []) := by
      intro H locs G
      refine lv_aload_n hx hb dX12_readKnown_49 rfl (lv_at hl 2 rfl) ?_
      refine lv_iconst (v := 3) hx hb dX12_readKnown_50 (by decide) ?_
      obtain ⟨x17, hc, hf⟩ := bd_go hf
      refine xV_V C G (c_M_flaw_m_R hc) mX12_flaw kX12_114 (wR_at0) rfl ⟨Nat.le_of_ble_eq_true rfl, Nat.le_of_ble_eq_true rfl⟩ rfl hl.1 rfl (Nat.le_of_ble_eq_true rfl) ⟨Nat.le_refl _, Nat.le_refl _⟩ dX12_readKnown_51 (fun H locs G => ?_)
      obtain rfl := Option.some.inj hf
      exact Jx4 _ _ _ G (lv_sub hl [2, 1, 0] rfl)
    have hf := hr
    clear hr
    refine lv_icmp_eq (tgt := 54) hx hb dX12_readKnown_28 (by decide) (fun h => ?_) (fun h => ?_)
    · have hf := it_t h hf
      exact absurd (Option.some.inj hf) (by decide)
    · have hf := it_f h hf
      refine lv_iload_n hx hb dX12_readKnown_31 rfl (lv_at hl 1 rfl) ?_
      refine lv_iload_n hx hb dX12_readKnown_32 rfl (lv_at hl 0 rfl) ?_
      refine lv_icmp_eq (tgt := 49) hx hb dX12_readKnown_33 (by decide) (fun h => ?_) (fun h => ?_)
      · have hf := it_t h hf
        exact J _ _ G
      · have hf := it_f h hf
        refine lv_aload_n hx hb dX12_readKnown_36 rfl (lv_at hl 2 rfl) ?_
        refine x_get C G fX12_145.g (wR_at0) rfl dX12_readKnown_37 ?_
        refine lv_iload_n hx hb dX12_readKnown_40 rfl (lv_at hl 1 rfl) ?_
        refine lv_iload_n hx hb dX12_readKnown_41 rfl (lv_at hl 0 rfl) ?_
        obtain ⟨x18, hc, hf⟩ := bd_go hf
        refine xI_V C G (c_Tab_pairOf_rt_R hc) mX11_pairOf kX12_168 (wR_at9) rfl ⟨Nat.le_of_ble_eq_true rfl, Nat.le_of_ble_eq_true rfl⟩ rfl hl.1 rfl (Nat.le_of_ble_eq_true rfl) ⟨Nat.le_refl _, Nat.le_refl _⟩ dX12_readKnown_42 (fun hz H locs G => ?_)
        refine lv_iconst (v := -1) hx hb dX12_readKnown_45 (by decide) ?_
        refine lv_icmp_eq (tgt := 54) hx hb dX12_readKnown_46 (by decide) (fun h => ?_) (fun h => ?_)
        · have hf := it_t h hf
          exact absurd (Option.some.inj hf) (by decide)
        · have hf := it_f h hf
          exact J _ _ G
set_option maxHeartbeats 4000000 in
set_option maxRecDepth 100000 in
theorem c_M_readFork_m_R {l : Launch} {E : xE} {ad : Nat → Nat} {m_thrown m_trouble m_where m_taped m_size m_spot m_sort m_place m_number m_fault m_wrongAt m_acts m_images m_matchNow m_slopsNow m_matchesNow m_fedBest m_slopsBest m_sawBest m_leastNow m_stableNow m_fitsNow m_someNow m_everyNow m_askLeft rt_seats rt_slack rt_saw rt_quarrel rt_people rt_pairs rt_forks rt_unsures rt_trieds rt_fed : Int32} {m_tv : Value} {m_tape m_v m_x m_past m_kept m_slopped m_seatBest m_otherIn rt_seat rt_one rt_other rt_years rt_kind rt_unsure rt_may rt_tried : Nat → Int32} {m_word : Int64} {rt_name : Nat → Int64} {R0 : Int32 × Int32 × Int32 × Int32 × Int32 × Int32 × Int64 × Int32} (hf : f_M_readFork m_tape m_size m_spot m_sort m_place m_number m_fault m_wrongAt m_word rt_seats rt_forks = some R0) : xV l E yX12_readFork cX12_readFork 2 none 3 65 [.ref (ad 0)] (wR E ad m_thrown m_trouble m_where m_tv m_tape m_taped m_size m_spot m_sort m_place m_number m_fault m_wrongAt m_word m_v m_x m_past m_kept m_acts m_images m_matchNow m_slopsNow m_matchesNow m_slopped m_seatBest m_fedBest m_slopsBest m_sawBest m_leastNow m_stableNow m_fitsNow m_someNow m_everyNow m_otherIn m_askLeft rt_seats rt_slack rt_saw rt_quarrel rt_people rt_pairs rt_forks rt_unsures rt_trieds rt_fed rt_seat rt_one rt_other rt_years rt_kind rt_unsure rt_may rt_tried rt_name) (wR E ad m_thrown m_trouble m_where m_tv m_tape m_taped m_size R0.1 R0.2.1 R0.2.2.1 R0.2.2.2.1 R0.2.2.2.2.1 R0.2.2.2.2.2.1 R0.2.2.2.2.2.2.1 m_v m_x m_past m_kept m_acts m_images m_matchNow m_slopsNow m_matchesNow m_slopped m_seatBest m_fedBest m_slopsBest m_sawBest m_leastNow m_stableNow m_fitsNow m_someNow m_everyNow m_otherIn m_askLeft rt_seats rt_slack rt_saw rt_quarrel rt_people rt_pairs R0.2.2.2.2.2.2.2 rt_unsures rt_trieds rt_fed rt_seat rt_one rt_other rt_years rt_kind rt_unsure rt_may rt_tried rt_name) := by
  refine xV_of (by decide) (Nat.le_of_ble_eq_true rfl) (fun p e s m args below meth c A C ls hl G => ?_)
  have hx := C.1
  have hb := C.2.1
  have hl : lv_has ls 2 [(0, .ref (ad 0))] := hl
  unfold f_M_readFork at hf
  refine lv_aload_n hx hb dX12_readFork_0 rfl (lv_at hl 0 rfl) ?_
  refine lv_aload_n hx hb dX12_readFork_1 rfl (lv_at hl 0 rfl) ?_
  refine x_get C G fX12_145.g (wR_at0) rfl dX12_readFork_2 ?_
  refine x_get C G fX12_231.g (wR_at9) rfl dX12_readFork_5 ?_
  obtain ⟨x1, hc, hf⟩ := bd_go hf
  refine xI_S C G (c_M_bits_any hc) mX12_bits kX12_234 ⟨Nat.le_of_ble_eq_true rfl, Nat.le_of_ble_eq_true rfl⟩ rfl hl.1 rfl (Nat.le_of_ble_eq_true rfl) ⟨Nat.le_refl _, Nat.le_refl _⟩ dX12_readFork_8 (fun hz H locs G => ?_)
  refine lv_iconst (v := 4) hx hb dX12_readFork_11 (by decide) ?_
  obtain ⟨x2, hc, hf⟩ := bd_go hf
  refine xV_V C G (c_M_lineBegins_m_R hc) mX12_lineBegins kX12_215 (wR_at0) rfl ⟨Nat.le_of_ble_eq_true rfl, Nat.le_of_ble_eq_true rfl⟩ rfl hl.1 rfl (Nat.le_of_ble_eq_true rfl) ⟨Nat.le_refl _, Nat.le_refl _⟩ dX12_readFork_12 (fun H locs G => ?_)
  refine lv_aload_n hx hb dX12_readFork_15 rfl (lv_at hl 0 rfl) ?_
  refine lv_iconst (v := 0) hx hb dX12_readFork_16 (by decide) ?_
  refine lv_aload_n hx hb dX12_readFork_17 rfl (lv_at hl 0 rfl) ?_
  refine x_get C G fX12_145.g (wR_at0) rfl dX12_readFork_18 ?_
  refine x_get C G fX12_149.g (wR_at9) rfl dX12_readFork_21 ?_
  refine lv_iconst (v := 1) hx hb dX12_readFork_24 (by decide) ?_
  refine lv_isub hx hb dX12_readFork_25 ?_
  obtain ⟨x3, hc, hf⟩ := bd_go hf
  refine xI_V C G (c_M_wholeAt_m_R hc) mX12_wholeAt kX12_122 (wR_at0) rfl ⟨Nat.le_of_ble_eq_true rfl, Nat.le_of_ble_eq_true rfl⟩ rfl hl.1 rfl (Nat.le_of_ble_eq_true rfl) ⟨Nat.le_refl _, Nat.le_refl _⟩ dX12_readFork_26 (fun hz H locs G => ?_)
  refine lv_istore_n (lv' := [(1, .int x3.1), (0, .ref (ad 0))]) hx hb dX12_readFork_29 rfl hl (by decide) rfl (fun ls hl => ?_)
  refine lv_aload_n hx hb dX12_readFork_30 rfl (lv_at hl 1 rfl) ?_
  refine x_get C G fX12_71.g (wR_at0) rfl dX12_readFork_31 ?_
  refine lv_iconst (v := 5) hx hb dX12_readFork_34 (by decide) ?_
  obtain ⟨x4, hrx4, hf⟩ := bd_go hf
  have Jx4 : ∀ (H : Heap) (locs : List Loc) (ls : Array Slot), xG s E A (wR E ad m_thrown m_trouble m_where m_tv m_tape m_taped m_size x2.1 x4.1 x2.2.2.1 x2.2.2.2.1 x4.2.1 x4.2.2 x2.2.2.2.2.2.2 m_v m_x m_past m_kept m_acts m_images m_matchNow m_slopsNow m_matchesNow m_slopped m_seatBest m_fedBest m_slopsBest m_sawBest m_leastNow m_stableNow m_fitsNow m_someNow m_everyNow m_otherIn m_askLeft rt_seats rt_slack rt_saw rt_quarrel rt_people rt_pairs rt_forks rt_unsures rt_trieds rt_fed rt_seat rt_one rt_other rt_years rt_kind rt_unsure rt_may rt_tried rt_name) H locs → lv_has ls 2 [(0, .ref (ad 0)), (1, .int x3.1)] → W p l e (xR 3 65) s m args below meth c H locs 0 0 (MQ below (xqV E A (wR E ad m_thrown m_trouble m_where m_tv m_tape m_taped m_size R0.1 R0.2.1 R0.2.2.1 R0.2.2.2.1 R0.2.2.2.2.1 R0.2.2.2.2.2.1 R0.2.2.2.2.2.2.1 m_v m_x m_past m_kept m_acts m_images m_matchNow m_slopsNow m_matchesNow m_slopped m_seatBest m_fedBest m_slopsBest m_sawBest m_leastNow m_stableNow m_fitsNow m_someNow m_everyNow m_otherIn m_askLeft rt_seats rt_slack rt_saw rt_quarrel rt_people rt_pairs R0.2.2.2.2.2.2.2 rt_unsures rt_trieds rt_fed rt_seat rt_one rt_other rt_years rt_kind rt_unsure rt_may rt_tried rt_name)) args s 0 0 A) (F0 m 57 ls []) := by
    intro H locs ls G hl
    refine lv_aload_n hx hb dX12_readFork_57 rfl (lv_at hl 0 rfl) ?_
    obtain ⟨x5, hc, hf⟩ := bd_go hf
    refine xV_V C G (c_M_goesOn_m_R hc) mX12_goesOn kX12_107 (wR_at0) rfl ⟨Nat.le_of_ble_eq_true rfl, Nat.le_of_ble_eq_true rfl⟩ rfl hl.1 rfl (Nat.le_of_ble_eq_true rfl) ⟨Nat.le_refl _, Nat.le_refl _⟩ dX12_readFork_58 (fun H locs G => ?_)
    refine lv_aload_n hx hb dX12_readFork_61 rfl (lv_at hl 0 rfl) ?_
    refine x_get C G fX12_71.g (wR_at0) rfl dX12_readFork_62 ?_
    refine lv_iconst (v := 5) hx hb dX12_readFork_65 (by decide) ?_
    refine lv_icmp_eq (tgt := 84) hx hb dX12_readFork_66 (by decide) (fun h => ?_) (fun h => ?_)
    · have hf := it_t h hf
      obtain rfl := Option.some.inj hf
      exact xV_ret C G dX12_readFork_84
    · have hf := it_f h hf
      refine lv_aload_n hx hb dX12_readFork_69 rfl (lv_at hl 0 rfl) ?_
      refine x_get C G fX12_145.g (wR_at0) rfl dX12_readFork_70 ?_
      refine lv_dup hx hb dX12_readFork_73 rfl ?_
      refine x_get C G fX12_231.g (wR_at9) rfl dX12_readFork_74 ?_
      refine lv_iconst (v := 1) hx hb dX12_readFork_77 (by decide) ?_
      refine lv_iload_n hx hb dX12_readFork_78 rfl (lv_at hl 1 rfl) ?_
      refine lv_ishl hx hb dX12_readFork_79 ?_
      refine lv_ior hx hb dX12_readFork_80 ?_
      refine lv_topi (fun x6 ex6 => ?_)
      have hf := lt_go ex6 hf
      refine x_put (ws' := (wR E ad m_thrown m_trouble m_where m_tv m_tape m_taped m_size x5.1 x5.2.1 x5.2.2.1 x5.2.2.2.1 x4.2.1 x4.2.2 x5.2.2.2.2 m_v m_x m_past m_kept m_acts m_images m_matchNow m_slopsNow m_matchesNow m_slopped m_seatBest m_fedBest m_slopsBest m_sawBest m_leastNow m_stableNow m_fitsNow m_someNow m_everyNow m_otherIn m_askLeft rt_seats rt_slack rt_saw rt_quarrel rt_people rt_pairs x6 rt_unsures rt_trieds rt_fed rt_seat rt_one rt_other rt_years rt_kind rt_unsure rt_may rt_tried rt_name)) C G fX12_231 (wR_at9) rfl rfl (Nat.le_of_ble_eq_true rfl) wR_set_rt_forks dX12_readFork_81 (fun H locs G => ?_)
      obtain rfl := Option.some.inj hf
      exact xV_ret C G dX12_readFork_84
  have hf := hrx4
  obtain ⟨b7, hr, hf⟩ := bd_go hf
  cases b7 with
  | true =>
    have hf := it_t rfl hf
    have J : ∀ (H : Heap) (locs : List Loc), xG s E A (wR E ad m_thrown m_trouble m_where m_tv m_tape m_taped m_size x2.1 x3.2.1 x2.2.2.1 x2.2.2.2.1 x3.2.2.1 x3.2.2.2 x2.2.2.2.2.2.2 m_v m_x m_past m_kept m_acts m_images m_matchNow m_slopsNow m_matchesNow m_slopped m_seatBest m_fedBest m_slopsBest m_sawBest m_leastNow m_stableNow m_fitsNow m_someNow m_everyNow m_otherIn m_askLeft rt_seats rt_slack rt_saw rt_quarrel rt_people rt_pairs rt_forks rt_unsures rt_trieds rt_fed rt_seat rt_one rt_other rt_years rt_kind rt_unsure rt_may rt_tried rt_name) H locs → W p l e (xR 3 65) s m args below meth c H locs 0 0 (MQ below (xqV E A (wR E ad m_thrown m_trouble m_where m_tv m_tape m_taped m_size R0.1 R0.2.1 R0.2.2.1 R0.2.2.2.1 R0.2.2.2.2.1 R0.2.2.2.2.2.1 R0.2.2.2.2.2.2.1 m_v m_x m_past m_kept m_acts m_images m_matchNow m_slopsNow m_matchesNow m_slopped m_seatBest m_fedBest m_slopsBest m_sawBest m_leastNow m_stableNow m_fitsNow m_someNow m_everyNow m_otherIn m_askLeft rt_seats rt_slack rt_saw rt_quarrel rt_people rt_pairs R0.2.2.2.2.2.2.2 rt_unsures rt_trieds rt_fed rt_seat rt_one rt_other rt_years rt_kind rt_unsure rt_may rt_tried rt_name)) args s 0 0 A) (F0 m 57 ls []) := by
      intro H locs G
      obtain rfl := Option.some.inj hf
      exact Jx4 _ _ _ G (lv_sub hl [1, 0] rfl)
    have hf := hr
    clear hr
    refine lv_icmp_eq (tgt := 57) hx hb dX12_readFork_35 (by decide) (fun h => ?_) (fun h => ?_)
    · have hf := it_t h hf
      exact J _ _ G
    · have hf := it_f h hf
      refine lv_aload_n hx hb dX12_readFork_38 rfl (lv_at hl 1 rfl) ?_
      refine x_get C G fX12_145.g (wR_at0) rfl dX12_readFork_39 ?_
      refine x_get C G fX12_231.g (wR_at9) rfl dX12_readFork_42 ?_
      refine lv_iload_n hx hb dX12_readFork_45 rfl (lv_at hl 0 rfl) ?_
      obtain ⟨x8, hc, hf⟩ := bd_go hf
      refine xI_S C G (c_M_bit_any hc) mX12_bit kX12_237 ⟨Nat.le_of_ble_eq_true rfl, Nat.le_of_ble_eq_true rfl⟩ rfl hl.1 rfl (Nat.le_of_ble_eq_true rfl) ⟨Nat.le_refl _, Nat.le_refl _⟩ dX12_readFork_46 (fun hz8 H locs G => ?_)
      refine lv_if_eq (tgt := 57) hx hb dX12_readFork_49 (by decide) (fun h => ?_) (fun h => ?_)
      · have hf := it_t h hf
        exact J _ _ G
      · have hf := it_f h hf
        exact absurd (Option.some.inj hf) (by decide)
  | false =>
    have hf := it_f (by decide) hf
    have J : ∀ (H : Heap) (locs : List Loc), xG s E A (wR E ad m_thrown m_trouble m_where m_tv m_tape m_taped m_size x2.1 x3.2.1 x2.2.2.1 x2.2.2.2.1 x3.2.2.1 x3.2.2.2 x2.2.2.2.2.2.2 m_v m_x m_past m_kept m_acts m_images m_matchNow m_slopsNow m_matchesNow m_slopped m_seatBest m_fedBest m_slopsBest m_sawBest m_leastNow m_stableNow m_fitsNow m_someNow m_everyNow m_otherIn m_askLeft rt_seats rt_slack rt_saw rt_quarrel rt_people rt_pairs rt_forks rt_unsures rt_trieds rt_fed rt_seat rt_one rt_other rt_years rt_kind rt_unsure rt_may rt_tried rt_name) H locs → W p l e (xR 3 65) s m args below meth c H locs 0 0 (MQ below (xqV E A (wR E ad m_thrown m_trouble m_where m_tv m_tape m_taped m_size R0.1 R0.2.1 R0.2.2.1 R0.2.2.2.1 R0.2.2.2.2.1 R0.2.2.2.2.2.1 R0.2.2.2.2.2.2.1 m_v m_x m_past m_kept m_acts m_images m_matchNow m_slopsNow m_matchesNow m_slopped m_seatBest m_fedBest m_slopsBest m_sawBest m_leastNow m_stableNow m_fitsNow m_someNow m_everyNow m_otherIn m_askLeft rt_seats rt_slack rt_saw rt_quarrel rt_people rt_pairs R0.2.2.2.2.2.2.2 rt_unsures rt_trieds rt_fed rt_seat rt_one rt_other rt_years rt_kind rt_unsure rt_may rt_tried rt_name)) args s 0 0 A) (F0 m 52 ls []) := by
      intro H locs G
      refine lv_aload_n hx hb dX12_readFork_52 rfl (lv_at hl 1 rfl) ?_
      refine lv_iconst (v := 3) hx hb dX12_readFork_53 (by decide) ?_
      obtain ⟨x9, hc, hf⟩ := bd_go hf
      refine xV_V C G (c_M_flaw_m_R hc) mX12_flaw kX12_114 (wR_at0) rfl ⟨Nat.le_of_ble_eq_true rfl, Nat.le_of_ble_eq_true rfl⟩ rfl hl.1 rfl (Nat.le_of_ble_eq_true rfl) ⟨Nat.le_refl _, Nat.le_refl _⟩ dX12_readFork_54 (fun H locs G => ?_)
      obtain rfl := Option.some.inj hf
      exact Jx4 _ _ _ G (lv_sub hl [1, 0] rfl)
    have hf := hr
    clear hr
    refine lv_icmp_eq (tgt := 57) hx hb dX12_readFork_35 (by decide) (fun h => ?_) (fun h => ?_)
    · have hf := it_t h hf
      exact absurd (Option.some.inj hf) (by decide)
    · have hf := it_f h hf
      refine lv_aload_n hx hb dX12_readFork_38 rfl (lv_at hl 1 rfl) ?_
      refine x_get C G fX12_145.g (wR_at0) rfl dX12_readFork_39 ?_
      refine x_get C G fX12_231.g (wR_at9) rfl dX12_readFork_42 ?_
      refine lv_iload_n hx hb dX12_readFork_45 rfl (lv_at hl 0 rfl) ?_
      obtain ⟨x10, hc, hf⟩ := bd_go hf
      refine xI_S C G (c_M_bit_any hc) mX12_bit kX12_237 ⟨Nat.le_of_ble_eq_true rfl, Nat.le_of_ble_eq_true rfl⟩ rfl hl.1 rfl (Nat.le_of_ble_eq_true rfl) ⟨Nat.le_refl _, Nat.le_refl _⟩ dX12_readFork_46 (fun hz10 H locs G => ?_)
      refine lv_if_eq (tgt := 57) hx hb dX12_readFork_49 (by decide) (fun h => ?_) (fun h => ?_)
      · have hf := it_t h hf
        exact absurd (Option.some.inj hf) (by decide)
      · have hf := it_f h hf
        exact J _ _ G
set_option maxHeartbeats 4000000 in
set_option maxRecDepth 100000 in
theorem c_M_isWord_m_at_R {l : Launch} {E : xE} {ad : Nat → Nat} {m_thrown m_trouble m_where m_taped m_size m_spot m_sort m_place m_number m_fault m_wrongAt m_acts m_images m_matchNow m_slopsNow m_matchesNow m_fedBest m_slopsBest m_sawBest m_leastNow m_stableNow m_fitsNow m_someNow m_everyNow m_askLeft rt_seats rt_slack rt_saw rt_quarrel rt_people rt_pairs rt_forks rt_unsures rt_trieds rt_fed : Int32} {m_tv : Value} {m_tape m_v m_x m_past m_kept m_slopped m_seatBest m_otherIn rt_seat rt_one rt_other rt_years rt_kind rt_unsure rt_may rt_tried : Nat → Int32} {m_word : Int64} {rt_name : Nat → Int64} {R0 : Int32} (hf : f_M_isWord (52 : Int64) m_sort m_word = some R0) : xI l E yX12_isWord cX12_isWord 2 (some .boolean) 6 143 [.ref (ad 0), .ref (E.2.2.1 10)] (wR E ad m_thrown m_trouble m_where m_tv m_tape m_taped m_size m_spot m_sort m_place m_number m_fault m_wrongAt m_word m_v m_x m_past m_kept m_acts m_images m_matchNow m_slopsNow m_matchesNow m_slopped m_seatBest m_fedBest m_slopsBest m_sawBest m_leastNow m_stableNow m_fitsNow m_someNow m_everyNow m_otherIn m_askLeft rt_seats rt_slack rt_saw rt_quarrel rt_people rt_pairs rt_forks rt_unsures rt_trieds rt_fed rt_seat rt_one rt_other rt_years rt_kind rt_unsure rt_may rt_tried rt_name) (wR E ad m_thrown m_trouble m_where m_tv m_tape m_taped m_size m_spot m_sort m_place m_number m_fault m_wrongAt m_word m_v m_x m_past m_kept m_acts m_images m_matchNow m_slopsNow m_matchesNow m_slopped m_seatBest m_fedBest m_slopsBest m_sawBest m_leastNow m_stableNow m_fitsNow m_someNow m_everyNow m_otherIn m_askLeft rt_seats rt_slack rt_saw rt_quarrel rt_people rt_pairs rt_forks rt_unsures rt_trieds rt_fed rt_seat rt_one rt_other rt_years rt_kind rt_unsure rt_may rt_tried rt_name) R0 := by
  refine xI_of (by decide) (Nat.le_of_ble_eq_true rfl) (fun p e s m args below meth c A C ls hl G => ?_)
  have hx := C.1
  have hb := C.2.1
  have hl : lv_has ls 2 [(0, .ref (ad 0)), (1, .ref (E.2.2.1 10))] := hl
  unfold f_M_isWord at hf
  refine lv_aload_n hx hb dX12_isWord_0 rfl (lv_at hl 0 rfl) ?_
  refine x_get C G fX12_71.g (wR_at0) rfl dX12_isWord_1 ?_
  refine lv_iconst (v := 2) hx hb dX12_isWord_4 (by decide) ?_
  obtain ⟨b1, hr, hf⟩ := bd_go hf
  cases b1 with
  | true =>
    have hf := it_t rfl hf
    have J : ∀ (H : Heap) (locs : List Loc), xG s E A (wR E ad m_thrown m_trouble m_where m_tv m_tape m_taped m_size m_spot m_sort m_place m_number m_fault m_wrongAt m_word m_v m_x m_past m_kept m_acts m_images m_matchNow m_slopsNow m_matchesNow m_slopped m_seatBest m_fedBest m_slopsBest m_sawBest m_leastNow m_stableNow m_fitsNow m_someNow m_everyNow m_otherIn m_askLeft rt_seats rt_slack rt_saw rt_quarrel rt_people rt_pairs rt_forks rt_unsures rt_trieds rt_fed rt_seat rt_one rt_other rt_years rt_kind rt_unsure rt_may rt_tried rt_name) H locs → W p l e (xR 6 143) s m args below meth c H locs 0 0 (MQ below (xqI E A (wR E ad m_thrown m_trouble m_where m_tv m_tape m_taped m_size m_spot m_sort m_place m_number m_fault m_wrongAt m_word m_v m_x m_past m_kept m_acts m_images m_matchNow m_slopsNow m_matchesNow m_slopped m_seatBest m_fedBest m_slopsBest m_sawBest m_leastNow m_stableNow m_fitsNow m_someNow m_everyNow m_otherIn m_askLeft rt_seats rt_slack rt_saw rt_quarrel rt_people rt_pairs rt_forks rt_unsures rt_trieds rt_fed rt_seat rt_one rt_other rt_years rt_kind rt_unsure rt_may rt_tried rt_name) (some .boolean) R0) args s 0 0 A) (F0 m 24 ls []) := by
      intro H locs G
      refine lv_iconst (v := 0) hx hb dX12_isWord_24 (by decide) ?_
      obtain rfl := Option.some.inj hf
      exact xI_ret (r := (0 : Int32)) C G rfl dX12_isWord_25
    have hf := hr
    clear hr
    refine lv_icmp_ne (tgt := 24) hx hb dX12_isWord_5 (by decide) (fun h => ?_) (fun h => ?_)
    · have hf := it_f h hf
      exact J _ _ G
    · have hf := it_t h hf
      refine lv_aload_n hx hb dX12_isWord_8 rfl (lv_at hl 0 rfl) ?_
      refine x_get C G fX12_87.g (wR_at0) rfl dX12_isWord_9 ?_
      refine lv_aload_n hx hb dX12_isWord_12 rfl (lv_at hl 1 rfl) ?_
      refine xL_S C G (c_M_packed 10 (by decide) (52 : Int64) (by decide +kernel)) mX12_packed kX12_103 ⟨Nat.le_of_ble_eq_true rfl, Nat.le_of_ble_eq_true rfl⟩ rfl hl.1 rfl (Nat.le_of_ble_eq_true rfl) ⟨Nat.le_refl _, Nat.le_refl _⟩ dX12_isWord_13 (fun H locs G => ?_)
      refine W.lcmp hx hb dX12_isWord_16 ?_
      refine lv_if_ne (tgt := 24) hx hb dX12_isWord_17 (by decide) (fun h => ?_) (fun h => ?_)
      · have hf := it_f h hf
        exact J _ _ G
      · have hf := it_t h hf
        exact absurd (Option.some.inj hf) (by decide)
  | false =>
    have hf := it_f (by decide) hf
    have J : ∀ (H : Heap) (locs : List Loc), xG s E A (wR E ad m_thrown m_trouble m_where m_tv m_tape m_taped m_size m_spot m_sort m_place m_number m_fault m_wrongAt m_word m_v m_x m_past m_kept m_acts m_images m_matchNow m_slopsNow m_matchesNow m_slopped m_seatBest m_fedBest m_slopsBest m_sawBest m_leastNow m_stableNow m_fitsNow m_someNow m_everyNow m_otherIn m_askLeft rt_seats rt_slack rt_saw rt_quarrel rt_people rt_pairs rt_forks rt_unsures rt_trieds rt_fed rt_seat rt_one rt_other rt_years rt_kind rt_unsure rt_may rt_tried rt_name) H locs → W p l e (xR 6 143) s m args below meth c H locs 0 0 (MQ below (xqI E A (wR E ad m_thrown m_trouble m_where m_tv m_tape m_taped m_size m_spot m_sort m_place m_number m_fault m_wrongAt m_word m_v m_x m_past m_kept m_acts m_images m_matchNow m_slopsNow m_matchesNow m_slopped m_seatBest m_fedBest m_slopsBest m_sawBest m_leastNow m_stableNow m_fitsNow m_someNow m_everyNow m_otherIn m_askLeft rt_seats rt_slack rt_saw rt_quarrel rt_people rt_pairs rt_forks rt_unsures rt_trieds rt_fed rt_seat rt_one rt_other rt_years rt_kind rt_unsure rt_may rt_tried rt_name) (some .boolean) R0) args s 0 0 A) (F0 m 20 ls []) := by
      intro H locs G
      refine lv_iconst (v := 1) hx hb dX12_isWord_20 (by decide) ?_
      refine lv_goto (tgt := 25) hx hb dX12_isWord_21 (by decide) ?_
      obtain rfl := Option.some.inj hf
      exact xI_ret (r := (1 : Int32)) C G rfl dX12_isWord_25
    have hf := hr
    clear hr
    refine lv_icmp_ne (tgt := 24) hx hb dX12_isWord_5 (by decide) (fun h => ?_) (fun h => ?_)
    · have hf := it_f h hf
      exact absurd (Option.some.inj hf) (by decide)
    · have hf := it_t h hf
      refine lv_aload_n hx hb dX12_isWord_8 rfl (lv_at hl 0 rfl) ?_
      refine x_get C G fX12_87.g (wR_at0) rfl dX12_isWord_9 ?_
      refine lv_aload_n hx hb dX12_isWord_12 rfl (lv_at hl 1 rfl) ?_
      refine xL_S C G (c_M_packed 10 (by decide) (52 : Int64) (by decide +kernel)) mX12_packed kX12_103 ⟨Nat.le_of_ble_eq_true rfl, Nat.le_of_ble_eq_true rfl⟩ rfl hl.1 rfl (Nat.le_of_ble_eq_true rfl) ⟨Nat.le_refl _, Nat.le_refl _⟩ dX12_isWord_13 (fun H locs G => ?_)
      refine W.lcmp hx hb dX12_isWord_16 ?_
      refine lv_if_ne (tgt := 24) hx hb dX12_isWord_17 (by decide) (fun h => ?_) (fun h => ?_)
      · have hf := it_f h hf
        exact absurd (Option.some.inj hf) (by decide)
      · have hf := it_t h hf
        exact J _ _ G
set_option maxHeartbeats 4000000 in
set_option maxRecDepth 100000 in
theorem c_M_needs_m_at_R {l : Launch} {E : xE} {ad : Nat → Nat} {m_thrown m_trouble m_where m_taped m_size m_spot m_sort m_place m_number m_fault m_wrongAt m_acts m_images m_matchNow m_slopsNow m_matchesNow m_fedBest m_slopsBest m_sawBest m_leastNow m_stableNow m_fitsNow m_someNow m_everyNow m_askLeft rt_seats rt_slack rt_saw rt_quarrel rt_people rt_pairs rt_forks rt_unsures rt_trieds rt_fed : Int32} {m_tv : Value} {m_tape m_v m_x m_past m_kept m_slopped m_seatBest m_otherIn rt_seat rt_one rt_other rt_years rt_kind rt_unsure rt_may rt_tried : Nat → Int32} {m_word : Int64} {rt_name : Nat → Int64} {R0 : Int32 × Int32 × Int32 × Int32 × Int32 × Int32 × Int64} (hf : f_M_needs (52 : Int64) m_tape m_size m_spot m_sort m_place m_number m_fault m_wrongAt m_word = some R0) : xV l E yX12_needs cX12_needs 2 none 7 164 [.ref (ad 0), .ref (E.2.2.1 10)] (wR E ad m_thrown m_trouble m_where m_tv m_tape m_taped m_size m_spot m_sort m_place m_number m_fault m_wrongAt m_word m_v m_x m_past m_kept m_acts m_images m_matchNow m_slopsNow m_matchesNow m_slopped m_seatBest m_fedBest m_slopsBest m_sawBest m_leastNow m_stableNow m_fitsNow m_someNow m_everyNow m_otherIn m_askLeft rt_seats rt_slack rt_saw rt_quarrel rt_people rt_pairs rt_forks rt_unsures rt_trieds rt_fed rt_seat rt_one rt_other rt_years rt_kind rt_unsure rt_may rt_tried rt_name) (wR E ad m_thrown m_trouble m_where m_tv m_tape m_taped m_size R0.1 R0.2.1 R0.2.2.1 R0.2.2.2.1 R0.2.2.2.2.1 R0.2.2.2.2.2.1 R0.2.2.2.2.2.2 m_v m_x m_past m_kept m_acts m_images m_matchNow m_slopsNow m_matchesNow m_slopped m_seatBest m_fedBest m_slopsBest m_sawBest m_leastNow m_stableNow m_fitsNow m_someNow m_everyNow m_otherIn m_askLeft rt_seats rt_slack rt_saw rt_quarrel rt_people rt_pairs rt_forks rt_unsures rt_trieds rt_fed rt_seat rt_one rt_other rt_years rt_kind rt_unsure rt_may rt_tried rt_name) := by
  refine xV_of (by decide) (Nat.le_of_ble_eq_true rfl) (fun p e s m args below meth c A C ls hl G => ?_)
  have hx := C.1
  have hb := C.2.1
  have hl : lv_has ls 2 [(0, .ref (ad 0)), (1, .ref (E.2.2.1 10))] := hl
  unfold f_M_needs at hf
  refine lv_aload_n hx hb dX12_needs_0 rfl (lv_at hl 0 rfl) ?_
  refine lv_aload_n hx hb dX12_needs_1 rfl (lv_at hl 1 rfl) ?_
  obtain ⟨x1, hc, hf⟩ := bd_go hf
  refine xI_V C G (c_M_isWord_m_at_R hc) mX12_isWord kX12_110 (wR_at0) rfl ⟨Nat.le_of_ble_eq_true rfl, Nat.le_of_ble_eq_true rfl⟩ rfl hl.1 rfl (Nat.le_of_ble_eq_true rfl) ⟨Nat.le_refl _, Nat.le_refl _⟩ dX12_needs_2 (fun hz1 H locs G => ?_)
  obtain ⟨x2, hrx2, hf⟩ := bd_go hf
  have Jx2 : ∀ (H : Heap) (locs : List Loc) (ls : Array Slot), xG s E A (wR E ad m_thrown m_trouble m_where m_tv m_tape m_taped m_size m_spot x2.1 m_place m_number x2.2.1 x2.2.2 m_word m_v m_x m_past m_kept m_acts m_images m_matchNow m_slopsNow m_matchesNow m_slopped m_seatBest m_fedBest m_slopsBest m_sawBest m_leastNow m_stableNow m_fitsNow m_someNow m_everyNow m_otherIn m_askLeft rt_seats rt_slack rt_saw rt_quarrel rt_people rt_pairs rt_forks rt_unsures rt_trieds rt_fed rt_seat rt_one rt_other rt_years rt_kind rt_unsure rt_may rt_tried rt_name) H locs → lv_has ls 2 [(0, .ref (ad 0))] → W p l e (xR 7 164) s m args below meth c H locs 0 0 (MQ below (xqV E A (wR E ad m_thrown m_trouble m_where m_tv m_tape m_taped m_size R0.1 R0.2.1 R0.2.2.1 R0.2.2.2.1 R0.2.2.2.2.1 R0.2.2.2.2.2.1 R0.2.2.2.2.2.2 m_v m_x m_past m_kept m_acts m_images m_matchNow m_slopsNow m_matchesNow m_slopped m_seatBest m_fedBest m_slopsBest m_sawBest m_leastNow m_stableNow m_fitsNow m_someNow m_everyNow m_otherIn m_askLeft rt_seats rt_slack rt_saw rt_quarrel rt_people rt_pairs rt_forks rt_unsures rt_trieds rt_fed rt_seat rt_one rt_other rt_years rt_kind rt_unsure rt_may rt_tried rt_name)) args s 0 0 A) (F0 m 13 ls []) := by
    intro H locs ls G hl
    refine lv_aload_n hx hb dX12_needs_13 rfl (lv_at hl 0 rfl) ?_
    obtain ⟨x3, hc, hf⟩ := bd_go hf
    refine xV_V C G (c_M_goesOn_m_R hc) mX12_goesOn kX12_107 (wR_at0) rfl ⟨Nat.le_of_ble_eq_true rfl, Nat.le_of_ble_eq_true rfl⟩ rfl hl.1 rfl (Nat.le_of_ble_eq_true rfl) ⟨Nat.le_refl _, Nat.le_refl _⟩ dX12_needs_14 (fun H locs G => ?_)
    obtain rfl := Option.some.inj hf
    exact xV_ret C G dX12_needs_17
  have hf := hrx2
  refine lv_if_ne (tgt := 13) hx hb dX12_needs_5 (by decide) (fun h => ?_) (fun h => ?_)
  · have hf := it_f h hf
    obtain rfl := Option.some.inj hf
    exact Jx2 _ _ _ G (lv_sub hl [0] rfl)
  · have hf := it_t h hf
    refine lv_aload_n hx hb dX12_needs_8 rfl (lv_at hl 0 rfl) ?_
    refine lv_iconst (v := 1) hx hb dX12_needs_9 (by decide) ?_
    obtain ⟨x4, hc, hf⟩ := bd_go hf
    refine xV_V C G (c_M_flaw_m_R hc) mX12_flaw kX12_114 (wR_at0) rfl ⟨Nat.le_of_ble_eq_true rfl, Nat.le_of_ble_eq_true rfl⟩ rfl hl.1 rfl (Nat.le_of_ble_eq_true rfl) ⟨Nat.le_refl _, Nat.le_refl _⟩ dX12_needs_10 (fun H locs G => ?_)
    obtain rfl := Option.some.inj hf
    exact Jx2 _ _ _ G (lv_sub hl [0] rfl)
set_option maxHeartbeats 4000000 in
set_option maxRecDepth 100000 in
theorem w_Tab_isTaken_rt_R_L2 {p : Program} {l : Launch} {e : Env} {s : State} {m : MethodId} {args : Array Value} {below : List Frame} {meth : Method} {c : Code} {A : Nat → Prop} {E : xE} {ad : Nat → Nat} {m_thrown m_trouble m_where m_taped m_size m_spot m_sort m_place m_number m_fault m_wrongAt m_acts m_images m_matchNow m_slopsNow m_matchesNow m_fedBest m_slopsBest m_sawBest m_leastNow m_stableNow m_fitsNow m_someNow m_everyNow m_askLeft rt_seats rt_slack rt_saw rt_quarrel rt_people rt_pairs rt_forks rt_unsures rt_trieds rt_fed : Int32} {m_tv : Value} {m_tape m_v m_x m_past m_kept m_slopped m_seatBest m_otherIn rt_seat rt_one rt_other rt_years rt_kind rt_unsure rt_may rt_tried : Nat → Int32} {m_word : Int64} {rt_name : Nat → Int64} {l1 : Int32} {o : (Int32) ⊕ (Unit)} {R0 : Int32} (C : xC p s m args meth c cX11_isTaken 3 RX11 E A (some .boolean)) (Jr : ∀ r, o = .inl r → r = R0) (J : ∀ t, o = .inr t → ∀ (H : Heap) (locs : List Loc) (ls : Array Slot), xG s E A (wR E ad m_thrown m_trouble m_where m_tv m_tape m_taped m_size m_spot m_sort m_place m_number m_fault m_wrongAt m_word m_v m_x m_past m_kept m_acts m_images m_matchNow m_slopsNow m_matchesNow m_slopped m_seatBest m_fedBest m_slopsBest m_sawBest m_leastNow m_stableNow m_fitsNow m_someNow m_everyNow m_otherIn m_askLeft rt_seats rt_slack rt_saw rt_quarrel rt_people rt_pairs rt_forks rt_unsures rt_trieds rt_fed rt_seat rt_one rt_other rt_years rt_kind rt_unsure rt_may rt_tried rt_name) H locs → lv_has ls 3 [] → W p l e (xR 0 0) s m args below meth c H locs 0 0 (MQ below (xqI E A (wR E ad m_thrown m_trouble m_where m_tv m_tape m_taped m_size m_spot m_sort m_place m_number m_fault m_wrongAt m_word m_v m_x m_past m_kept m_acts m_images m_matchNow m_slopsNow m_matchesNow m_slopped m_seatBest m_fedBest m_slopsBest m_sawBest m_leastNow m_stableNow m_fitsNow m_someNow m_everyNow m_otherIn m_askLeft rt_seats rt_slack rt_saw rt_quarrel rt_people rt_pairs rt_forks rt_unsures rt_trieds rt_fed rt_seat rt_one rt_other rt_years rt_kind rt_unsure rt_may rt_tried rt_name) (some .boolean) R0) args s 0 0 A) (F0 m 28 ls [])) :
    ∀ (n : Nat) (l2 : Int32) (H : Heap) (locs : List Loc) (ls : Array Slot), xG s E A (wR E ad m_thrown m_trouble m_where m_tv m_tape m_taped m_size m_spot m_sort m_place m_number m_fault m_wrongAt m_word m_v m_x m_past m_kept m_acts m_images m_matchNow m_slopsNow m_matchesNow m_slopped m_seatBest m_fedBest m_slopsBest m_sawBest m_leastNow m_stableNow m_fitsNow m_someNow m_everyNow m_otherIn m_askLeft rt_seats rt_slack rt_saw rt_quarrel rt_people rt_pairs rt_forks rt_unsures rt_trieds rt_fed rt_seat rt_one rt_other rt_years rt_kind rt_unsure rt_may rt_tried rt_name) H locs → lv_has ls 3 [(0, .ref (ad 9)), (1, .int l1), (2, .int l2)] → f_Tab_isTaken_L2 l1 rt_people rt_seat n l2 = some o → W p l e (xR 0 0) s m args below meth c H locs 0 0 (MQ below (xqI E A (wR E ad m_thrown m_trouble m_where m_tv m_tape m_taped m_size m_spot m_sort m_place m_number m_fault m_wrongAt m_word m_v m_x m_past m_kept m_acts m_images m_matchNow m_slopsNow m_matchesNow m_slopped m_seatBest m_fedBest m_slopsBest m_sawBest m_leastNow m_stableNow m_fitsNow m_someNow m_everyNow m_otherIn m_askLeft rt_seats rt_slack rt_saw rt_quarrel rt_people rt_pairs rt_forks rt_unsures rt_trieds rt_fed rt_seat rt_one rt_other rt_years rt_kind rt_unsure rt_may rt_tried rt_name) (some .boolean) R0) args s 0 0 A) (F0 m 2 ls []) := by
  have hx := C.1
  have hb := C.2.1
  intro n
  induction n with
  | zero =>
    intro l2 H locs ls G hl hf
    exact nomatch (show (none : Option ((Int32) ⊕ (Unit))) = some o from hf)
  | succ n ih =>
    intro l2 H locs ls G hl hf
    rw [f_Tab_isTaken_L2] at hf
    refine lv_iload_n hx hb dX11_isTaken_2 rfl (lv_at hl 2 rfl) ?_
    refine lv_aload_n hx hb dX11_isTaken_3 rfl (lv_at hl 0 rfl) ?_
    refine x_get C G fX11_40.g (wR_at9) rfl dX11_isTaken_4 ?_
    refine lv_icmp_ge (tgt := 28) hx hb dX11_isTaken_7 (by decide) (fun h => ?_) (fun h => ?_)
    · have hf := it_t h hf
      exact J _ (Option.some.inj hf).symm _ _ _ G (lv_sub hl [] rfl)
    · have hf := it_f h hf
      refine lv_aload_n hx hb dX11_isTaken_10 rfl (lv_at hl 0 rfl) ?_
      refine x_get C G fX11_9 (wR_at9) rfl dX11_isTaken_11 ?_
      refine lv_iload_n hx hb dX11_isTaken_14 rfl (lv_at hl 2 rfl) ?_
      have hi := ck_in hf
      have hf := ck_go hf
      refine x_iald C G (wR_at10) hi dX11_isTaken_15 ?_
      refine lv_iload_n hx hb dX11_isTaken_16 rfl (lv_at hl 1 rfl) ?_
      refine lv_icmp_ne (tgt := 22) hx hb dX11_isTaken_17 (by decide) (fun h => ?_) (fun h => ?_)
      · have hf := it_f h hf
        obtain ⟨x1, ex1⟩ : ∃ z : Int32, z = l2 + (1 : Int32) := ⟨_, rfl⟩
        have hf := lt_go ex1 hf
        refine lv_iinc (v := x1) (lv' := [(2, .int x1), (0, .ref (ad 9)), (1, .int l1)]) hx hb dX11_isTaken_22 hl (k := 2) rfl (by rw [ex1]; rfl) (by decide) rfl (fun ls hl => ?_)
        refine lv_goto (tgt := 2) hx hb dX11_isTaken_25 (by decide) ?_
        exact ih x1 _ _ _ G (lv_sub hl [1, 2, 0] rfl) hf
      · have hf := it_t h hf
        refine lv_iconst (v := 1) hx hb dX11_isTaken_20 (by decide) ?_
        obtain rfl := Jr _ (Option.some.inj hf).symm
        exact xI_ret (r := (1 : Int32)) C G rfl dX11_isTaken_21
set_option maxHeartbeats 4000000 in
set_option maxRecDepth 100000 in
theorem c_Tab_isTaken_rt_R {l : Launch} {E : xE} {ad : Nat → Nat} {m_thrown m_trouble m_where m_taped m_size m_spot m_sort m_place m_number m_fault m_wrongAt m_acts m_images m_matchNow m_slopsNow m_matchesNow m_fedBest m_slopsBest m_sawBest m_leastNow m_stableNow m_fitsNow m_someNow m_everyNow m_askLeft rt_seats rt_slack rt_saw rt_quarrel rt_people rt_pairs rt_forks rt_unsures rt_trieds rt_fed : Int32} {m_tv : Value} {m_tape m_v m_x m_past m_kept m_slopped m_seatBest m_otherIn rt_seat rt_one rt_other rt_years rt_kind rt_unsure rt_may rt_tried : Nat → Int32} {m_word : Int64} {rt_name : Nat → Int64} {l1 : Int32} {R0 : Int32} (hf : f_Tab_isTaken l1 rt_people rt_seat = some R0) : xI l E yX11_isTaken cX11_isTaken 3 (some .boolean) 0 0 [.ref (ad 9), .int l1] (wR E ad m_thrown m_trouble m_where m_tv m_tape m_taped m_size m_spot m_sort m_place m_number m_fault m_wrongAt m_word m_v m_x m_past m_kept m_acts m_images m_matchNow m_slopsNow m_matchesNow m_slopped m_seatBest m_fedBest m_slopsBest m_sawBest m_leastNow m_stableNow m_fitsNow m_someNow m_everyNow m_otherIn m_askLeft rt_seats rt_slack rt_saw rt_quarrel rt_people rt_pairs rt_forks rt_unsures rt_trieds rt_fed rt_seat rt_one rt_other rt_years rt_kind rt_unsure rt_may rt_tried rt_name) (wR E ad m_thrown m_trouble m_where m_tv m_tape m_taped m_size m_spot m_sort m_place m_number m_fault m_wrongAt m_word m_v m_x m_past m_kept m_acts m_images m_matchNow m_slopsNow m_matchesNow m_slopped m_seatBest m_fedBest m_slopsBest m_sawBest m_leastNow m_stableNow m_fitsNow m_someNow m_everyNow m_otherIn m_askLeft rt_seats rt_slack rt_saw rt_quarrel rt_people rt_pairs rt_forks rt_unsures rt_trieds rt_fed rt_seat rt_one rt_other rt_years rt_kind rt_unsure rt_may rt_tried rt_name) R0 := by
  refine xI_of (by decide) (Nat.le_of_ble_eq_true rfl) (fun p e s m args below meth c A C ls hl G => ?_)
  have hx := C.1
  have hb := C.2.1
  have hl : lv_has ls 3 [(0, .ref (ad 9)), (1, .int l1)] := hl
  unfold f_Tab_isTaken at hf
  refine lv_iconst (v := 0) hx hb dX11_isTaken_0 (by decide) ?_
  refine lv_istore_n (lv' := [(2, .int (0 : Int32)), (0, .ref (ad 9)), (1, .int l1)]) hx hb dX11_isTaken_1 rfl hl (by decide) rfl (fun ls hl => ?_)
  obtain ⟨ox2, hr, hf⟩ := bd_go hf
  have Jx2 : ∀ x2, ox2 = .inr x2 → ∀ (H : Heap) (locs : List Loc) (ls : Array Slot), xG s E A (wR E ad m_thrown m_trouble m_where m_tv m_tape m_taped m_size m_spot m_sort m_place m_number m_fault m_wrongAt m_word m_v m_x m_past m_kept m_acts m_images m_matchNow m_slopsNow m_matchesNow m_slopped m_seatBest m_fedBest m_slopsBest m_sawBest m_leastNow m_stableNow m_fitsNow m_someNow m_everyNow m_otherIn m_askLeft rt_seats rt_slack rt_saw rt_quarrel rt_people rt_pairs rt_forks rt_unsures rt_trieds rt_fed rt_seat rt_one rt_other rt_years rt_kind rt_unsure rt_may rt_tried rt_name) H locs → lv_has ls 3 [] → W p l e (xR 0 0) s m args below meth c H locs 0 0 (MQ below (xqI E A (wR E ad m_thrown m_trouble m_where m_tv m_tape m_taped m_size m_spot m_sort m_place m_number m_fault m_wrongAt m_word m_v m_x m_past m_kept m_acts m_images m_matchNow m_slopsNow m_matchesNow m_slopped m_seatBest m_fedBest m_slopsBest m_sawBest m_leastNow m_stableNow m_fitsNow m_someNow m_everyNow m_otherIn m_askLeft rt_seats rt_slack rt_saw rt_quarrel rt_people rt_pairs rt_forks rt_unsures rt_trieds rt_fed rt_seat rt_one rt_other rt_years rt_kind rt_unsure rt_may rt_tried rt_name) (some .boolean) R0) args s 0 0 A) (F0 m 28 ls []) := by
    intro x2 hq H locs ls G hl
    subst hq
    have hf := sm_r hf
    refine lv_iconst (v := 0) hx hb dX11_isTaken_28 (by decide) ?_
    obtain rfl := Option.some.inj hf
    exact xI_ret (r := (0 : Int32)) C G rfl dX11_isTaken_29
  have Jrx2 : ∀ r, ox2 = .inl r → r = R0 := by
    intro r hq
    subst hq
    exact Option.some.inj hf
  exact w_Tab_isTaken_rt_R_L2 C Jrx2 Jx2 fu _ _ _ _ G (lv_sub hl [1, 2, 0] rfl) hr
set_option maxHeartbeats 4000000 in
set_option maxRecDepth 100000 in
theorem c_M_readOne_m_R {l : Launch} {E : xE} {ad : Nat → Nat} {m_thrown m_trouble m_where m_taped m_size m_spot m_sort m_place m_number m_fault m_wrongAt m_acts m_images m_matchNow m_slopsNow m_matchesNow m_fedBest m_slopsBest m_sawBest m_leastNow m_stableNow m_fitsNow m_someNow m_everyNow m_askLeft rt_seats rt_slack rt_saw rt_quarrel rt_people rt_pairs rt_forks rt_unsures rt_trieds rt_fed : Int32} {m_tv : Value} {m_tape m_v m_x m_past m_kept m_slopped m_seatBest m_otherIn rt_seat rt_one rt_other rt_years rt_kind rt_unsure rt_may rt_tried : Nat → Int32} {m_word : Int64} {rt_name : Nat → Int64} {R0 : Int32 × Int32 × Int32 × Int32 × Int32 × Int32 × Int64 × Int32 × (Nat → Int32) × (Nat → Int64)} (hf : f_M_readOne m_tape m_size m_spot m_sort m_place m_number m_fault m_wrongAt m_word rt_seats rt_people rt_seat rt_name = some R0) : xV l E yX12_readOne cX12_readOne 4 none 8 185 [.ref (ad 0)] (wR E ad m_thrown m_trouble m_where m_tv m_tape m_taped m_size m_spot m_sort m_place m_number m_fault m_wrongAt m_word m_v m_x m_past m_kept m_acts m_images m_matchNow m_slopsNow m_matchesNow m_slopped m_seatBest m_fedBest m_slopsBest m_sawBest m_leastNow m_stableNow m_fitsNow m_someNow m_everyNow m_otherIn m_askLeft rt_seats rt_slack rt_saw rt_quarrel rt_people rt_pairs rt_forks rt_unsures rt_trieds rt_fed rt_seat rt_one rt_other rt_years rt_kind rt_unsure rt_may rt_tried rt_name) (wR E ad m_thrown m_trouble m_where m_tv m_tape m_taped m_size R0.1 R0.2.1 R0.2.2.1 R0.2.2.2.1 R0.2.2.2.2.1 R0.2.2.2.2.2.1 R0.2.2.2.2.2.2.1 m_v m_x m_past m_kept m_acts m_images m_matchNow m_slopsNow m_matchesNow m_slopped m_seatBest m_fedBest m_slopsBest m_sawBest m_leastNow m_stableNow m_fitsNow m_someNow m_everyNow m_otherIn m_askLeft rt_seats rt_slack rt_saw rt_quarrel R0.2.2.2.2.2.2.2.1 rt_pairs rt_forks rt_unsures rt_trieds rt_fed R0.2.2.2.2.2.2.2.2.1 rt_one rt_other rt_years rt_kind rt_unsure rt_may rt_tried R0.2.2.2.2.2.2.2.2.2) := by
  refine xV_of (by decide) (Nat.le_of_ble_eq_true rfl) (fun p e s m args below meth c A C ls hl G => ?_)
  have hx := C.1
  have hb := C.2.1
  have hl : lv_has ls 4 [(0, .ref (ad 0))] := hl
  unfold f_M_readOne at hf
  refine lv_aload_n hx hb dX12_readOne_0 rfl (lv_at hl 0 rfl) ?_
  refine lv_aload_n hx hb dX12_readOne_1 rfl (lv_at hl 0 rfl) ?_
  refine x_get C G fX12_145.g (wR_at0) rfl dX12_readOne_2 ?_
  refine x_get C G fX12_177.g (wR_at9) rfl dX12_readOne_5 ?_
  refine lv_iconst (v := 5) hx hb dX12_readOne_8 (by decide) ?_
  obtain ⟨x1, hc, hf⟩ := bd_go hf
  refine xV_V C G (c_M_lineBegins_m_R hc) mX12_lineBegins kX12_215 (wR_at0) rfl ⟨Nat.le_of_ble_eq_true rfl, Nat.le_of_ble_eq_true rfl⟩ rfl hl.1 rfl (Nat.le_of_ble_eq_true rfl) ⟨Nat.le_refl _, Nat.le_refl _⟩ dX12_readOne_9 (fun H locs G => ?_)
  refine lv_aload_n hx hb dX12_readOne_12 rfl (lv_at hl 0 rfl) ?_
  obtain ⟨x2, hc, hf⟩ := bd_go hf
  refine xI_V C G (c_M_isName_m_R hc) mX12_isName kX12_154 (wR_at0) rfl ⟨Nat.le_of_ble_eq_true rfl, Nat.le_of_ble_eq_true rfl⟩ rfl hl.1 rfl (Nat.le_of_ble_eq_true rfl) ⟨Nat.le_refl _, Nat.le_refl _⟩ dX12_readOne_13 (fun hz2 H locs G => ?_)
  obtain ⟨x3, hrx3, hf⟩ := bd_go hf
  have Jx3 : ∀ (H : Heap) (locs : List Loc) (ls : Array Slot), xG s E A (wR E ad m_thrown m_trouble m_where m_tv m_tape m_taped m_size x1.1 x3.1 x1.2.2.1 x1.2.2.2.1 x3.2.1 x3.2.2 x1.2.2.2.2.2.2 m_v m_x m_past m_kept m_acts m_images m_matchNow m_slopsNow m_matchesNow m_slopped m_seatBest m_fedBest m_slopsBest m_sawBest m_leastNow m_stableNow m_fitsNow m_someNow m_everyNow m_otherIn m_askLeft rt_seats rt_slack rt_saw rt_quarrel rt_people rt_pairs rt_forks rt_unsures rt_trieds rt_fed rt_seat rt_one rt_other rt_years rt_kind rt_unsure rt_may rt_tried rt_name) H locs → lv_has ls 4 [(0, .ref (ad 0))] → W p l e (xR 8 185) s m args below meth c H locs 0 0 (MQ below (xqV E A (wR E ad m_thrown m_trouble m_where m_tv m_tape m_taped m_size R0.1 R0.2.1 R0.2.2.1 R0.2.2.2.1 R0.2.2.2.2.1 R0.2.2.2.2.2.1 R0.2.2.2.2.2.2.1 m_v m_x m_past m_kept m_acts m_images m_matchNow m_slopsNow m_matchesNow m_slopped m_seatBest m_fedBest m_slopsBest m_sawBest m_leastNow m_stableNow m_fitsNow m_someNow m_everyNow m_otherIn m_askLeft rt_seats rt_slack rt_saw rt_quarrel R0.2.2.2.2.2.2.2.1 rt_pairs rt_forks rt_unsures rt_trieds rt_fed R0.2.2.2.2.2.2.2.2.1 rt_one rt_other rt_years rt_kind rt_unsure rt_may rt_tried R0.2.2.2.2.2.2.2.2.2)) args s 0 0 A) (F0 m 24 ls []) := by
    intro H locs ls G hl
    refine lv_aload_n hx hb dX12_readOne_24 rfl (lv_at hl 0 rfl) ?_
    refine x_get C G fX12_145.g (wR_at0) rfl dX12_readOne_25 ?_
    refine lv_aload_n hx hb dX12_readOne_28 rfl (lv_at hl 0 rfl) ?_
    refine x_get C G fX12_87.g (wR_at0) rfl dX12_readOne_29 ?_
    obtain ⟨x4, hc, hf⟩ := bd_go hf
    refine xI_V C G (c_Tab_find_rt_R hc) mX11_find kX12_158 (wR_at9) rfl ⟨Nat.le_of_ble_eq_true rfl, Nat.le_of_ble_eq_true rfl⟩ rfl hl.1 rfl (Nat.le_of_ble_eq_true rfl) ⟨Nat.le_refl _, Nat.le_refl _⟩ dX12_readOne_32 (fun hz H locs G => ?_)
    refine lv_iconst (v := -1) hx hb dX12_readOne_35 (by decide) ?_
    obtain ⟨x5, hrx5, hf⟩ := bd_go hf
    have Jx5 : ∀ (H : Heap) (locs : List Loc) (ls : Array Slot), xG s E A (wR E ad m_thrown m_trouble m_where m_tv m_tape m_taped m_size x1.1 x5.1 x1.2.2.1 x1.2.2.2.1 x5.2.1 x5.2.2 x1.2.2.2.2.2.2 m_v m_x m_past m_kept m_acts m_images m_matchNow m_slopsNow m_matchesNow m_slopped m_seatBest m_fedBest m_slopsBest m_sawBest m_leastNow m_stableNow m_fitsNow m_someNow m_everyNow m_otherIn m_askLeft rt_seats rt_slack rt_saw rt_quarrel rt_people rt_pairs rt_forks rt_unsures rt_trieds rt_fed rt_seat rt_one rt_other rt_years rt_kind rt_unsure rt_may rt_tried rt_name) H locs → lv_has ls 4 [(0, .ref (ad 0))] → W p l e (xR 8 185) s m args below meth c H locs 0 0 (MQ below (xqV E A (wR E ad m_thrown m_trouble m_where m_tv m_tape m_taped m_size R0.1 R0.2.1 R0.2.2.1 R0.2.2.2.1 R0.2.2.2.2.1 R0.2.2.2.2.2.1 R0.2.2.2.2.2.2.1 m_v m_x m_past m_kept m_acts m_images m_matchNow m_slopsNow m_matchesNow m_slopped m_seatBest m_fedBest m_slopsBest m_sawBest m_leastNow m_stableNow m_fitsNow m_someNow m_everyNow m_otherIn m_askLeft rt_seats rt_slack rt_saw rt_quarrel R0.2.2.2.2.2.2.2.1 rt_pairs rt_forks rt_unsures rt_trieds rt_fed R0.2.2.2.2.2.2.2.2.1 rt_one rt_other rt_years rt_kind rt_unsure rt_may rt_tried R0.2.2.2.2.2.2.2.2.2)) args s 0 0 A) (F0 m 44 ls []) := by
      intro H locs ls G hl
      refine lv_aload_n hx hb dX12_readOne_44 rfl (lv_at hl 0 rfl) ?_
      refine x_get C G fX12_87.g (wR_at0) rfl dX12_readOne_45 ?_
      refine lv_lstore_n (lv' := [(1, .long x1.2.2.2.2.2.2), (0, .ref (ad 0))]) hx hb dX12_readOne_48 rfl hl (by decide) rfl (fun ls hl => ?_)
      refine lv_aload_n hx hb dX12_readOne_49 rfl (lv_at hl 1 rfl) ?_
      obtain ⟨x6, hc, hf⟩ := bd_go hf
      refine xV_V C G (c_M_goesOn_m_R hc) mX12_goesOn kX12_107 (wR_at0) rfl ⟨Nat.le_of_ble_eq_true rfl, Nat.le_of_ble_eq_true rfl⟩ rfl hl.1 rfl (Nat.le_of_ble_eq_true rfl) ⟨Nat.le_refl _, Nat.le_refl _⟩ dX12_readOne_50 (fun H locs G => ?_)
      refine lv_aload_n hx hb dX12_readOne_53 rfl (lv_at hl 1 rfl) ?_
      refine va_ldcS hx hb C.2.2.2.1 (C.2.2.2.2.2.2.2.2.2.2.1 10 (by decide)) dX12_readOne_54 ?_
      obtain ⟨x7, hc, hf⟩ := bd_go hf
      refine xV_V C G (c_M_needs_m_at_R hc) mX12_needs kX12_126 (wR_at0) rfl ⟨Nat.le_of_ble_eq_true rfl, Nat.le_of_ble_eq_true rfl⟩ rfl hl.1 rfl (Nat.le_of_ble_eq_true rfl) ⟨Nat.le_refl _, Nat.le_refl _⟩ dX12_readOne_56 (fun H locs G => ?_)
      refine lv_aload_n hx hb dX12_readOne_59 rfl (lv_at hl 1 rfl) ?_
      refine lv_iconst (v := 0) hx hb dX12_readOne_60 (by decide) ?_
      refine lv_aload_n hx hb dX12_readOne_61 rfl (lv_at hl 1 rfl) ?_
      refine x_get C G fX12_145.g (wR_at0) rfl dX12_readOne_62 ?_
      refine x_get C G fX12_149.g (wR_at9) rfl dX12_readOne_65 ?_
      refine lv_iconst (v := 1) hx hb dX12_readOne_68 (by decide) ?_
      refine lv_isub hx hb dX12_readOne_69 ?_
      obtain ⟨x8, hc, hf⟩ := bd_go hf
      refine xI_V C G (c_M_wholeAt_m_R hc) mX12_wholeAt kX12_122 (wR_at0) rfl ⟨Nat.le_of_ble_eq_true rfl, Nat.le_of_ble_eq_true rfl⟩ rfl hl.1 rfl (Nat.le_of_ble_eq_true rfl) ⟨Nat.le_refl _, Nat.le_refl _⟩ dX12_readOne_70 (fun hz H locs G => ?_)
      refine lv_istore_n (lv' := [(3, .int x8.1), (1, .long x1.2.2.2.2.2.2), (0, .ref (ad 0))]) hx hb dX12_readOne_73 rfl hl (by decide) rfl (fun ls hl => ?_)
      refine lv_aload_n hx hb dX12_readOne_74 rfl (lv_at hl 2 rfl) ?_
      refine x_get C G fX12_71.g (wR_at0) rfl dX12_readOne_75 ?_
      refine lv_iconst (v := 5) hx hb dX12_readOne_78 (by decide) ?_
      obtain ⟨x9, hrx9, hf⟩ := bd_go hf
      have Jx9 : ∀ (H : Heap) (locs : List Loc) (ls : Array Slot), xG s E A (wR E ad m_thrown m_trouble m_where m_tv m_tape m_taped m_size x7.1 x9.1 x7.2.2.1 x7.2.2.2.1 x9.2.1 x9.2.2 x7.2.2.2.2.2.2 m_v m_x m_past m_kept m_acts m_images m_matchNow m_slopsNow m_matchesNow m_slopped m_seatBest m_fedBest m_slopsBest m_sawBest m_leastNow m_stableNow m_fitsNow m_someNow m_everyNow m_otherIn m_askLeft rt_seats rt_slack rt_saw rt_quarrel rt_people rt_pairs rt_forks rt_unsures rt_trieds rt_fed rt_seat rt_one rt_other rt_years rt_kind rt_unsure rt_may rt_tried rt_name) H locs → lv_has ls 4 [(0, .ref (ad 0)), (1, .long x1.2.2.2.2.2.2), (3, .int x8.1)] → W p l e (xR 8 185) s m args below meth c H locs 0 0 (MQ below (xqV E A (wR E ad m_thrown m_trouble m_where m_tv m_tape m_taped m_size R0.1 R0.2.1 R0.2.2.1 R0.2.2.2.1 R0.2.2.2.2.1 R0.2.2.2.2.2.1 R0.2.2.2.2.2.2.1 m_v m_x m_past m_kept m_acts m_images m_matchNow m_slopsNow m_matchesNow m_slopped m_seatBest m_fedBest m_slopsBest m_sawBest m_leastNow m_stableNow m_fitsNow m_someNow m_everyNow m_otherIn m_askLeft rt_seats rt_slack rt_saw rt_quarrel R0.2.2.2.2.2.2.2.1 rt_pairs rt_forks rt_unsures rt_trieds rt_fed R0.2.2.2.2.2.2.2.2.1 rt_one rt_other rt_years rt_kind rt_unsure rt_may rt_tried R0.2.2.2.2.2.2.2.2.2)) args s 0 0 A) (F0 m 98 ls []) := by
        intro H locs ls G hl
        refine lv_aload_n hx hb dX12_readOne_98 rfl (lv_at hl 0 rfl) ?_
        obtain ⟨x10, hc, hf⟩ := bd_go hf
        refine xV_V C G (c_M_goesOn_m_R hc) mX12_goesOn kX12_107 (wR_at0) rfl ⟨Nat.le_of_ble_eq_true rfl, Nat.le_of_ble_eq_true rfl⟩ rfl hl.1 rfl (Nat.le_of_ble_eq_true rfl) ⟨Nat.le_refl _, Nat.le_refl _⟩ dX12_readOne_99 (fun H locs G => ?_)
        refine lv_aload_n hx hb dX12_readOne_102 rfl (lv_at hl 0 rfl) ?_
        refine x_get C G fX12_71.g (wR_at0) rfl dX12_readOne_103 ?_
        refine lv_iconst (v := 5) hx hb dX12_readOne_106 (by decide) ?_
        refine lv_icmp_ne (tgt := 111) hx hb dX12_readOne_107 (by decide) (fun h => ?_) (fun h => ?_)
        · have hf := it_f h hf
          refine lv_aload_n hx hb dX12_readOne_111 rfl (lv_at hl 0 rfl) ?_
          refine x_get C G fX12_145.g (wR_at0) rfl dX12_readOne_112 ?_
          refine x_get C G fX12_224 (wR_at9) rfl dX12_readOne_115 ?_
          refine lv_aload_n hx hb dX12_readOne_118 rfl (lv_at hl 0 rfl) ?_
          refine x_get C G fX12_145.g (wR_at0) rfl dX12_readOne_119 ?_
          refine x_get C G fX12_177.g (wR_at9) rfl dX12_readOne_122 ?_
          refine lv_lload_n hx hb dX12_readOne_125 rfl (lv_at hl 1 rfl) ?_
          have hi := ck_in hf
          have hf := ck_go hf
          refine x_last (ws' := (wR E ad m_thrown m_trouble m_where m_tv m_tape m_taped m_size x10.1 x10.2.1 x10.2.2.1 x10.2.2.2.1 x9.2.1 x9.2.2 x10.2.2.2.2 m_v m_x m_past m_kept m_acts m_images m_matchNow m_slopsNow m_matchesNow m_slopped m_seatBest m_fedBest m_slopsBest m_sawBest m_leastNow m_stableNow m_fitsNow m_someNow m_everyNow m_otherIn m_askLeft rt_seats rt_slack rt_saw rt_quarrel rt_people rt_pairs rt_forks rt_unsures rt_trieds rt_fed rt_seat rt_one rt_other rt_years rt_kind rt_unsure rt_may rt_tried (vp_updL rt_name rt_people.toNatClampNeg x1.2.2.2.2.2.2))) C G (wR_at18) hi wR_set_rt_name dX12_readOne_126 (fun H locs G => ?_)
          refine lv_aload_n hx hb dX12_readOne_127 rfl (lv_at hl 0 rfl) ?_
          refine x_get C G fX12_145.g (wR_at0) rfl dX12_readOne_128 ?_
          refine x_get C G fX12_228 (wR_at9) rfl dX12_readOne_131 ?_
          refine lv_aload_n hx hb dX12_readOne_134 rfl (lv_at hl 0 rfl) ?_
          refine x_get C G fX12_145.g (wR_at0) rfl dX12_readOne_135 ?_
          refine x_get C G fX12_177.g (wR_at9) rfl dX12_readOne_138 ?_
          refine lv_iload_n hx hb dX12_readOne_141 rfl (lv_at hl 2 rfl) ?_
          have hi := ck_in hf
          have hf := ck_go hf
          refine x_iast (ws' := (wR E ad m_thrown m_trouble m_where m_tv m_tape m_taped m_size x10.1 x10.2.1 x10.2.2.1 x10.2.2.2.1 x9.2.1 x9.2.2 x10.2.2.2.2 m_v m_x m_past m_kept m_acts m_images m_matchNow m_slopsNow m_matchesNow m_slopped m_seatBest m_fedBest m_slopsBest m_sawBest m_leastNow m_stableNow m_fitsNow m_someNow m_everyNow m_otherIn m_askLeft rt_seats rt_slack rt_saw rt_quarrel rt_people rt_pairs rt_forks rt_unsures rt_trieds rt_fed (upd rt_seat rt_people.toNatClampNeg x8.1) rt_one rt_other rt_years rt_kind rt_unsure rt_may rt_tried (vp_updL rt_name rt_people.toNatClampNeg x1.2.2.2.2.2.2))) C G (wR_at10) hi wR_set_rt_seat dX12_readOne_142 (fun H locs G => ?_)
          refine lv_aload_n hx hb dX12_readOne_143 rfl (lv_at hl 0 rfl) ?_
          refine x_get C G fX12_145.g (wR_at0) rfl dX12_readOne_144 ?_
          refine lv_dup hx hb dX12_readOne_147 rfl ?_
          refine x_get C G fX12_177.g (wR_at9) rfl dX12_readOne_148 ?_
          refine lv_iconst (v := 1) hx hb dX12_readOne_151 (by decide) ?_
          refine lv_iadd hx hb dX12_readOne_152 ?_
          refine lv_topi (fun x11 ex11 => ?_)
          have hf := lt_go ex11 hf
          refine x_put (ws' := (wR E ad m_thrown m_trouble m_where m_tv m_tape m_taped m_size x10.1 x10.2.1 x10.2.2.1 x10.2.2.2.1 x9.2.1 x9.2.2 x10.2.2.2.2 m_v m_x m_past m_kept m_acts m_images m_matchNow m_slopsNow m_matchesNow m_slopped m_seatBest m_fedBest m_slopsBest m_sawBest m_leastNow m_stableNow m_fitsNow m_someNow m_everyNow m_otherIn m_askLeft rt_seats rt_slack rt_saw rt_quarrel x11 rt_pairs rt_forks rt_unsures rt_trieds rt_fed (upd rt_seat rt_people.toNatClampNeg x8.1) rt_one rt_other rt_years rt_kind rt_unsure rt_may rt_tried (vp_updL rt_name rt_people.toNatClampNeg x1.2.2.2.2.2.2))) C G fX12_177 (wR_at9) rfl rfl (Nat.le_of_ble_eq_true rfl) wR_set_rt_people dX12_readOne_153 (fun H locs G => ?_)
          obtain rfl := Option.some.inj hf
          exact xV_ret C G dX12_readOne_156
        · have hf := it_t h hf
          obtain rfl := Option.some.inj hf
          exact xV_ret C G dX12_readOne_110
      have hf := hrx9
      obtain ⟨b12, hr, hf⟩ := bd_go hf
      cases b12 with
      | true =>
        have hf := it_t rfl hf
        have J : ∀ (H : Heap) (locs : List Loc), xG s E A (wR E ad m_thrown m_trouble m_where m_tv m_tape m_taped m_size x7.1 x8.2.1 x7.2.2.1 x7.2.2.2.1 x8.2.2.1 x8.2.2.2 x7.2.2.2.2.2.2 m_v m_x m_past m_kept m_acts m_images m_matchNow m_slopsNow m_matchesNow m_slopped m_seatBest m_fedBest m_slopsBest m_sawBest m_leastNow m_stableNow m_fitsNow m_someNow m_everyNow m_otherIn m_askLeft rt_seats rt_slack rt_saw rt_quarrel rt_people rt_pairs rt_forks rt_unsures rt_trieds rt_fed rt_seat rt_one rt_other rt_years rt_kind rt_unsure rt_may rt_tried rt_name) H locs → W p l e (xR 8 185) s m args below meth c H locs 0 0 (MQ below (xqV E A (wR E ad m_thrown m_trouble m_where m_tv m_tape m_taped m_size R0.1 R0.2.1 R0.2.2.1 R0.2.2.2.1 R0.2.2.2.2.1 R0.2.2.2.2.2.1 R0.2.2.2.2.2.2.1 m_v m_x m_past m_kept m_acts m_images m_matchNow m_slopsNow m_matchesNow m_slopped m_seatBest m_fedBest m_slopsBest m_sawBest m_leastNow m_stableNow m_fitsNow m_someNow m_everyNow m_otherIn m_askLeft rt_seats rt_slack rt_saw rt_quarrel R0.2.2.2.2.2.2.2.1 rt_pairs rt_forks rt_unsures rt_trieds rt_fed R0.2.2.2.2.2.2.2.2.1 rt_one rt_other rt_years rt_kind rt_unsure rt_may rt_tried R0.2.2.2.2.2.2.2.2.2)) args s 0 0 A) (F0 m 98 ls []) := by
          intro H locs G
          obtain rfl := Option.some.inj hf
          exact Jx9 _ _ _ G (lv_sub hl [2, 1, 0] rfl)
        have hf := hr
        clear hr
        refine lv_icmp_eq (tgt := 98) hx hb dX12_readOne_79 (by decide) (fun h => ?_) (fun h => ?_)
        · have hf := it_t h hf
          exact J _ _ G
        · have hf := it_f h hf
          refine lv_aload_n hx hb dX12_readOne_82 rfl (lv_at hl 2 rfl) ?_
          refine x_get C G fX12_145.g (wR_at0) rfl dX12_readOne_83 ?_
          refine lv_iload_n hx hb dX12_readOne_86 rfl (lv_at hl 0 rfl) ?_
          obtain ⟨x13, hc, hf⟩ := bd_go hf
          refine xI_V C G (c_Tab_isTaken_rt_R hc) mX11_isTaken kX12_221 (wR_at9) rfl ⟨Nat.le_of_ble_eq_true rfl, Nat.le_of_ble_eq_true rfl⟩ rfl hl.1 rfl (Nat.le_of_ble_eq_true rfl) ⟨Nat.le_refl _, Nat.le_refl _⟩ dX12_readOne_87 (fun hz13 H locs G => ?_)
          refine lv_if_eq (tgt := 98) hx hb dX12_readOne_90 (by decide) (fun h => ?_) (fun h => ?_)
          · have hf := it_t h hf
            exact J _ _ G
          · have hf := it_f h hf
            exact absurd (Option.some.inj hf) (by decide)
      | false =>
        have hf := it_f (by decide) hf
        have J : ∀ (H : Heap) (locs : List Loc), xG s E A (wR E ad m_thrown m_trouble m_where m_tv m_tape m_taped m_size x7.1 x8.2.1 x7.2.2.1 x7.2.2.2.1 x8.2.2.1 x8.2.2.2 x7.2.2.2.2.2.2 m_v m_x m_past m_kept m_acts m_images m_matchNow m_slopsNow m_matchesNow m_slopped m_seatBest m_fedBest m_slopsBest m_sawBest m_leastNow m_stableNow m_fitsNow m_someNow m_everyNow m_otherIn m_askLeft rt_seats rt_slack rt_saw rt_quarrel rt_people rt_pairs rt_forks rt_unsures rt_trieds rt_fed rt_seat rt_one rt_other rt_years rt_kind rt_unsure rt_may rt_tried rt_name) H locs → W p l e (xR 8 185) s m args below meth c H locs 0 0 (MQ below (xqV E A (wR E ad m_thrown m_trouble m_where m_tv m_tape m_taped m_size R0.1 R0.2.1 R0.2.2.1 R0.2.2.2.1 R0.2.2.2.2.1 R0.2.2.2.2.2.1 R0.2.2.2.2.2.2.1 m_v m_x m_past m_kept m_acts m_images m_matchNow m_slopsNow m_matchesNow m_slopped m_seatBest m_fedBest m_slopsBest m_sawBest m_leastNow m_stableNow m_fitsNow m_someNow m_everyNow m_otherIn m_askLeft rt_seats rt_slack rt_saw rt_quarrel R0.2.2.2.2.2.2.2.1 rt_pairs rt_forks rt_unsures rt_trieds rt_fed R0.2.2.2.2.2.2.2.2.1 rt_one rt_other rt_years rt_kind rt_unsure rt_may rt_tried R0.2.2.2.2.2.2.2.2.2)) args s 0 0 A) (F0 m 93 ls []) := by
          intro H locs G
          refine lv_aload_n hx hb dX12_readOne_93 rfl (lv_at hl 2 rfl) ?_
          refine lv_iconst (v := 3) hx hb dX12_readOne_94 (by decide) ?_
          obtain ⟨x14, hc, hf⟩ := bd_go hf
          refine xV_V C G (c_M_flaw_m_R hc) mX12_flaw kX12_114 (wR_at0) rfl ⟨Nat.le_of_ble_eq_true rfl, Nat.le_of_ble_eq_true rfl⟩ rfl hl.1 rfl (Nat.le_of_ble_eq_true rfl) ⟨Nat.le_refl _, Nat.le_refl _⟩ dX12_readOne_95 (fun H locs G => ?_)
          obtain rfl := Option.some.inj hf
          exact Jx9 _ _ _ G (lv_sub hl [2, 1, 0] rfl)
        have hf := hr
        clear hr
        refine lv_icmp_eq (tgt := 98) hx hb dX12_readOne_79 (by decide) (fun h => ?_) (fun h => ?_)
        · have hf := it_t h hf
          exact absurd (Option.some.inj hf) (by decide)
        · have hf := it_f h hf
          refine lv_aload_n hx hb dX12_readOne_82 rfl (lv_at hl 2 rfl) ?_
          refine x_get C G fX12_145.g (wR_at0) rfl dX12_readOne_83 ?_
          refine lv_iload_n hx hb dX12_readOne_86 rfl (lv_at hl 0 rfl) ?_
          obtain ⟨x15, hc, hf⟩ := bd_go hf
          refine xI_V C G (c_Tab_isTaken_rt_R hc) mX11_isTaken kX12_221 (wR_at9) rfl ⟨Nat.le_of_ble_eq_true rfl, Nat.le_of_ble_eq_true rfl⟩ rfl hl.1 rfl (Nat.le_of_ble_eq_true rfl) ⟨Nat.le_refl _, Nat.le_refl _⟩ dX12_readOne_87 (fun hz15 H locs G => ?_)
          refine lv_if_eq (tgt := 98) hx hb dX12_readOne_90 (by decide) (fun h => ?_) (fun h => ?_)
          · have hf := it_t h hf
            exact absurd (Option.some.inj hf) (by decide)
          · have hf := it_f h hf
            exact J _ _ G
    have hf := hrx5
    refine lv_icmp_eq (tgt := 44) hx hb dX12_readOne_36 (by decide) (fun h => ?_) (fun h => ?_)
    · have hf := it_t h hf
      obtain rfl := Option.some.inj hf
      exact Jx5 _ _ _ G (lv_sub hl [0] rfl)
    · have hf := it_f h hf
      refine lv_aload_n hx hb dX12_readOne_39 rfl (lv_at hl 0 rfl) ?_
      refine lv_iconst (v := 3) hx hb dX12_readOne_40 (by decide) ?_
      obtain ⟨x16, hc, hf⟩ := bd_go hf
      refine xV_V C G (c_M_flaw_m_R hc) mX12_flaw kX12_114 (wR_at0) rfl ⟨Nat.le_of_ble_eq_true rfl, Nat.le_of_ble_eq_true rfl⟩ rfl hl.1 rfl (Nat.le_of_ble_eq_true rfl) ⟨Nat.le_refl _, Nat.le_refl _⟩ dX12_readOne_41 (fun H locs G => ?_)
      obtain rfl := Option.some.inj hf
      exact Jx5 _ _ _ G (lv_sub hl [0] rfl)
  have hf := hrx3
  refine lv_if_ne (tgt := 24) hx hb dX12_readOne_16 (by decide) (fun h => ?_) (fun h => ?_)
  · have hf := it_f h hf
    obtain rfl := Option.some.inj hf
    exact Jx3 _ _ _ G (lv_sub hl [0] rfl)
  · have hf := it_t h hf
    refine lv_aload_n hx hb dX12_readOne_19 rfl (lv_at hl 0 rfl) ?_
    refine lv_iconst (v := 1) hx hb dX12_readOne_20 (by decide) ?_
    obtain ⟨x17, hc, hf⟩ := bd_go hf
    refine xV_V C G (c_M_flaw_m_R hc) mX12_flaw kX12_114 (wR_at0) rfl ⟨Nat.le_of_ble_eq_true rfl, Nat.le_of_ble_eq_true rfl⟩ rfl hl.1 rfl (Nat.le_of_ble_eq_true rfl) ⟨Nat.le_refl _, Nat.le_refl _⟩ dX12_readOne_21 (fun H locs G => ?_)
    obtain rfl := Option.some.inj hf
    exact Jx3 _ _ _ G (lv_sub hl [0] rfl)
set_option maxHeartbeats 4000000 in
set_option maxRecDepth 100000 in
theorem c_M_isWord_m_seats_R {l : Launch} {E : xE} {ad : Nat → Nat} {m_thrown m_trouble m_where m_taped m_size m_spot m_sort m_place m_number m_fault m_wrongAt m_acts m_images m_matchNow m_slopsNow m_matchesNow m_fedBest m_slopsBest m_sawBest m_leastNow m_stableNow m_fitsNow m_someNow m_everyNow m_askLeft rt_seats rt_slack rt_saw rt_quarrel rt_people rt_pairs rt_forks rt_unsures rt_trieds rt_fed : Int32} {m_tv : Value} {m_tape m_v m_x m_past m_kept m_slopped m_seatBest m_otherIn rt_seat rt_one rt_other rt_years rt_kind rt_unsure rt_may rt_tried : Nat → Int32} {m_word : Int64} {rt_name : Nat → Int64} {R0 : Int32} (hf : f_M_isWord (20088467 : Int64) m_sort m_word = some R0) : xI l E yX12_isWord cX12_isWord 2 (some .boolean) 6 143 [.ref (ad 0), .ref (E.2.2.1 1)] (wR E ad m_thrown m_trouble m_where m_tv m_tape m_taped m_size m_spot m_sort m_place m_number m_fault m_wrongAt m_word m_v m_x m_past m_kept m_acts m_images m_matchNow m_slopsNow m_matchesNow m_slopped m_seatBest m_fedBest m_slopsBest m_sawBest m_leastNow m_stableNow m_fitsNow m_someNow m_everyNow m_otherIn m_askLeft rt_seats rt_slack rt_saw rt_quarrel rt_people rt_pairs rt_forks rt_unsures rt_trieds rt_fed rt_seat rt_one rt_other rt_years rt_kind rt_unsure rt_may rt_tried rt_name) (wR E ad m_thrown m_trouble m_where m_tv m_tape m_taped m_size m_spot m_sort m_place m_number m_fault m_wrongAt m_word m_v m_x m_past m_kept m_acts m_images m_matchNow m_slopsNow m_matchesNow m_slopped m_seatBest m_fedBest m_slopsBest m_sawBest m_leastNow m_stableNow m_fitsNow m_someNow m_everyNow m_otherIn m_askLeft rt_seats rt_slack rt_saw rt_quarrel rt_people rt_pairs rt_forks rt_unsures rt_trieds rt_fed rt_seat rt_one rt_other rt_years rt_kind rt_unsure rt_may rt_tried rt_name) R0 := by
  refine xI_of (by decide) (Nat.le_of_ble_eq_true rfl) (fun p e s m args below meth c A C ls hl G => ?_)
  have hx := C.1
  have hb := C.2.1
  have hl : lv_has ls 2 [(0, .ref (ad 0)), (1, .ref (E.2.2.1 1))] := hl
  unfold f_M_isWord at hf
  refine lv_aload_n hx hb dX12_isWord_0 rfl (lv_at hl 0 rfl) ?_
  refine x_get C G fX12_71.g (wR_at0) rfl dX12_isWord_1 ?_
  refine lv_iconst (v := 2) hx hb dX12_isWord_4 (by decide) ?_
  obtain ⟨b1, hr, hf⟩ := bd_go hf
  cases b1 with
  | true =>
    have hf := it_t rfl hf
    have J : ∀ (H : Heap) (locs : List Loc), xG s E A (wR E ad m_thrown m_trouble m_where m_tv m_tape m_taped m_size m_spot m_sort m_place m_number m_fault m_wrongAt m_word m_v m_x m_past m_kept m_acts m_images m_matchNow m_slopsNow m_matchesNow m_slopped m_seatBest m_fedBest m_slopsBest m_sawBest m_leastNow m_stableNow m_fitsNow m_someNow m_everyNow m_otherIn m_askLeft rt_seats rt_slack rt_saw rt_quarrel rt_people rt_pairs rt_forks rt_unsures rt_trieds rt_fed rt_seat rt_one rt_other rt_years rt_kind rt_unsure rt_may rt_tried rt_name) H locs → W p l e (xR 6 143) s m args below meth c H locs 0 0 (MQ below (xqI E A (wR E ad m_thrown m_trouble m_where m_tv m_tape m_taped m_size m_spot m_sort m_place m_number m_fault m_wrongAt m_word m_v m_x m_past m_kept m_acts m_images m_matchNow m_slopsNow m_matchesNow m_slopped m_seatBest m_fedBest m_slopsBest m_sawBest m_leastNow m_stableNow m_fitsNow m_someNow m_everyNow m_otherIn m_askLeft rt_seats rt_slack rt_saw rt_quarrel rt_people rt_pairs rt_forks rt_unsures rt_trieds rt_fed rt_seat rt_one rt_other rt_years rt_kind rt_unsure rt_may rt_tried rt_name) (some .boolean) R0) args s 0 0 A) (F0 m 24 ls []) := by
      intro H locs G
      refine lv_iconst (v := 0) hx hb dX12_isWord_24 (by decide) ?_
      obtain rfl := Option.some.inj hf
      exact xI_ret (r := (0 : Int32)) C G rfl dX12_isWord_25
    have hf := hr
    clear hr
    refine lv_icmp_ne (tgt := 24) hx hb dX12_isWord_5 (by decide) (fun h => ?_) (fun h => ?_)
    · have hf := it_f h hf
      exact J _ _ G
    · have hf := it_t h hf
      refine lv_aload_n hx hb dX12_isWord_8 rfl (lv_at hl 0 rfl) ?_
      refine x_get C G fX12_87.g (wR_at0) rfl dX12_isWord_9 ?_
      refine lv_aload_n hx hb dX12_isWord_12 rfl (lv_at hl 1 rfl) ?_
      refine xL_S C G (c_M_packed 1 (by decide) (20088467 : Int64) (by decide +kernel)) mX12_packed kX12_103 ⟨Nat.le_of_ble_eq_true rfl, Nat.le_of_ble_eq_true rfl⟩ rfl hl.1 rfl (Nat.le_of_ble_eq_true rfl) ⟨Nat.le_refl _, Nat.le_refl _⟩ dX12_isWord_13 (fun H locs G => ?_)
      refine W.lcmp hx hb dX12_isWord_16 ?_
      refine lv_if_ne (tgt := 24) hx hb dX12_isWord_17 (by decide) (fun h => ?_) (fun h => ?_)
      · have hf := it_f h hf
        exact J _ _ G
      · have hf := it_t h hf
        exact absurd (Option.some.inj hf) (by decide)
  | false =>
    have hf := it_f (by decide) hf
    have J : ∀ (H : Heap) (locs : List Loc), xG s E A (wR E ad m_thrown m_trouble m_where m_tv m_tape m_taped m_size m_spot m_sort m_place m_number m_fault m_wrongAt m_word m_v m_x m_past m_kept m_acts m_images m_matchNow m_slopsNow m_matchesNow m_slopped m_seatBest m_fedBest m_slopsBest m_sawBest m_leastNow m_stableNow m_fitsNow m_someNow m_everyNow m_otherIn m_askLeft rt_seats rt_slack rt_saw rt_quarrel rt_people rt_pairs rt_forks rt_unsures rt_trieds rt_fed rt_seat rt_one rt_other rt_years rt_kind rt_unsure rt_may rt_tried rt_name) H locs → W p l e (xR 6 143) s m args below meth c H locs 0 0 (MQ below (xqI E A (wR E ad m_thrown m_trouble m_where m_tv m_tape m_taped m_size m_spot m_sort m_place m_number m_fault m_wrongAt m_word m_v m_x m_past m_kept m_acts m_images m_matchNow m_slopsNow m_matchesNow m_slopped m_seatBest m_fedBest m_slopsBest m_sawBest m_leastNow m_stableNow m_fitsNow m_someNow m_everyNow m_otherIn m_askLeft rt_seats rt_slack rt_saw rt_quarrel rt_people rt_pairs rt_forks rt_unsures rt_trieds rt_fed rt_seat rt_one rt_other rt_years rt_kind rt_unsure rt_may rt_tried rt_name) (some .boolean) R0) args s 0 0 A) (F0 m 20 ls []) := by
      intro H locs G
      refine lv_iconst (v := 1) hx hb dX12_isWord_20 (by decide) ?_
      refine lv_goto (tgt := 25) hx hb dX12_isWord_21 (by decide) ?_
      obtain rfl := Option.some.inj hf
      exact xI_ret (r := (1 : Int32)) C G rfl dX12_isWord_25
    have hf := hr
    clear hr
    refine lv_icmp_ne (tgt := 24) hx hb dX12_isWord_5 (by decide) (fun h => ?_) (fun h => ?_)
    · have hf := it_f h hf
      exact absurd (Option.some.inj hf) (by decide)
    · have hf := it_t h hf
      refine lv_aload_n hx hb dX12_isWord_8 rfl (lv_at hl 0 rfl) ?_
      refine x_get C G fX12_87.g (wR_at0) rfl dX12_isWord_9 ?_
      refine lv_aload_n hx hb dX12_isWord_12 rfl (lv_at hl 1 rfl) ?_
      refine xL_S C G (c_M_packed 1 (by decide) (20088467 : Int64) (by decide +kernel)) mX12_packed kX12_103 ⟨Nat.le_of_ble_eq_true rfl, Nat.le_of_ble_eq_true rfl⟩ rfl hl.1 rfl (Nat.le_of_ble_eq_true rfl) ⟨Nat.le_refl _, Nat.le_refl _⟩ dX12_isWord_13 (fun H locs G => ?_)
      refine W.lcmp hx hb dX12_isWord_16 ?_
      refine lv_if_ne (tgt := 24) hx hb dX12_isWord_17 (by decide) (fun h => ?_) (fun h => ?_)
      · have hf := it_f h hf
        exact absurd (Option.some.inj hf) (by decide)
      · have hf := it_t h hf
        exact J _ _ G
set_option maxHeartbeats 4000000 in
set_option maxRecDepth 100000 in
theorem c_M_needs_m_seats_R {l : Launch} {E : xE} {ad : Nat → Nat} {m_thrown m_trouble m_where m_taped m_size m_spot m_sort m_place m_number m_fault m_wrongAt m_acts m_images m_matchNow m_slopsNow m_matchesNow m_fedBest m_slopsBest m_sawBest m_leastNow m_stableNow m_fitsNow m_someNow m_everyNow m_askLeft rt_seats rt_slack rt_saw rt_quarrel rt_people rt_pairs rt_forks rt_unsures rt_trieds rt_fed : Int32} {m_tv : Value} {m_tape m_v m_x m_past m_kept m_slopped m_seatBest m_otherIn rt_seat rt_one rt_other rt_years rt_kind rt_unsure rt_may rt_tried : Nat → Int32} {m_word : Int64} {rt_name : Nat → Int64} {R0 : Int32 × Int32 × Int32 × Int32 × Int32 × Int32 × Int64} (hf : f_M_needs (20088467 : Int64) m_tape m_size m_spot m_sort m_place m_number m_fault m_wrongAt m_word = some R0) : xV l E yX12_needs cX12_needs 2 none 7 164 [.ref (ad 0), .ref (E.2.2.1 1)] (wR E ad m_thrown m_trouble m_where m_tv m_tape m_taped m_size m_spot m_sort m_place m_number m_fault m_wrongAt m_word m_v m_x m_past m_kept m_acts m_images m_matchNow m_slopsNow m_matchesNow m_slopped m_seatBest m_fedBest m_slopsBest m_sawBest m_leastNow m_stableNow m_fitsNow m_someNow m_everyNow m_otherIn m_askLeft rt_seats rt_slack rt_saw rt_quarrel rt_people rt_pairs rt_forks rt_unsures rt_trieds rt_fed rt_seat rt_one rt_other rt_years rt_kind rt_unsure rt_may rt_tried rt_name) (wR E ad m_thrown m_trouble m_where m_tv m_tape m_taped m_size R0.1 R0.2.1 R0.2.2.1 R0.2.2.2.1 R0.2.2.2.2.1 R0.2.2.2.2.2.1 R0.2.2.2.2.2.2 m_v m_x m_past m_kept m_acts m_images m_matchNow m_slopsNow m_matchesNow m_slopped m_seatBest m_fedBest m_slopsBest m_sawBest m_leastNow m_stableNow m_fitsNow m_someNow m_everyNow m_otherIn m_askLeft rt_seats rt_slack rt_saw rt_quarrel rt_people rt_pairs rt_forks rt_unsures rt_trieds rt_fed rt_seat rt_one rt_other rt_years rt_kind rt_unsure rt_may rt_tried rt_name) := by
  refine xV_of (by decide) (Nat.le_of_ble_eq_true rfl) (fun p e s m args below meth c A C ls hl G => ?_)
  have hx := C.1
  have hb := C.2.1
  have hl : lv_has ls 2 [(0, .ref (ad 0)), (1, .ref (E.2.2.1 1))] := hl
  unfold f_M_needs at hf
  refine lv_aload_n hx hb dX12_needs_0 rfl (lv_at hl 0 rfl) ?_
  refine lv_aload_n hx hb dX12_needs_1 rfl (lv_at hl 1 rfl) ?_
  obtain ⟨x1, hc, hf⟩ := bd_go hf
  refine xI_V C G (c_M_isWord_m_seats_R hc) mX12_isWord kX12_110 (wR_at0) rfl ⟨Nat.le_of_ble_eq_true rfl, Nat.le_of_ble_eq_true rfl⟩ rfl hl.1 rfl (Nat.le_of_ble_eq_true rfl) ⟨Nat.le_refl _, Nat.le_refl _⟩ dX12_needs_2 (fun hz1 H locs G => ?_)
  obtain ⟨x2, hrx2, hf⟩ := bd_go hf
  have Jx2 : ∀ (H : Heap) (locs : List Loc) (ls : Array Slot), xG s E A (wR E ad m_thrown m_trouble m_where m_tv m_tape m_taped m_size m_spot x2.1 m_place m_number x2.2.1 x2.2.2 m_word m_v m_x m_past m_kept m_acts m_images m_matchNow m_slopsNow m_matchesNow m_slopped m_seatBest m_fedBest m_slopsBest m_sawBest m_leastNow m_stableNow m_fitsNow m_someNow m_everyNow m_otherIn m_askLeft rt_seats rt_slack rt_saw rt_quarrel rt_people rt_pairs rt_forks rt_unsures rt_trieds rt_fed rt_seat rt_one rt_other rt_years rt_kind rt_unsure rt_may rt_tried rt_name) H locs → lv_has ls 2 [(0, .ref (ad 0))] → W p l e (xR 7 164) s m args below meth c H locs 0 0 (MQ below (xqV E A (wR E ad m_thrown m_trouble m_where m_tv m_tape m_taped m_size R0.1 R0.2.1 R0.2.2.1 R0.2.2.2.1 R0.2.2.2.2.1 R0.2.2.2.2.2.1 R0.2.2.2.2.2.2 m_v m_x m_past m_kept m_acts m_images m_matchNow m_slopsNow m_matchesNow m_slopped m_seatBest m_fedBest m_slopsBest m_sawBest m_leastNow m_stableNow m_fitsNow m_someNow m_everyNow m_otherIn m_askLeft rt_seats rt_slack rt_saw rt_quarrel rt_people rt_pairs rt_forks rt_unsures rt_trieds rt_fed rt_seat rt_one rt_other rt_years rt_kind rt_unsure rt_may rt_tried rt_name)) args s 0 0 A) (F0 m 13 ls []) := by
    intro H locs ls G hl
    refine lv_aload_n hx hb dX12_needs_13 rfl (lv_at hl 0 rfl) ?_
    obtain ⟨x3, hc, hf⟩ := bd_go hf
    refine xV_V C G (c_M_goesOn_m_R hc) mX12_goesOn kX12_107 (wR_at0) rfl ⟨Nat.le_of_ble_eq_true rfl, Nat.le_of_ble_eq_true rfl⟩ rfl hl.1 rfl (Nat.le_of_ble_eq_true rfl) ⟨Nat.le_refl _, Nat.le_refl _⟩ dX12_needs_14 (fun H locs G => ?_)
    obtain rfl := Option.some.inj hf
    exact xV_ret C G dX12_needs_17
  have hf := hrx2
  refine lv_if_ne (tgt := 13) hx hb dX12_needs_5 (by decide) (fun h => ?_) (fun h => ?_)
  · have hf := it_f h hf
    obtain rfl := Option.some.inj hf
    exact Jx2 _ _ _ G (lv_sub hl [0] rfl)
  · have hf := it_t h hf
    refine lv_aload_n hx hb dX12_needs_8 rfl (lv_at hl 0 rfl) ?_
    refine lv_iconst (v := 1) hx hb dX12_needs_9 (by decide) ?_
    obtain ⟨x4, hc, hf⟩ := bd_go hf
    refine xV_V C G (c_M_flaw_m_R hc) mX12_flaw kX12_114 (wR_at0) rfl ⟨Nat.le_of_ble_eq_true rfl, Nat.le_of_ble_eq_true rfl⟩ rfl hl.1 rfl (Nat.le_of_ble_eq_true rfl) ⟨Nat.le_refl _, Nat.le_refl _⟩ dX12_needs_10 (fun H locs G => ?_)
    obtain rfl := Option.some.inj hf
    exact Jx2 _ _ _ G (lv_sub hl [0] rfl)
set_option maxHeartbeats 4000000 in
set_option maxRecDepth 100000 in
theorem c_M_readPart_m_seats_R {l : Launch} {E : xE} {ad : Nat → Nat} {m_thrown m_trouble m_where m_taped m_size m_spot m_sort m_place m_number m_fault m_wrongAt m_acts m_images m_matchNow m_slopsNow m_matchesNow m_fedBest m_slopsBest m_sawBest m_leastNow m_stableNow m_fitsNow m_someNow m_everyNow m_askLeft rt_seats rt_slack rt_saw rt_quarrel rt_people rt_pairs rt_forks rt_unsures rt_trieds rt_fed : Int32} {m_tv : Value} {m_tape m_v m_x m_past m_kept m_slopped m_seatBest m_otherIn rt_seat rt_one rt_other rt_years rt_kind rt_unsure rt_may rt_tried : Nat → Int32} {m_word : Int64} {rt_name : Nat → Int64} {l2 : Int32} {l3 : Int32} {R0 : Int32 × Int32 × Int32 × Int32 × Int32 × Int32 × Int32 × Int64} (hf : f_M_readPart (20088467 : Int64) l2 l3 m_tape m_size m_spot m_sort m_place m_number m_fault m_wrongAt m_word = some R0) : xI l E yX12_readPart cX12_readPart 4 (some .int) 8 185 [.ref (ad 0), .ref (E.2.2.1 1), .int l2, .int l3] (wR E ad m_thrown m_trouble m_where m_tv m_tape m_taped m_size m_spot m_sort m_place m_number m_fault m_wrongAt m_word m_v m_x m_past m_kept m_acts m_images m_matchNow m_slopsNow m_matchesNow m_slopped m_seatBest m_fedBest m_slopsBest m_sawBest m_leastNow m_stableNow m_fitsNow m_someNow m_everyNow m_otherIn m_askLeft rt_seats rt_slack rt_saw rt_quarrel rt_people rt_pairs rt_forks rt_unsures rt_trieds rt_fed rt_seat rt_one rt_other rt_years rt_kind rt_unsure rt_may rt_tried rt_name) (wR E ad m_thrown m_trouble m_where m_tv m_tape m_taped m_size R0.2.1 R0.2.2.1 R0.2.2.2.1 R0.2.2.2.2.1 R0.2.2.2.2.2.1 R0.2.2.2.2.2.2.1 R0.2.2.2.2.2.2.2 m_v m_x m_past m_kept m_acts m_images m_matchNow m_slopsNow m_matchesNow m_slopped m_seatBest m_fedBest m_slopsBest m_sawBest m_leastNow m_stableNow m_fitsNow m_someNow m_everyNow m_otherIn m_askLeft rt_seats rt_slack rt_saw rt_quarrel rt_people rt_pairs rt_forks rt_unsures rt_trieds rt_fed rt_seat rt_one rt_other rt_years rt_kind rt_unsure rt_may rt_tried rt_name) R0.1 := by
  refine xI_of (by decide) (Nat.le_of_ble_eq_true rfl) (fun p e s m args below meth c A C ls hl G => ?_)
  have hx := C.1
  have hb := C.2.1
  have hl : lv_has ls 4 [(0, .ref (ad 0)), (1, .ref (E.2.2.1 1)), (2, .int l2), (3, .int l3)] := hl
  unfold f_M_readPart at hf
  refine lv_aload_n hx hb dX12_readPart_0 rfl (lv_at hl 0 rfl) ?_
  refine lv_aload_n hx hb dX12_readPart_1 rfl (lv_at hl 1 rfl) ?_
  obtain ⟨x1, hc, hf⟩ := bd_go hf
  refine xV_V C G (c_M_needs_m_seats_R hc) mX12_needs kX12_126 (wR_at0) rfl ⟨Nat.le_of_ble_eq_true rfl, Nat.le_of_ble_eq_true rfl⟩ rfl hl.1 rfl (Nat.le_of_ble_eq_true rfl) ⟨Nat.le_refl _, Nat.le_refl _⟩ dX12_readPart_2 (fun H locs G => ?_)
  refine lv_aload_n hx hb dX12_readPart_5 rfl (lv_at hl 0 rfl) ?_
  refine lv_iload_n hx hb dX12_readPart_6 rfl (lv_at hl 2 rfl) ?_
  refine lv_iload_n hx hb dX12_readPart_7 rfl (lv_at hl 3 rfl) ?_
  obtain ⟨x2, hc, hf⟩ := bd_go hf
  refine xI_V C G (c_M_readWhole_m_R hc) mX12_readWhole kX12_130 (wR_at0) rfl ⟨Nat.le_of_ble_eq_true rfl, Nat.le_of_ble_eq_true rfl⟩ rfl hl.1 rfl (Nat.le_of_ble_eq_true rfl) ⟨Nat.le_refl _, Nat.le_refl _⟩ dX12_readPart_8 (fun hz H locs G => ?_)
  obtain rfl := Option.some.inj hf
  exact xI_ret C G rfl dX12_readPart_11
set_option maxHeartbeats 4000000 in
set_option maxRecDepth 100000 in
theorem c_M_isWord_m_slack_R {l : Launch} {E : xE} {ad : Nat → Nat} {m_thrown m_trouble m_where m_taped m_size m_spot m_sort m_place m_number m_fault m_wrongAt m_acts m_images m_matchNow m_slopsNow m_matchesNow m_fedBest m_slopsBest m_sawBest m_leastNow m_stableNow m_fitsNow m_someNow m_everyNow m_askLeft rt_seats rt_slack rt_saw rt_quarrel rt_people rt_pairs rt_forks rt_unsures rt_trieds rt_fed : Int32} {m_tv : Value} {m_tape m_v m_x m_past m_kept m_slopped m_seatBest m_otherIn rt_seat rt_one rt_other rt_years rt_kind rt_unsure rt_may rt_tried : Nat → Int32} {m_word : Int64} {rt_name : Nat → Int64} {R0 : Int32} (hf : f_M_isWord (20317291 : Int64) m_sort m_word = some R0) : xI l E yX12_isWord cX12_isWord 2 (some .boolean) 6 143 [.ref (ad 0), .ref (E.2.2.1 2)] (wR E ad m_thrown m_trouble m_where m_tv m_tape m_taped m_size m_spot m_sort m_place m_number m_fault m_wrongAt m_word m_v m_x m_past m_kept m_acts m_images m_matchNow m_slopsNow m_matchesNow m_slopped m_seatBest m_fedBest m_slopsBest m_sawBest m_leastNow m_stableNow m_fitsNow m_someNow m_everyNow m_otherIn m_askLeft rt_seats rt_slack rt_saw rt_quarrel rt_people rt_pairs rt_forks rt_unsures rt_trieds rt_fed rt_seat rt_one rt_other rt_years rt_kind rt_unsure rt_may rt_tried rt_name) (wR E ad m_thrown m_trouble m_where m_tv m_tape m_taped m_size m_spot m_sort m_place m_number m_fault m_wrongAt m_word m_v m_x m_past m_kept m_acts m_images m_matchNow m_slopsNow m_matchesNow m_slopped m_seatBest m_fedBest m_slopsBest m_sawBest m_leastNow m_stableNow m_fitsNow m_someNow m_everyNow m_otherIn m_askLeft rt_seats rt_slack rt_saw rt_quarrel rt_people rt_pairs rt_forks rt_unsures rt_trieds rt_fed rt_seat rt_one rt_other rt_years rt_kind rt_unsure rt_may rt_tried rt_name) R0 := by
  refine xI_of (by decide) (Nat.le_of_ble_eq_true rfl) (fun p e s m args below meth c A C ls hl G => ?_)
  have hx := C.1
  have hb := C.2.1
  have hl : lv_has ls 2 [(0, .ref (ad 0)), (1, .ref (E.2.2.1 2))] := hl
  unfold f_M_isWord at hf
  refine lv_aload_n hx hb dX12_isWord_0 rfl (lv_at hl 0 rfl) ?_
  refine x_get C G fX12_71.g (wR_at0) rfl dX12_isWord_1 ?_
  refine lv_iconst (v := 2) hx hb dX12_isWord_4 (by decide) ?_
  obtain ⟨b1, hr, hf⟩ := bd_go hf
  cases b1 with
  | true =>
    have hf := it_t rfl hf
    have J : ∀ (H : Heap) (locs : List Loc), xG s E A (wR E ad m_thrown m_trouble m_where m_tv m_tape m_taped m_size m_spot m_sort m_place m_number m_fault m_wrongAt m_word m_v m_x m_past m_kept m_acts m_images m_matchNow m_slopsNow m_matchesNow m_slopped m_seatBest m_fedBest m_slopsBest m_sawBest m_leastNow m_stableNow m_fitsNow m_someNow m_everyNow m_otherIn m_askLeft rt_seats rt_slack rt_saw rt_quarrel rt_people rt_pairs rt_forks rt_unsures rt_trieds rt_fed rt_seat rt_one rt_other rt_years rt_kind rt_unsure rt_may rt_tried rt_name) H locs → W p l e (xR 6 143) s m args below meth c H locs 0 0 (MQ below (xqI E A (wR E ad m_thrown m_trouble m_where m_tv m_tape m_taped m_size m_spot m_sort m_place m_number m_fault m_wrongAt m_word m_v m_x m_past m_kept m_acts m_images m_matchNow m_slopsNow m_matchesNow m_slopped m_seatBest m_fedBest m_slopsBest m_sawBest m_leastNow m_stableNow m_fitsNow m_someNow m_everyNow m_otherIn m_askLeft rt_seats rt_slack rt_saw rt_quarrel rt_people rt_pairs rt_forks rt_unsures rt_trieds rt_fed rt_seat rt_one rt_other rt_years rt_kind rt_unsure rt_may rt_tried rt_name) (some .boolean) R0) args s 0 0 A) (F0 m 24 ls []) := by
      intro H locs G
      refine lv_iconst (v := 0) hx hb dX12_isWord_24 (by decide) ?_
      obtain rfl := Option.some.inj hf
      exact xI_ret (r := (0 : Int32)) C G rfl dX12_isWord_25
    have hf := hr
    clear hr
    refine lv_icmp_ne (tgt := 24) hx hb dX12_isWord_5 (by decide) (fun h => ?_) (fun h => ?_)
    · have hf := it_f h hf
      exact J _ _ G
    · have hf := it_t h hf
      refine lv_aload_n hx hb dX12_isWord_8 rfl (lv_at hl 0 rfl) ?_
      refine x_get C G fX12_87.g (wR_at0) rfl dX12_isWord_9 ?_
      refine lv_aload_n hx hb dX12_isWord_12 rfl (lv_at hl 1 rfl) ?_
      refine xL_S C G (c_M_packed 2 (by decide) (20317291 : Int64) (by decide +kernel)) mX12_packed kX12_103 ⟨Nat.le_of_ble_eq_true rfl, Nat.le_of_ble_eq_true rfl⟩ rfl hl.1 rfl (Nat.le_of_ble_eq_true rfl) ⟨Nat.le_refl _, Nat.le_refl _⟩ dX12_isWord_13 (fun H locs G => ?_)
      refine W.lcmp hx hb dX12_isWord_16 ?_
      refine lv_if_ne (tgt := 24) hx hb dX12_isWord_17 (by decide) (fun h => ?_) (fun h => ?_)
      · have hf := it_f h hf
        exact J _ _ G
      · have hf := it_t h hf
        exact absurd (Option.some.inj hf) (by decide)
  | false =>
    have hf := it_f (by decide) hf
    have J : ∀ (H : Heap) (locs : List Loc), xG s E A (wR E ad m_thrown m_trouble m_where m_tv m_tape m_taped m_size m_spot m_sort m_place m_number m_fault m_wrongAt m_word m_v m_x m_past m_kept m_acts m_images m_matchNow m_slopsNow m_matchesNow m_slopped m_seatBest m_fedBest m_slopsBest m_sawBest m_leastNow m_stableNow m_fitsNow m_someNow m_everyNow m_otherIn m_askLeft rt_seats rt_slack rt_saw rt_quarrel rt_people rt_pairs rt_forks rt_unsures rt_trieds rt_fed rt_seat rt_one rt_other rt_years rt_kind rt_unsure rt_may rt_tried rt_name) H locs → W p l e (xR 6 143) s m args below meth c H locs 0 0 (MQ below (xqI E A (wR E ad m_thrown m_trouble m_where m_tv m_tape m_taped m_size m_spot m_sort m_place m_number m_fault m_wrongAt m_word m_v m_x m_past m_kept m_acts m_images m_matchNow m_slopsNow m_matchesNow m_slopped m_seatBest m_fedBest m_slopsBest m_sawBest m_leastNow m_stableNow m_fitsNow m_someNow m_everyNow m_otherIn m_askLeft rt_seats rt_slack rt_saw rt_quarrel rt_people rt_pairs rt_forks rt_unsures rt_trieds rt_fed rt_seat rt_one rt_other rt_years rt_kind rt_unsure rt_may rt_tried rt_name) (some .boolean) R0) args s 0 0 A) (F0 m 20 ls []) := by
      intro H locs G
      refine lv_iconst (v := 1) hx hb dX12_isWord_20 (by decide) ?_
      refine lv_goto (tgt := 25) hx hb dX12_isWord_21 (by decide) ?_
      obtain rfl := Option.some.inj hf
      exact xI_ret (r := (1 : Int32)) C G rfl dX12_isWord_25
    have hf := hr
    clear hr
    refine lv_icmp_ne (tgt := 24) hx hb dX12_isWord_5 (by decide) (fun h => ?_) (fun h => ?_)
    · have hf := it_f h hf
      exact absurd (Option.some.inj hf) (by decide)
    · have hf := it_t h hf
      refine lv_aload_n hx hb dX12_isWord_8 rfl (lv_at hl 0 rfl) ?_
      refine x_get C G fX12_87.g (wR_at0) rfl dX12_isWord_9 ?_
      refine lv_aload_n hx hb dX12_isWord_12 rfl (lv_at hl 1 rfl) ?_
      refine xL_S C G (c_M_packed 2 (by decide) (20317291 : Int64) (by decide +kernel)) mX12_packed kX12_103 ⟨Nat.le_of_ble_eq_true rfl, Nat.le_of_ble_eq_true rfl⟩ rfl hl.1 rfl (Nat.le_of_ble_eq_true rfl) ⟨Nat.le_refl _, Nat.le_refl _⟩ dX12_isWord_13 (fun H locs G => ?_)
      refine W.lcmp hx hb dX12_isWord_16 ?_
      refine lv_if_ne (tgt := 24) hx hb dX12_isWord_17 (by decide) (fun h => ?_) (fun h => ?_)
      · have hf := it_f h hf
        exact absurd (Option.some.inj hf) (by decide)
      · have hf := it_t h hf
        exact J _ _ G
set_option maxHeartbeats 4000000 in
set_option maxRecDepth 100000 in
theorem c_M_needs_m_slack_R {l : Launch} {E : xE} {ad : Nat → Nat} {m_thrown m_trouble m_where m_taped m_size m_spot m_sort m_place m_number m_fault m_wrongAt m_acts m_images m_matchNow m_slopsNow m_matchesNow m_fedBest m_slopsBest m_sawBest m_leastNow m_stableNow m_fitsNow m_someNow m_everyNow m_askLeft rt_seats rt_slack rt_saw rt_quarrel rt_people rt_pairs rt_forks rt_unsures rt_trieds rt_fed : Int32} {m_tv : Value} {m_tape m_v m_x m_past m_kept m_slopped m_seatBest m_otherIn rt_seat rt_one rt_other rt_years rt_kind rt_unsure rt_may rt_tried : Nat → Int32} {m_word : Int64} {rt_name : Nat → Int64} {R0 : Int32 × Int32 × Int32 × Int32 × Int32 × Int32 × Int64} (hf : f_M_needs (20317291 : Int64) m_tape m_size m_spot m_sort m_place m_number m_fault m_wrongAt m_word = some R0) : xV l E yX12_needs cX12_needs 2 none 7 164 [.ref (ad 0), .ref (E.2.2.1 2)] (wR E ad m_thrown m_trouble m_where m_tv m_tape m_taped m_size m_spot m_sort m_place m_number m_fault m_wrongAt m_word m_v m_x m_past m_kept m_acts m_images m_matchNow m_slopsNow m_matchesNow m_slopped m_seatBest m_fedBest m_slopsBest m_sawBest m_leastNow m_stableNow m_fitsNow m_someNow m_everyNow m_otherIn m_askLeft rt_seats rt_slack rt_saw rt_quarrel rt_people rt_pairs rt_forks rt_unsures rt_trieds rt_fed rt_seat rt_one rt_other rt_years rt_kind rt_unsure rt_may rt_tried rt_name) (wR E ad m_thrown m_trouble m_where m_tv m_tape m_taped m_size R0.1 R0.2.1 R0.2.2.1 R0.2.2.2.1 R0.2.2.2.2.1 R0.2.2.2.2.2.1 R0.2.2.2.2.2.2 m_v m_x m_past m_kept m_acts m_images m_matchNow m_slopsNow m_matchesNow m_slopped m_seatBest m_fedBest m_slopsBest m_sawBest m_leastNow m_stableNow m_fitsNow m_someNow m_everyNow m_otherIn m_askLeft rt_seats rt_slack rt_saw rt_quarrel rt_people rt_pairs rt_forks rt_unsures rt_trieds rt_fed rt_seat rt_one rt_other rt_years rt_kind rt_unsure rt_may rt_tried rt_name) := by
  refine xV_of (by decide) (Nat.le_of_ble_eq_true rfl) (fun p e s m args below meth c A C ls hl G => ?_)
  have hx := C.1
  have hb := C.2.1
  have hl : lv_has ls 2 [(0, .ref (ad 0)), (1, .ref (E.2.2.1 2))] := hl
  unfold f_M_needs at hf
  refine lv_aload_n hx hb dX12_needs_0 rfl (lv_at hl 0 rfl) ?_
  refine lv_aload_n hx hb dX12_needs_1 rfl (lv_at hl 1 rfl) ?_
  obtain ⟨x1, hc, hf⟩ := bd_go hf
  refine xI_V C G (c_M_isWord_m_slack_R hc) mX12_isWord kX12_110 (wR_at0) rfl ⟨Nat.le_of_ble_eq_true rfl, Nat.le_of_ble_eq_true rfl⟩ rfl hl.1 rfl (Nat.le_of_ble_eq_true rfl) ⟨Nat.le_refl _, Nat.le_refl _⟩ dX12_needs_2 (fun hz1 H locs G => ?_)
  obtain ⟨x2, hrx2, hf⟩ := bd_go hf
  have Jx2 : ∀ (H : Heap) (locs : List Loc) (ls : Array Slot), xG s E A (wR E ad m_thrown m_trouble m_where m_tv m_tape m_taped m_size m_spot x2.1 m_place m_number x2.2.1 x2.2.2 m_word m_v m_x m_past m_kept m_acts m_images m_matchNow m_slopsNow m_matchesNow m_slopped m_seatBest m_fedBest m_slopsBest m_sawBest m_leastNow m_stableNow m_fitsNow m_someNow m_everyNow m_otherIn m_askLeft rt_seats rt_slack rt_saw rt_quarrel rt_people rt_pairs rt_forks rt_unsures rt_trieds rt_fed rt_seat rt_one rt_other rt_years rt_kind rt_unsure rt_may rt_tried rt_name) H locs → lv_has ls 2 [(0, .ref (ad 0))] → W p l e (xR 7 164) s m args below meth c H locs 0 0 (MQ below (xqV E A (wR E ad m_thrown m_trouble m_where m_tv m_tape m_taped m_size R0.1 R0.2.1 R0.2.2.1 R0.2.2.2.1 R0.2.2.2.2.1 R0.2.2.2.2.2.1 R0.2.2.2.2.2.2 m_v m_x m_past m_kept m_acts m_images m_matchNow m_slopsNow m_matchesNow m_slopped m_seatBest m_fedBest m_slopsBest m_sawBest m_leastNow m_stableNow m_fitsNow m_someNow m_everyNow m_otherIn m_askLeft rt_seats rt_slack rt_saw rt_quarrel rt_people rt_pairs rt_forks rt_unsures rt_trieds rt_fed rt_seat rt_one rt_other rt_years rt_kind rt_unsure rt_may rt_tried rt_name)) args s 0 0 A) (F0 m 13 ls []) := by
    intro H locs ls G hl
    refine lv_aload_n hx hb dX12_needs_13 rfl (lv_at hl 0 rfl) ?_
    obtain ⟨x3, hc, hf⟩ := bd_go hf
    refine xV_V C G (c_M_goesOn_m_R hc) mX12_goesOn kX12_107 (wR_at0) rfl ⟨Nat.le_of_ble_eq_true rfl, Nat.le_of_ble_eq_true rfl⟩ rfl hl.1 rfl (Nat.le_of_ble_eq_true rfl) ⟨Nat.le_refl _, Nat.le_refl _⟩ dX12_needs_14 (fun H locs G => ?_)
    obtain rfl := Option.some.inj hf
    exact xV_ret C G dX12_needs_17
  have hf := hrx2
  refine lv_if_ne (tgt := 13) hx hb dX12_needs_5 (by decide) (fun h => ?_) (fun h => ?_)
  · have hf := it_f h hf
    obtain rfl := Option.some.inj hf
    exact Jx2 _ _ _ G (lv_sub hl [0] rfl)
  · have hf := it_t h hf
    refine lv_aload_n hx hb dX12_needs_8 rfl (lv_at hl 0 rfl) ?_
    refine lv_iconst (v := 1) hx hb dX12_needs_9 (by decide) ?_
    obtain ⟨x4, hc, hf⟩ := bd_go hf
    refine xV_V C G (c_M_flaw_m_R hc) mX12_flaw kX12_114 (wR_at0) rfl ⟨Nat.le_of_ble_eq_true rfl, Nat.le_of_ble_eq_true rfl⟩ rfl hl.1 rfl (Nat.le_of_ble_eq_true rfl) ⟨Nat.le_refl _, Nat.le_refl _⟩ dX12_needs_10 (fun H locs G => ?_)
    obtain rfl := Option.some.inj hf
    exact Jx2 _ _ _ G (lv_sub hl [0] rfl)
set_option maxHeartbeats 4000000 in
set_option maxRecDepth 100000 in
theorem c_M_readPart_m_slack_R {l : Launch} {E : xE} {ad : Nat → Nat} {m_thrown m_trouble m_where m_taped m_size m_spot m_sort m_place m_number m_fault m_wrongAt m_acts m_images m_matchNow m_slopsNow m_matchesNow m_fedBest m_slopsBest m_sawBest m_leastNow m_stableNow m_fitsNow m_someNow m_everyNow m_askLeft rt_seats rt_slack rt_saw rt_quarrel rt_people rt_pairs rt_forks rt_unsures rt_trieds rt_fed : Int32} {m_tv : Value} {m_tape m_v m_x m_past m_kept m_slopped m_seatBest m_otherIn rt_seat rt_one rt_other rt_years rt_kind rt_unsure rt_may rt_tried : Nat → Int32} {m_word : Int64} {rt_name : Nat → Int64} {l2 : Int32} {l3 : Int32} {R0 : Int32 × Int32 × Int32 × Int32 × Int32 × Int32 × Int32 × Int64} (hf : f_M_readPart (20317291 : Int64) l2 l3 m_tape m_size m_spot m_sort m_place m_number m_fault m_wrongAt m_word = some R0) : xI l E yX12_readPart cX12_readPart 4 (some .int) 8 185 [.ref (ad 0), .ref (E.2.2.1 2), .int l2, .int l3] (wR E ad m_thrown m_trouble m_where m_tv m_tape m_taped m_size m_spot m_sort m_place m_number m_fault m_wrongAt m_word m_v m_x m_past m_kept m_acts m_images m_matchNow m_slopsNow m_matchesNow m_slopped m_seatBest m_fedBest m_slopsBest m_sawBest m_leastNow m_stableNow m_fitsNow m_someNow m_everyNow m_otherIn m_askLeft rt_seats rt_slack rt_saw rt_quarrel rt_people rt_pairs rt_forks rt_unsures rt_trieds rt_fed rt_seat rt_one rt_other rt_years rt_kind rt_unsure rt_may rt_tried rt_name) (wR E ad m_thrown m_trouble m_where m_tv m_tape m_taped m_size R0.2.1 R0.2.2.1 R0.2.2.2.1 R0.2.2.2.2.1 R0.2.2.2.2.2.1 R0.2.2.2.2.2.2.1 R0.2.2.2.2.2.2.2 m_v m_x m_past m_kept m_acts m_images m_matchNow m_slopsNow m_matchesNow m_slopped m_seatBest m_fedBest m_slopsBest m_sawBest m_leastNow m_stableNow m_fitsNow m_someNow m_everyNow m_otherIn m_askLeft rt_seats rt_slack rt_saw rt_quarrel rt_people rt_pairs rt_forks rt_unsures rt_trieds rt_fed rt_seat rt_one rt_other rt_years rt_kind rt_unsure rt_may rt_tried rt_name) R0.1 := by
  refine xI_of (by decide) (Nat.le_of_ble_eq_true rfl) (fun p e s m args below meth c A C ls hl G => ?_)
  have hx := C.1
  have hb := C.2.1
  have hl : lv_has ls 4 [(0, .ref (ad 0)), (1, .ref (E.2.2.1 2)), (2, .int l2), (3, .int l3)] := hl
  unfold f_M_readPart at hf
  refine lv_aload_n hx hb dX12_readPart_0 rfl (lv_at hl 0 rfl) ?_
  refine lv_aload_n hx hb dX12_readPart_1 rfl (lv_at hl 1 rfl) ?_
  obtain ⟨x1, hc, hf⟩ := bd_go hf
  refine xV_V C G (c_M_needs_m_slack_R hc) mX12_needs kX12_126 (wR_at0) rfl ⟨Nat.le_of_ble_eq_true rfl, Nat.le_of_ble_eq_true rfl⟩ rfl hl.1 rfl (Nat.le_of_ble_eq_true rfl) ⟨Nat.le_refl _, Nat.le_refl _⟩ dX12_readPart_2 (fun H locs G => ?_)
  refine lv_aload_n hx hb dX12_readPart_5 rfl (lv_at hl 0 rfl) ?_
  refine lv_iload_n hx hb dX12_readPart_6 rfl (lv_at hl 2 rfl) ?_
  refine lv_iload_n hx hb dX12_readPart_7 rfl (lv_at hl 3 rfl) ?_
  obtain ⟨x2, hc, hf⟩ := bd_go hf
  refine xI_V C G (c_M_readWhole_m_R hc) mX12_readWhole kX12_130 (wR_at0) rfl ⟨Nat.le_of_ble_eq_true rfl, Nat.le_of_ble_eq_true rfl⟩ rfl hl.1 rfl (Nat.le_of_ble_eq_true rfl) ⟨Nat.le_refl _, Nat.le_refl _⟩ dX12_readPart_8 (fun hz H locs G => ?_)
  obtain rfl := Option.some.inj hf
  exact xI_ret C G rfl dX12_readPart_11
set_option maxHeartbeats 4000000 in
set_option maxRecDepth 100000 in
theorem c_M_isWord_m_saw_R {l : Launch} {E : xE} {ad : Nat → Nat} {m_thrown m_trouble m_where m_taped m_size m_spot m_sort m_place m_number m_fault m_wrongAt m_acts m_images m_matchNow m_slopsNow m_matchesNow m_fedBest m_slopsBest m_sawBest m_leastNow m_stableNow m_fitsNow m_someNow m_everyNow m_askLeft rt_seats rt_slack rt_saw rt_quarrel rt_people rt_pairs rt_forks rt_unsures rt_trieds rt_fed : Int32} {m_tv : Value} {m_tape m_v m_x m_past m_kept m_slopped m_seatBest m_otherIn rt_seat rt_one rt_other rt_years rt_kind rt_unsure rt_may rt_tried : Nat → Int32} {m_word : Int64} {rt_name : Nat → Int64} {R0 : Int32} (hf : f_M_isWord (19511 : Int64) m_sort m_word = some R0) : xI l E yX12_isWord cX12_isWord 2 (some .boolean) 6 143 [.ref (ad 0), .ref (E.2.2.1 3)] (wR E ad m_thrown m_trouble m_where m_tv m_tape m_taped m_size m_spot m_sort m_place m_number m_fault m_wrongAt m_word m_v m_x m_past m_kept m_acts m_images m_matchNow m_slopsNow m_matchesNow m_slopped m_seatBest m_fedBest m_slopsBest m_sawBest m_leastNow m_stableNow m_fitsNow m_someNow m_everyNow m_otherIn m_askLeft rt_seats rt_slack rt_saw rt_quarrel rt_people rt_pairs rt_forks rt_unsures rt_trieds rt_fed rt_seat rt_one rt_other rt_years rt_kind rt_unsure rt_may rt_tried rt_name) (wR E ad m_thrown m_trouble m_where m_tv m_tape m_taped m_size m_spot m_sort m_place m_number m_fault m_wrongAt m_word m_v m_x m_past m_kept m_acts m_images m_matchNow m_slopsNow m_matchesNow m_slopped m_seatBest m_fedBest m_slopsBest m_sawBest m_leastNow m_stableNow m_fitsNow m_someNow m_everyNow m_otherIn m_askLeft rt_seats rt_slack rt_saw rt_quarrel rt_people rt_pairs rt_forks rt_unsures rt_trieds rt_fed rt_seat rt_one rt_other rt_years rt_kind rt_unsure rt_may rt_tried rt_name) R0 := by
  refine xI_of (by decide) (Nat.le_of_ble_eq_true rfl) (fun p e s m args below meth c A C ls hl G => ?_)
  have hx := C.1
  have hb := C.2.1
  have hl : lv_has ls 2 [(0, .ref (ad 0)), (1, .ref (E.2.2.1 3))] := hl
  unfold f_M_isWord at hf
  refine lv_aload_n hx hb dX12_isWord_0 rfl (lv_at hl 0 rfl) ?_
  refine x_get C G fX12_71.g (wR_at0) rfl dX12_isWord_1 ?_
  refine lv_iconst (v := 2) hx hb dX12_isWord_4 (by decide) ?_
  obtain ⟨b1, hr, hf⟩ := bd_go hf
  cases b1 with
  | true =>
    have hf := it_t rfl hf
    have J : ∀ (H : Heap) (locs : List Loc), xG s E A (wR E ad m_thrown m_trouble m_where m_tv m_tape m_taped m_size m_spot m_sort m_place m_number m_fault m_wrongAt m_word m_v m_x m_past m_kept m_acts m_images m_matchNow m_slopsNow m_matchesNow m_slopped m_seatBest m_fedBest m_slopsBest m_sawBest m_leastNow m_stableNow m_fitsNow m_someNow m_everyNow m_otherIn m_askLeft rt_seats rt_slack rt_saw rt_quarrel rt_people rt_pairs rt_forks rt_unsures rt_trieds rt_fed rt_seat rt_one rt_other rt_years rt_kind rt_unsure rt_may rt_tried rt_name) H locs → W p l e (xR 6 143) s m args below meth c H locs 0 0 (MQ below (xqI E A (wR E ad m_thrown m_trouble m_where m_tv m_tape m_taped m_size m_spot m_sort m_place m_number m_fault m_wrongAt m_word m_v m_x m_past m_kept m_acts m_images m_matchNow m_slopsNow m_matchesNow m_slopped m_seatBest m_fedBest m_slopsBest m_sawBest m_leastNow m_stableNow m_fitsNow m_someNow m_everyNow m_otherIn m_askLeft rt_seats rt_slack rt_saw rt_quarrel rt_people rt_pairs rt_forks rt_unsures rt_trieds rt_fed rt_seat rt_one rt_other rt_years rt_kind rt_unsure rt_may rt_tried rt_name) (some .boolean) R0) args s 0 0 A) (F0 m 24 ls []) := by
      intro H locs G
      refine lv_iconst (v := 0) hx hb dX12_isWord_24 (by decide) ?_
      obtain rfl := Option.some.inj hf
      exact xI_ret (r := (0 : Int32)) C G rfl dX12_isWord_25
    have hf := hr
    clear hr
    refine lv_icmp_ne (tgt := 24) hx hb dX12_isWord_5 (by decide) (fun h => ?_) (fun h => ?_)
    · have hf := it_f h hf
      exact J _ _ G
    · have hf := it_t h hf
      refine lv_aload_n hx hb dX12_isWord_8 rfl (lv_at hl 0 rfl) ?_
      refine x_get C G fX12_87.g (wR_at0) rfl dX12_isWord_9 ?_
      refine lv_aload_n hx hb dX12_isWord_12 rfl (lv_at hl 1 rfl) ?_
      refine xL_S C G (c_M_packed 3 (by decide) (19511 : Int64) (by decide +kernel)) mX12_packed kX12_103 ⟨Nat.le_of_ble_eq_true rfl, Nat.le_of_ble_eq_true rfl⟩ rfl hl.1 rfl (Nat.le_of_ble_eq_true rfl) ⟨Nat.le_refl _, Nat.le_refl _⟩ dX12_isWord_13 (fun H locs G => ?_)
      refine W.lcmp hx hb dX12_isWord_16 ?_
      refine lv_if_ne (tgt := 24) hx hb dX12_isWord_17 (by decide) (fun h => ?_) (fun h => ?_)
      · have hf := it_f h hf
        exact J _ _ G
      · have hf := it_t h hf
        exact absurd (Option.some.inj hf) (by decide)
  | false =>
    have hf := it_f (by decide) hf
    have J : ∀ (H : Heap) (locs : List Loc), xG s E A (wR E ad m_thrown m_trouble m_where m_tv m_tape m_taped m_size m_spot m_sort m_place m_number m_fault m_wrongAt m_word m_v m_x m_past m_kept m_acts m_images m_matchNow m_slopsNow m_matchesNow m_slopped m_seatBest m_fedBest m_slopsBest m_sawBest m_leastNow m_stableNow m_fitsNow m_someNow m_everyNow m_otherIn m_askLeft rt_seats rt_slack rt_saw rt_quarrel rt_people rt_pairs rt_forks rt_unsures rt_trieds rt_fed rt_seat rt_one rt_other rt_years rt_kind rt_unsure rt_may rt_tried rt_name) H locs → W p l e (xR 6 143) s m args below meth c H locs 0 0 (MQ below (xqI E A (wR E ad m_thrown m_trouble m_where m_tv m_tape m_taped m_size m_spot m_sort m_place m_number m_fault m_wrongAt m_word m_v m_x m_past m_kept m_acts m_images m_matchNow m_slopsNow m_matchesNow m_slopped m_seatBest m_fedBest m_slopsBest m_sawBest m_leastNow m_stableNow m_fitsNow m_someNow m_everyNow m_otherIn m_askLeft rt_seats rt_slack rt_saw rt_quarrel rt_people rt_pairs rt_forks rt_unsures rt_trieds rt_fed rt_seat rt_one rt_other rt_years rt_kind rt_unsure rt_may rt_tried rt_name) (some .boolean) R0) args s 0 0 A) (F0 m 20 ls []) := by
      intro H locs G
      refine lv_iconst (v := 1) hx hb dX12_isWord_20 (by decide) ?_
      refine lv_goto (tgt := 25) hx hb dX12_isWord_21 (by decide) ?_
      obtain rfl := Option.some.inj hf
      exact xI_ret (r := (1 : Int32)) C G rfl dX12_isWord_25
    have hf := hr
    clear hr
    refine lv_icmp_ne (tgt := 24) hx hb dX12_isWord_5 (by decide) (fun h => ?_) (fun h => ?_)
    · have hf := it_f h hf
      exact absurd (Option.some.inj hf) (by decide)
    · have hf := it_t h hf
      refine lv_aload_n hx hb dX12_isWord_8 rfl (lv_at hl 0 rfl) ?_
      refine x_get C G fX12_87.g (wR_at0) rfl dX12_isWord_9 ?_
      refine lv_aload_n hx hb dX12_isWord_12 rfl (lv_at hl 1 rfl) ?_
      refine xL_S C G (c_M_packed 3 (by decide) (19511 : Int64) (by decide +kernel)) mX12_packed kX12_103 ⟨Nat.le_of_ble_eq_true rfl, Nat.le_of_ble_eq_true rfl⟩ rfl hl.1 rfl (Nat.le_of_ble_eq_true rfl) ⟨Nat.le_refl _, Nat.le_refl _⟩ dX12_isWord_13 (fun H locs G => ?_)
      refine W.lcmp hx hb dX12_isWord_16 ?_
      refine lv_if_ne (tgt := 24) hx hb dX12_isWord_17 (by decide) (fun h => ?_) (fun h => ?_)
      · have hf := it_f h hf
        exact absurd (Option.some.inj hf) (by decide)
      · have hf := it_t h hf
        exact J _ _ G
set_option maxHeartbeats 4000000 in
set_option maxRecDepth 100000 in
theorem c_M_needs_m_saw_R {l : Launch} {E : xE} {ad : Nat → Nat} {m_thrown m_trouble m_where m_taped m_size m_spot m_sort m_place m_number m_fault m_wrongAt m_acts m_images m_matchNow m_slopsNow m_matchesNow m_fedBest m_slopsBest m_sawBest m_leastNow m_stableNow m_fitsNow m_someNow m_everyNow m_askLeft rt_seats rt_slack rt_saw rt_quarrel rt_people rt_pairs rt_forks rt_unsures rt_trieds rt_fed : Int32} {m_tv : Value} {m_tape m_v m_x m_past m_kept m_slopped m_seatBest m_otherIn rt_seat rt_one rt_other rt_years rt_kind rt_unsure rt_may rt_tried : Nat → Int32} {m_word : Int64} {rt_name : Nat → Int64} {R0 : Int32 × Int32 × Int32 × Int32 × Int32 × Int32 × Int64} (hf : f_M_needs (19511 : Int64) m_tape m_size m_spot m_sort m_place m_number m_fault m_wrongAt m_word = some R0) : xV l E yX12_needs cX12_needs 2 none 7 164 [.ref (ad 0), .ref (E.2.2.1 3)] (wR E ad m_thrown m_trouble m_where m_tv m_tape m_taped m_size m_spot m_sort m_place m_number m_fault m_wrongAt m_word m_v m_x m_past m_kept m_acts m_images m_matchNow m_slopsNow m_matchesNow m_slopped m_seatBest m_fedBest m_slopsBest m_sawBest m_leastNow m_stableNow m_fitsNow m_someNow m_everyNow m_otherIn m_askLeft rt_seats rt_slack rt_saw rt_quarrel rt_people rt_pairs rt_forks rt_unsures rt_trieds rt_fed rt_seat rt_one rt_other rt_years rt_kind rt_unsure rt_may rt_tried rt_name) (wR E ad m_thrown m_trouble m_where m_tv m_tape m_taped m_size R0.1 R0.2.1 R0.2.2.1 R0.2.2.2.1 R0.2.2.2.2.1 R0.2.2.2.2.2.1 R0.2.2.2.2.2.2 m_v m_x m_past m_kept m_acts m_images m_matchNow m_slopsNow m_matchesNow m_slopped m_seatBest m_fedBest m_slopsBest m_sawBest m_leastNow m_stableNow m_fitsNow m_someNow m_everyNow m_otherIn m_askLeft rt_seats rt_slack rt_saw rt_quarrel rt_people rt_pairs rt_forks rt_unsures rt_trieds rt_fed rt_seat rt_one rt_other rt_years rt_kind rt_unsure rt_may rt_tried rt_name) := by
  refine xV_of (by decide) (Nat.le_of_ble_eq_true rfl) (fun p e s m args below meth c A C ls hl G => ?_)
  have hx := C.1
  have hb := C.2.1
  have hl : lv_has ls 2 [(0, .ref (ad 0)), (1, .ref (E.2.2.1 3))] := hl
  unfold f_M_needs at hf
  refine lv_aload_n hx hb dX12_needs_0 rfl (lv_at hl 0 rfl) ?_
  refine lv_aload_n hx hb dX12_needs_1 rfl (lv_at hl 1 rfl) ?_
  obtain ⟨x1, hc, hf⟩ := bd_go hf
  refine xI_V C G (c_M_isWord_m_saw_R hc) mX12_isWord kX12_110 (wR_at0) rfl ⟨Nat.le_of_ble_eq_true rfl, Nat.le_of_ble_eq_true rfl⟩ rfl hl.1 rfl (Nat.le_of_ble_eq_true rfl) ⟨Nat.le_refl _, Nat.le_refl _⟩ dX12_needs_2 (fun hz1 H locs G => ?_)
  obtain ⟨x2, hrx2, hf⟩ := bd_go hf
  have Jx2 : ∀ (H : Heap) (locs : List Loc) (ls : Array Slot), xG s E A (wR E ad m_thrown m_trouble m_where m_tv m_tape m_taped m_size m_spot x2.1 m_place m_number x2.2.1 x2.2.2 m_word m_v m_x m_past m_kept m_acts m_images m_matchNow m_slopsNow m_matchesNow m_slopped m_seatBest m_fedBest m_slopsBest m_sawBest m_leastNow m_stableNow m_fitsNow m_someNow m_everyNow m_otherIn m_askLeft rt_seats rt_slack rt_saw rt_quarrel rt_people rt_pairs rt_forks rt_unsures rt_trieds rt_fed rt_seat rt_one rt_other rt_years rt_kind rt_unsure rt_may rt_tried rt_name) H locs → lv_has ls 2 [(0, .ref (ad 0))] → W p l e (xR 7 164) s m args below meth c H locs 0 0 (MQ below (xqV E A (wR E ad m_thrown m_trouble m_where m_tv m_tape m_taped m_size R0.1 R0.2.1 R0.2.2.1 R0.2.2.2.1 R0.2.2.2.2.1 R0.2.2.2.2.2.1 R0.2.2.2.2.2.2 m_v m_x m_past m_kept m_acts m_images m_matchNow m_slopsNow m_matchesNow m_slopped m_seatBest m_fedBest m_slopsBest m_sawBest m_leastNow m_stableNow m_fitsNow m_someNow m_everyNow m_otherIn m_askLeft rt_seats rt_slack rt_saw rt_quarrel rt_people rt_pairs rt_forks rt_unsures rt_trieds rt_fed rt_seat rt_one rt_other rt_years rt_kind rt_unsure rt_may rt_tried rt_name)) args s 0 0 A) (F0 m 13 ls []) := by
    intro H locs ls G hl
    refine lv_aload_n hx hb dX12_needs_13 rfl (lv_at hl 0 rfl) ?_
    obtain ⟨x3, hc, hf⟩ := bd_go hf
    refine xV_V C G (c_M_goesOn_m_R hc) mX12_goesOn kX12_107 (wR_at0) rfl ⟨Nat.le_of_ble_eq_true rfl, Nat.le_of_ble_eq_true rfl⟩ rfl hl.1 rfl (Nat.le_of_ble_eq_true rfl) ⟨Nat.le_refl _, Nat.le_refl _⟩ dX12_needs_14 (fun H locs G => ?_)
    obtain rfl := Option.some.inj hf
    exact xV_ret C G dX12_needs_17
  have hf := hrx2
  refine lv_if_ne (tgt := 13) hx hb dX12_needs_5 (by decide) (fun h => ?_) (fun h => ?_)
  · have hf := it_f h hf
    obtain rfl := Option.some.inj hf
    exact Jx2 _ _ _ G (lv_sub hl [0] rfl)
  · have hf := it_t h hf
    refine lv_aload_n hx hb dX12_needs_8 rfl (lv_at hl 0 rfl) ?_
    refine lv_iconst (v := 1) hx hb dX12_needs_9 (by decide) ?_
    obtain ⟨x4, hc, hf⟩ := bd_go hf
    refine xV_V C G (c_M_flaw_m_R hc) mX12_flaw kX12_114 (wR_at0) rfl ⟨Nat.le_of_ble_eq_true rfl, Nat.le_of_ble_eq_true rfl⟩ rfl hl.1 rfl (Nat.le_of_ble_eq_true rfl) ⟨Nat.le_refl _, Nat.le_refl _⟩ dX12_needs_10 (fun H locs G => ?_)
    obtain rfl := Option.some.inj hf
    exact Jx2 _ _ _ G (lv_sub hl [0] rfl)
set_option maxHeartbeats 4000000 in
set_option maxRecDepth 100000 in
theorem c_M_readPart_m_saw_R {l : Launch} {E : xE} {ad : Nat → Nat} {m_thrown m_trouble m_where m_taped m_size m_spot m_sort m_place m_number m_fault m_wrongAt m_acts m_images m_matchNow m_slopsNow m_matchesNow m_fedBest m_slopsBest m_sawBest m_leastNow m_stableNow m_fitsNow m_someNow m_everyNow m_askLeft rt_seats rt_slack rt_saw rt_quarrel rt_people rt_pairs rt_forks rt_unsures rt_trieds rt_fed : Int32} {m_tv : Value} {m_tape m_v m_x m_past m_kept m_slopped m_seatBest m_otherIn rt_seat rt_one rt_other rt_years rt_kind rt_unsure rt_may rt_tried : Nat → Int32} {m_word : Int64} {rt_name : Nat → Int64} {l2 : Int32} {l3 : Int32} {R0 : Int32 × Int32 × Int32 × Int32 × Int32 × Int32 × Int32 × Int64} (hf : f_M_readPart (19511 : Int64) l2 l3 m_tape m_size m_spot m_sort m_place m_number m_fault m_wrongAt m_word = some R0) : xI l E yX12_readPart cX12_readPart 4 (some .int) 8 185 [.ref (ad 0), .ref (E.2.2.1 3), .int l2, .int l3] (wR E ad m_thrown m_trouble m_where m_tv m_tape m_taped m_size m_spot m_sort m_place m_number m_fault m_wrongAt m_word m_v m_x m_past m_kept m_acts m_images m_matchNow m_slopsNow m_matchesNow m_slopped m_seatBest m_fedBest m_slopsBest m_sawBest m_leastNow m_stableNow m_fitsNow m_someNow m_everyNow m_otherIn m_askLeft rt_seats rt_slack rt_saw rt_quarrel rt_people rt_pairs rt_forks rt_unsures rt_trieds rt_fed rt_seat rt_one rt_other rt_years rt_kind rt_unsure rt_may rt_tried rt_name) (wR E ad m_thrown m_trouble m_where m_tv m_tape m_taped m_size R0.2.1 R0.2.2.1 R0.2.2.2.1 R0.2.2.2.2.1 R0.2.2.2.2.2.1 R0.2.2.2.2.2.2.1 R0.2.2.2.2.2.2.2 m_v m_x m_past m_kept m_acts m_images m_matchNow m_slopsNow m_matchesNow m_slopped m_seatBest m_fedBest m_slopsBest m_sawBest m_leastNow m_stableNow m_fitsNow m_someNow m_everyNow m_otherIn m_askLeft rt_seats rt_slack rt_saw rt_quarrel rt_people rt_pairs rt_forks rt_unsures rt_trieds rt_fed rt_seat rt_one rt_other rt_years rt_kind rt_unsure rt_may rt_tried rt_name) R0.1 := by
  refine xI_of (by decide) (Nat.le_of_ble_eq_true rfl) (fun p e s m args below meth c A C ls hl G => ?_)
  have hx := C.1
  have hb := C.2.1
  have hl : lv_has ls 4 [(0, .ref (ad 0)), (1, .ref (E.2.2.1 3)), (2, .int l2), (3, .int l3)] := hl
  unfold f_M_readPart at hf
  refine lv_aload_n hx hb dX12_readPart_0 rfl (lv_at hl 0 rfl) ?_
  refine lv_aload_n hx hb dX12_readPart_1 rfl (lv_at hl 1 rfl) ?_
  obtain ⟨x1, hc, hf⟩ := bd_go hf
  refine xV_V C G (c_M_needs_m_saw_R hc) mX12_needs kX12_126 (wR_at0) rfl ⟨Nat.le_of_ble_eq_true rfl, Nat.le_of_ble_eq_true rfl⟩ rfl hl.1 rfl (Nat.le_of_ble_eq_true rfl) ⟨Nat.le_refl _, Nat.le_refl _⟩ dX12_readPart_2 (fun H locs G => ?_)
  refine lv_aload_n hx hb dX12_readPart_5 rfl (lv_at hl 0 rfl) ?_
  refine lv_iload_n hx hb dX12_readPart_6 rfl (lv_at hl 2 rfl) ?_
  refine lv_iload_n hx hb dX12_readPart_7 rfl (lv_at hl 3 rfl) ?_
  obtain ⟨x2, hc, hf⟩ := bd_go hf
  refine xI_V C G (c_M_readWhole_m_R hc) mX12_readWhole kX12_130 (wR_at0) rfl ⟨Nat.le_of_ble_eq_true rfl, Nat.le_of_ble_eq_true rfl⟩ rfl hl.1 rfl (Nat.le_of_ble_eq_true rfl) ⟨Nat.le_refl _, Nat.le_refl _⟩ dX12_readPart_8 (fun hz H locs G => ?_)
  obtain rfl := Option.some.inj hf
  exact xI_ret C G rfl dX12_readPart_11
set_option maxHeartbeats 4000000 in
set_option maxRecDepth 100000 in
theorem c_M_isWord_m_quarrel_R {l : Launch} {E : xE} {ad : Nat → Nat} {m_thrown m_trouble m_where m_taped m_size m_spot m_sort m_place m_number m_fault m_wrongAt m_acts m_images m_matchNow m_slopsNow m_matchesNow m_fedBest m_slopsBest m_sawBest m_leastNow m_stableNow m_fitsNow m_someNow m_everyNow m_askLeft rt_seats rt_slack rt_saw rt_quarrel rt_people rt_pairs rt_forks rt_unsures rt_trieds rt_fed : Int32} {m_tv : Value} {m_tape m_v m_x m_past m_kept m_slopped m_seatBest m_otherIn rt_seat rt_one rt_other rt_years rt_kind rt_unsure rt_may rt_tried : Nat → Int32} {m_word : Int64} {rt_name : Nat → Int64} {R0 : Int32} (hf : f_M_isWord (18959911084 : Int64) m_sort m_word = some R0) : xI l E yX12_isWord cX12_isWord 2 (some .boolean) 6 143 [.ref (ad 0), .ref (E.2.2.1 4)] (wR E ad m_thrown m_trouble m_where m_tv m_tape m_taped m_size m_spot m_sort m_place m_number m_fault m_wrongAt m_word m_v m_x m_past m_kept m_acts m_images m_matchNow m_slopsNow m_matchesNow m_slopped m_seatBest m_fedBest m_slopsBest m_sawBest m_leastNow m_stableNow m_fitsNow m_someNow m_everyNow m_otherIn m_askLeft rt_seats rt_slack rt_saw rt_quarrel rt_people rt_pairs rt_forks rt_unsures rt_trieds rt_fed rt_seat rt_one rt_other rt_years rt_kind rt_unsure rt_may rt_tried rt_name) (wR E ad m_thrown m_trouble m_where m_tv m_tape m_taped m_size m_spot m_sort m_place m_number m_fault m_wrongAt m_word m_v m_x m_past m_kept m_acts m_images m_matchNow m_slopsNow m_matchesNow m_slopped m_seatBest m_fedBest m_slopsBest m_sawBest m_leastNow m_stableNow m_fitsNow m_someNow m_everyNow m_otherIn m_askLeft rt_seats rt_slack rt_saw rt_quarrel rt_people rt_pairs rt_forks rt_unsures rt_trieds rt_fed rt_seat rt_one rt_other rt_years rt_kind rt_unsure rt_may rt_tried rt_name) R0 := by
  refine xI_of (by decide) (Nat.le_of_ble_eq_true rfl) (fun p e s m args below meth c A C ls hl G => ?_)
  have hx := C.1
  have hb := C.2.1
  have hl : lv_has ls 2 [(0, .ref (ad 0)), (1, .ref (E.2.2.1 4))] := hl
  unfold f_M_isWord at hf
  refine lv_aload_n hx hb dX12_isWord_0 rfl (lv_at hl 0 rfl) ?_
  refine x_get C G fX12_71.g (wR_at0) rfl dX12_isWord_1 ?_
  refine lv_iconst (v := 2) hx hb dX12_isWord_4 (by decide) ?_
  obtain ⟨b1, hr, hf⟩ := bd_go hf
  cases b1 with
  | true =>
    have hf := it_t rfl hf
    have J : ∀ (H : Heap) (locs : List Loc), xG s E A (wR E ad m_thrown m_trouble m_where m_tv m_tape m_taped m_size m_spot m_sort m_place m_number m_fault m_wrongAt m_word m_v m_x m_past m_kept m_acts m_images m_matchNow m_slopsNow m_matchesNow m_slopped m_seatBest m_fedBest m_slopsBest m_sawBest m_leastNow m_stableNow m_fitsNow m_someNow m_everyNow m_otherIn m_askLeft rt_seats rt_slack rt_saw rt_quarrel rt_people rt_pairs rt_forks rt_unsures rt_trieds rt_fed rt_seat rt_one rt_other rt_years rt_kind rt_unsure rt_may rt_tried rt_name) H locs → W p l e (xR 6 143) s m args below meth c H locs 0 0 (MQ below (xqI E A (wR E ad m_thrown m_trouble m_where m_tv m_tape m_taped m_size m_spot m_sort m_place m_number m_fault m_wrongAt m_word m_v m_x m_past m_kept m_acts m_images m_matchNow m_slopsNow m_matchesNow m_slopped m_seatBest m_fedBest m_slopsBest m_sawBest m_leastNow m_stableNow m_fitsNow m_someNow m_everyNow m_otherIn m_askLeft rt_seats rt_slack rt_saw rt_quarrel rt_people rt_pairs rt_forks rt_unsures rt_trieds rt_fed rt_seat rt_one rt_other rt_years rt_kind rt_unsure rt_may rt_tried rt_name) (some .boolean) R0) args s 0 0 A) (F0 m 24 ls []) := by
      intro H locs G
      refine lv_iconst (v := 0) hx hb dX12_isWord_24 (by decide) ?_
      obtain rfl := Option.some.inj hf
      exact xI_ret (r := (0 : Int32)) C G rfl dX12_isWord_25
    have hf := hr
    clear hr
    refine lv_icmp_ne (tgt := 24) hx hb dX12_isWord_5 (by decide) (fun h => ?_) (fun h => ?_)
    · have hf := it_f h hf
      exact J _ _ G
    · have hf := it_t h hf
      refine lv_aload_n hx hb dX12_isWord_8 rfl (lv_at hl 0 rfl) ?_
      refine x_get C G fX12_87.g (wR_at0) rfl dX12_isWord_9 ?_
      refine lv_aload_n hx hb dX12_isWord_12 rfl (lv_at hl 1 rfl) ?_
      refine xL_S C G (c_M_packed 4 (by decide) (18959911084 : Int64) (by decide +kernel)) mX12_packed kX12_103 ⟨Nat.le_of_ble_eq_true rfl, Nat.le_of_ble_eq_true rfl⟩ rfl hl.1 rfl (Nat.le_of_ble_eq_true rfl) ⟨Nat.le_refl _, Nat.le_refl _⟩ dX12_isWord_13 (fun H locs G => ?_)
      refine W.lcmp hx hb dX12_isWord_16 ?_
      refine lv_if_ne (tgt := 24) hx hb dX12_isWord_17 (by decide) (fun h => ?_) (fun h => ?_)
      · have hf := it_f h hf
        exact J _ _ G
      · have hf := it_t h hf
        exact absurd (Option.some.inj hf) (by decide)
  | false =>
    have hf := it_f (by decide) hf
    have J : ∀ (H : Heap) (locs : List Loc), xG s E A (wR E ad m_thrown m_trouble m_where m_tv m_tape m_taped m_size m_spot m_sort m_place m_number m_fault m_wrongAt m_word m_v m_x m_past m_kept m_acts m_images m_matchNow m_slopsNow m_matchesNow m_slopped m_seatBest m_fedBest m_slopsBest m_sawBest m_leastNow m_stableNow m_fitsNow m_someNow m_everyNow m_otherIn m_askLeft rt_seats rt_slack rt_saw rt_quarrel rt_people rt_pairs rt_forks rt_unsures rt_trieds rt_fed rt_seat rt_one rt_other rt_years rt_kind rt_unsure rt_may rt_tried rt_name) H locs → W p l e (xR 6 143) s m args below meth c H locs 0 0 (MQ below (xqI E A (wR E ad m_thrown m_trouble m_where m_tv m_tape m_taped m_size m_spot m_sort m_place m_number m_fault m_wrongAt m_word m_v m_x m_past m_kept m_acts m_images m_matchNow m_slopsNow m_matchesNow m_slopped m_seatBest m_fedBest m_slopsBest m_sawBest m_leastNow m_stableNow m_fitsNow m_someNow m_everyNow m_otherIn m_askLeft rt_seats rt_slack rt_saw rt_quarrel rt_people rt_pairs rt_forks rt_unsures rt_trieds rt_fed rt_seat rt_one rt_other rt_years rt_kind rt_unsure rt_may rt_tried rt_name) (some .boolean) R0) args s 0 0 A) (F0 m 20 ls []) := by
      intro H locs G
      refine lv_iconst (v := 1) hx hb dX12_isWord_20 (by decide) ?_
      refine lv_goto (tgt := 25) hx hb dX12_isWord_21 (by decide) ?_
      obtain rfl := Option.some.inj hf
      exact xI_ret (r := (1 : Int32)) C G rfl dX12_isWord_25
    have hf := hr
    clear hr
    refine lv_icmp_ne (tgt := 24) hx hb dX12_isWord_5 (by decide) (fun h => ?_) (fun h => ?_)
    · have hf := it_f h hf
      exact absurd (Option.some.inj hf) (by decide)
    · have hf := it_t h hf
      refine lv_aload_n hx hb dX12_isWord_8 rfl (lv_at hl 0 rfl) ?_
      refine x_get C G fX12_87.g (wR_at0) rfl dX12_isWord_9 ?_
      refine lv_aload_n hx hb dX12_isWord_12 rfl (lv_at hl 1 rfl) ?_
      refine xL_S C G (c_M_packed 4 (by decide) (18959911084 : Int64) (by decide +kernel)) mX12_packed kX12_103 ⟨Nat.le_of_ble_eq_true rfl, Nat.le_of_ble_eq_true rfl⟩ rfl hl.1 rfl (Nat.le_of_ble_eq_true rfl) ⟨Nat.le_refl _, Nat.le_refl _⟩ dX12_isWord_13 (fun H locs G => ?_)
      refine W.lcmp hx hb dX12_isWord_16 ?_
      refine lv_if_ne (tgt := 24) hx hb dX12_isWord_17 (by decide) (fun h => ?_) (fun h => ?_)
      · have hf := it_f h hf
        exact absurd (Option.some.inj hf) (by decide)
      · have hf := it_t h hf
        exact J _ _ G
set_option maxHeartbeats 4000000 in
set_option maxRecDepth 100000 in
theorem c_M_needs_m_quarrel_R {l : Launch} {E : xE} {ad : Nat → Nat} {m_thrown m_trouble m_where m_taped m_size m_spot m_sort m_place m_number m_fault m_wrongAt m_acts m_images m_matchNow m_slopsNow m_matchesNow m_fedBest m_slopsBest m_sawBest m_leastNow m_stableNow m_fitsNow m_someNow m_everyNow m_askLeft rt_seats rt_slack rt_saw rt_quarrel rt_people rt_pairs rt_forks rt_unsures rt_trieds rt_fed : Int32} {m_tv : Value} {m_tape m_v m_x m_past m_kept m_slopped m_seatBest m_otherIn rt_seat rt_one rt_other rt_years rt_kind rt_unsure rt_may rt_tried : Nat → Int32} {m_word : Int64} {rt_name : Nat → Int64} {R0 : Int32 × Int32 × Int32 × Int32 × Int32 × Int32 × Int64} (hf : f_M_needs (18959911084 : Int64) m_tape m_size m_spot m_sort m_place m_number m_fault m_wrongAt m_word = some R0) : xV l E yX12_needs cX12_needs 2 none 7 164 [.ref (ad 0), .ref (E.2.2.1 4)] (wR E ad m_thrown m_trouble m_where m_tv m_tape m_taped m_size m_spot m_sort m_place m_number m_fault m_wrongAt m_word m_v m_x m_past m_kept m_acts m_images m_matchNow m_slopsNow m_matchesNow m_slopped m_seatBest m_fedBest m_slopsBest m_sawBest m_leastNow m_stableNow m_fitsNow m_someNow m_everyNow m_otherIn m_askLeft rt_seats rt_slack rt_saw rt_quarrel rt_people rt_pairs rt_forks rt_unsures rt_trieds rt_fed rt_seat rt_one rt_other rt_years rt_kind rt_unsure rt_may rt_tried rt_name) (wR E ad m_thrown m_trouble m_where m_tv m_tape m_taped m_size R0.1 R0.2.1 R0.2.2.1 R0.2.2.2.1 R0.2.2.2.2.1 R0.2.2.2.2.2.1 R0.2.2.2.2.2.2 m_v m_x m_past m_kept m_acts m_images m_matchNow m_slopsNow m_matchesNow m_slopped m_seatBest m_fedBest m_slopsBest m_sawBest m_leastNow m_stableNow m_fitsNow m_someNow m_everyNow m_otherIn m_askLeft rt_seats rt_slack rt_saw rt_quarrel rt_people rt_pairs rt_forks rt_unsures rt_trieds rt_fed rt_seat rt_one rt_other rt_years rt_kind rt_unsure rt_may rt_tried rt_name) := by
  refine xV_of (by decide) (Nat.le_of_ble_eq_true rfl) (fun p e s m args below meth c A C ls hl G => ?_)
  have hx := C.1
  have hb := C.2.1
  have hl : lv_has ls 2 [(0, .ref (ad 0)), (1, .ref (E.2.2.1 4))] := hl
  unfold f_M_needs at hf
  refine lv_aload_n hx hb dX12_needs_0 rfl (lv_at hl 0 rfl) ?_
  refine lv_aload_n hx hb dX12_needs_1 rfl (lv_at hl 1 rfl) ?_
  obtain ⟨x1, hc, hf⟩ := bd_go hf
  refine xI_V C G (c_M_isWord_m_quarrel_R hc) mX12_isWord kX12_110 (wR_at0) rfl ⟨Nat.le_of_ble_eq_true rfl, Nat.le_of_ble_eq_true rfl⟩ rfl hl.1 rfl (Nat.le_of_ble_eq_true rfl) ⟨Nat.le_refl _, Nat.le_refl _⟩ dX12_needs_2 (fun hz1 H locs G => ?_)
  obtain ⟨x2, hrx2, hf⟩ := bd_go hf
  have Jx2 : ∀ (H : Heap) (locs : List Loc) (ls : Array Slot), xG s E A (wR E ad m_thrown m_trouble m_where m_tv m_tape m_taped m_size m_spot x2.1 m_place m_number x2.2.1 x2.2.2 m_word m_v m_x m_past m_kept m_acts m_images m_matchNow m_slopsNow m_matchesNow m_slopped m_seatBest m_fedBest m_slopsBest m_sawBest m_leastNow m_stableNow m_fitsNow m_someNow m_everyNow m_otherIn m_askLeft rt_seats rt_slack rt_saw rt_quarrel rt_people rt_pairs rt_forks rt_unsures rt_trieds rt_fed rt_seat rt_one rt_other rt_years rt_kind rt_unsure rt_may rt_tried rt_name) H locs → lv_has ls 2 [(0, .ref (ad 0))] → W p l e (xR 7 164) s m args below meth c H locs 0 0 (MQ below (xqV E A (wR E ad m_thrown m_trouble m_where m_tv m_tape m_taped m_size R0.1 R0.2.1 R0.2.2.1 R0.2.2.2.1 R0.2.2.2.2.1 R0.2.2.2.2.2.1 R0.2.2.2.2.2.2 m_v m_x m_past m_kept m_acts m_images m_matchNow m_slopsNow m_matchesNow m_slopped m_seatBest m_fedBest m_slopsBest m_sawBest m_leastNow m_stableNow m_fitsNow m_someNow m_everyNow m_otherIn m_askLeft rt_seats rt_slack rt_saw rt_quarrel rt_people rt_pairs rt_forks rt_unsures rt_trieds rt_fed rt_seat rt_one rt_other rt_years rt_kind rt_unsure rt_may rt_tried rt_name)) args s 0 0 A) (F0 m 13 ls []) := by
    intro H locs ls G hl
    refine lv_aload_n hx hb dX12_needs_13 rfl (lv_at hl 0 rfl) ?_
    obtain ⟨x3, hc, hf⟩ := bd_go hf
    refine xV_V C G (c_M_goesOn_m_R hc) mX12_goesOn kX12_107 (wR_at0) rfl ⟨Nat.le_of_ble_eq_true rfl, Nat.le_of_ble_eq_true rfl⟩ rfl hl.1 rfl (Nat.le_of_ble_eq_true rfl) ⟨Nat.le_refl _, Nat.le_refl _⟩ dX12_needs_14 (fun H locs G => ?_)
    obtain rfl := Option.some.inj hf
    exact xV_ret C G dX12_needs_17
  have hf := hrx2
  refine lv_if_ne (tgt := 13) hx hb dX12_needs_5 (by decide) (fun h => ?_) (fun h => ?_)
  · have hf := it_f h hf
    obtain rfl := Option.some.inj hf
    exact Jx2 _ _ _ G (lv_sub hl [0] rfl)
  · have hf := it_t h hf
    refine lv_aload_n hx hb dX12_needs_8 rfl (lv_at hl 0 rfl) ?_
    refine lv_iconst (v := 1) hx hb dX12_needs_9 (by decide) ?_
    obtain ⟨x4, hc, hf⟩ := bd_go hf
    refine xV_V C G (c_M_flaw_m_R hc) mX12_flaw kX12_114 (wR_at0) rfl ⟨Nat.le_of_ble_eq_true rfl, Nat.le_of_ble_eq_true rfl⟩ rfl hl.1 rfl (Nat.le_of_ble_eq_true rfl) ⟨Nat.le_refl _, Nat.le_refl _⟩ dX12_needs_10 (fun H locs G => ?_)
    obtain rfl := Option.some.inj hf
    exact Jx2 _ _ _ G (lv_sub hl [0] rfl)
set_option maxHeartbeats 4000000 in
set_option maxRecDepth 100000 in
theorem c_M_readPart_m_quarrel_R {l : Launch} {E : xE} {ad : Nat → Nat} {m_thrown m_trouble m_where m_taped m_size m_spot m_sort m_place m_number m_fault m_wrongAt m_acts m_images m_matchNow m_slopsNow m_matchesNow m_fedBest m_slopsBest m_sawBest m_leastNow m_stableNow m_fitsNow m_someNow m_everyNow m_askLeft rt_seats rt_slack rt_saw rt_quarrel rt_people rt_pairs rt_forks rt_unsures rt_trieds rt_fed : Int32} {m_tv : Value} {m_tape m_v m_x m_past m_kept m_slopped m_seatBest m_otherIn rt_seat rt_one rt_other rt_years rt_kind rt_unsure rt_may rt_tried : Nat → Int32} {m_word : Int64} {rt_name : Nat → Int64} {l2 : Int32} {l3 : Int32} {R0 : Int32 × Int32 × Int32 × Int32 × Int32 × Int32 × Int32 × Int64} (hf : f_M_readPart (18959911084 : Int64) l2 l3 m_tape m_size m_spot m_sort m_place m_number m_fault m_wrongAt m_word = some R0) : xI l E yX12_readPart cX12_readPart 4 (some .int) 8 185 [.ref (ad 0), .ref (E.2.2.1 4), .int l2, .int l3] (wR E ad m_thrown m_trouble m_where m_tv m_tape m_taped m_size m_spot m_sort m_place m_number m_fault m_wrongAt m_word m_v m_x m_past m_kept m_acts m_images m_matchNow m_slopsNow m_matchesNow m_slopped m_seatBest m_fedBest m_slopsBest m_sawBest m_leastNow m_stableNow m_fitsNow m_someNow m_everyNow m_otherIn m_askLeft rt_seats rt_slack rt_saw rt_quarrel rt_people rt_pairs rt_forks rt_unsures rt_trieds rt_fed rt_seat rt_one rt_other rt_years rt_kind rt_unsure rt_may rt_tried rt_name) (wR E ad m_thrown m_trouble m_where m_tv m_tape m_taped m_size R0.2.1 R0.2.2.1 R0.2.2.2.1 R0.2.2.2.2.1 R0.2.2.2.2.2.1 R0.2.2.2.2.2.2.1 R0.2.2.2.2.2.2.2 m_v m_x m_past m_kept m_acts m_images m_matchNow m_slopsNow m_matchesNow m_slopped m_seatBest m_fedBest m_slopsBest m_sawBest m_leastNow m_stableNow m_fitsNow m_someNow m_everyNow m_otherIn m_askLeft rt_seats rt_slack rt_saw rt_quarrel rt_people rt_pairs rt_forks rt_unsures rt_trieds rt_fed rt_seat rt_one rt_other rt_years rt_kind rt_unsure rt_may rt_tried rt_name) R0.1 := by
  refine xI_of (by decide) (Nat.le_of_ble_eq_true rfl) (fun p e s m args below meth c A C ls hl G => ?_)
  have hx := C.1
  have hb := C.2.1
  have hl : lv_has ls 4 [(0, .ref (ad 0)), (1, .ref (E.2.2.1 4)), (2, .int l2), (3, .int l3)] := hl
  unfold f_M_readPart at hf
  refine lv_aload_n hx hb dX12_readPart_0 rfl (lv_at hl 0 rfl) ?_
  refine lv_aload_n hx hb dX12_readPart_1 rfl (lv_at hl 1 rfl) ?_
  obtain ⟨x1, hc, hf⟩ := bd_go hf
  refine xV_V C G (c_M_needs_m_quarrel_R hc) mX12_needs kX12_126 (wR_at0) rfl ⟨Nat.le_of_ble_eq_true rfl, Nat.le_of_ble_eq_true rfl⟩ rfl hl.1 rfl (Nat.le_of_ble_eq_true rfl) ⟨Nat.le_refl _, Nat.le_refl _⟩ dX12_readPart_2 (fun H locs G => ?_)
  refine lv_aload_n hx hb dX12_readPart_5 rfl (lv_at hl 0 rfl) ?_
  refine lv_iload_n hx hb dX12_readPart_6 rfl (lv_at hl 2 rfl) ?_
  refine lv_iload_n hx hb dX12_readPart_7 rfl (lv_at hl 3 rfl) ?_
  obtain ⟨x2, hc, hf⟩ := bd_go hf
  refine xI_V C G (c_M_readWhole_m_R hc) mX12_readWhole kX12_130 (wR_at0) rfl ⟨Nat.le_of_ble_eq_true rfl, Nat.le_of_ble_eq_true rfl⟩ rfl hl.1 rfl (Nat.le_of_ble_eq_true rfl) ⟨Nat.le_refl _, Nat.le_refl _⟩ dX12_readPart_8 (fun hz H locs G => ?_)
  obtain rfl := Option.some.inj hf
  exact xI_ret C G rfl dX12_readPart_11
set_option maxHeartbeats 4000000 in
set_option maxRecDepth 100000 in
theorem c_M_readTable_m_R {l : Launch} {E : xE} {ad : Nat → Nat} {m_thrown m_trouble m_where m_taped m_size m_spot m_sort m_place m_number m_fault m_wrongAt m_acts m_images m_matchNow m_slopsNow m_matchesNow m_fedBest m_slopsBest m_sawBest m_leastNow m_stableNow m_fitsNow m_someNow m_everyNow m_askLeft rt_seats rt_slack rt_saw rt_quarrel rt_people rt_pairs rt_forks rt_unsures rt_trieds rt_fed : Int32} {m_tv : Value} {m_tape m_v m_x m_past m_kept m_slopped m_seatBest m_otherIn rt_seat rt_one rt_other rt_years rt_kind rt_unsure rt_may rt_tried : Nat → Int32} {m_word : Int64} {rt_name : Nat → Int64} {R0 : Int32 × Int32 × Int32 × Int32 × Int32 × Int32 × Int64 × Int32 × Int32 × Int32 × Int32} (hf : f_M_readTable m_tape m_size m_spot m_sort m_place m_number m_fault m_wrongAt m_word rt_seats rt_slack rt_saw rt_quarrel = some R0) : xV l E yX12_readTable cX12_readTable 5 none 9 208 [.ref (ad 0)] (wR E ad m_thrown m_trouble m_where m_tv m_tape m_taped m_size m_spot m_sort m_place m_number m_fault m_wrongAt m_word m_v m_x m_past m_kept m_acts m_images m_matchNow m_slopsNow m_matchesNow m_slopped m_seatBest m_fedBest m_slopsBest m_sawBest m_leastNow m_stableNow m_fitsNow m_someNow m_everyNow m_otherIn m_askLeft rt_seats rt_slack rt_saw rt_quarrel rt_people rt_pairs rt_forks rt_unsures rt_trieds rt_fed rt_seat rt_one rt_other rt_years rt_kind rt_unsure rt_may rt_tried rt_name) (wR E ad m_thrown m_trouble m_where m_tv m_tape m_taped m_size R0.1 R0.2.1 R0.2.2.1 R0.2.2.2.1 R0.2.2.2.2.1 R0.2.2.2.2.2.1 R0.2.2.2.2.2.2.1 m_v m_x m_past m_kept m_acts m_images m_matchNow m_slopsNow m_matchesNow m_slopped m_seatBest m_fedBest m_slopsBest m_sawBest m_leastNow m_stableNow m_fitsNow m_someNow m_everyNow m_otherIn m_askLeft R0.2.2.2.2.2.2.2.1 R0.2.2.2.2.2.2.2.2.1 R0.2.2.2.2.2.2.2.2.2.1 R0.2.2.2.2.2.2.2.2.2.2 rt_people rt_pairs rt_forks rt_unsures rt_trieds rt_fed rt_seat rt_one rt_other rt_years rt_kind rt_unsure rt_may rt_tried rt_name) := by
  refine xV_of (by decide) (Nat.le_of_ble_eq_true rfl) (fun p e s m args below meth c A C ls hl G => ?_)
  have hx := C.1
  have hb := C.2.1
  have hl : lv_has ls 5 [(0, .ref (ad 0))] := hl
  unfold f_M_readTable at hf
  refine lv_aload_n hx hb dX12_readTable_0 rfl (lv_at hl 0 rfl) ?_
  refine x_get C G fX12_145.g (wR_at0) rfl dX12_readTable_1 ?_
  refine x_get C G fX12_149.g (wR_at9) rfl dX12_readTable_4 ?_
  obtain ⟨x1, hrx1, hf⟩ := bd_go hf
  have Jx1 : ∀ (H : Heap) (locs : List Loc) (ls : Array Slot), xG s E A (wR E ad m_thrown m_trouble m_where m_tv m_tape m_taped m_size m_spot x1.1 m_place m_number x1.2.1 x1.2.2 m_word m_v m_x m_past m_kept m_acts m_images m_matchNow m_slopsNow m_matchesNow m_slopped m_seatBest m_fedBest m_slopsBest m_sawBest m_leastNow m_stableNow m_fitsNow m_someNow m_everyNow m_otherIn m_askLeft rt_seats rt_slack rt_saw rt_quarrel rt_people rt_pairs rt_forks rt_unsures rt_trieds rt_fed rt_seat rt_one rt_other rt_years rt_kind rt_unsure rt_may rt_tried rt_name) H locs → lv_has ls 5 [(0, .ref (ad 0))] → W p l e (xR 9 208) s m args below meth c H locs 0 0 (MQ below (xqV E A (wR E ad m_thrown m_trouble m_where m_tv m_tape m_taped m_size R0.1 R0.2.1 R0.2.2.1 R0.2.2.2.1 R0.2.2.2.2.1 R0.2.2.2.2.2.1 R0.2.2.2.2.2.2.1 m_v m_x m_past m_kept m_acts m_images m_matchNow m_slopsNow m_matchesNow m_slopped m_seatBest m_fedBest m_slopsBest m_sawBest m_leastNow m_stableNow m_fitsNow m_someNow m_everyNow m_otherIn m_askLeft R0.2.2.2.2.2.2.2.1 R0.2.2.2.2.2.2.2.2.1 R0.2.2.2.2.2.2.2.2.2.1 R0.2.2.2.2.2.2.2.2.2.2 rt_people rt_pairs rt_forks rt_unsures rt_trieds rt_fed rt_seat rt_one rt_other rt_years rt_kind rt_unsure rt_may rt_tried rt_name)) args s 0 0 A) (F0 m 15 ls []) := by
    intro H locs ls G hl
    refine lv_aload_n hx hb dX12_readTable_15 rfl (lv_at hl 0 rfl) ?_
    obtain ⟨x2, hc, hf⟩ := bd_go hf
    refine xV_V C G (c_M_goesOn_m_R hc) mX12_goesOn kX12_107 (wR_at0) rfl ⟨Nat.le_of_ble_eq_true rfl, Nat.le_of_ble_eq_true rfl⟩ rfl hl.1 rfl (Nat.le_of_ble_eq_true rfl) ⟨Nat.le_refl _, Nat.le_refl _⟩ dX12_readTable_16 (fun H locs G => ?_)
    refine lv_aload_n hx hb dX12_readTable_19 rfl (lv_at hl 0 rfl) ?_
    refine va_ldcS hx hb C.2.2.2.1 (C.2.2.2.2.2.2.2.2.2.2.1 1 (by decide)) dX12_readTable_20 ?_
    refine lv_iconst (v := 2) hx hb dX12_readTable_22 (by decide) ?_
    refine lv_bipush (v := 10) hx hb dX12_readTable_23 (by decide) ?_
    obtain ⟨x3, hc, hf⟩ := bd_go hf
    refine xI_V C G (c_M_readPart_m_seats_R hc) mX12_readPart kX12_199 (wR_at0) rfl ⟨Nat.le_of_ble_eq_true rfl, Nat.le_of_ble_eq_true rfl⟩ rfl hl.1 rfl (Nat.le_of_ble_eq_true rfl) ⟨Nat.le_refl _, Nat.le_refl _⟩ dX12_readTable_25 (fun hz H locs G => ?_)
    refine lv_istore_n (lv' := [(1, .int x3.1), (0, .ref (ad 0))]) hx hb dX12_readTable_28 rfl hl (by decide) rfl (fun ls hl => ?_)
    refine lv_aload_n hx hb dX12_readTable_29 rfl (lv_at hl 1 rfl) ?_
    refine va_ldcS hx hb C.2.2.2.1 (C.2.2.2.2.2.2.2.2.2.2.1 2 (by decide)) dX12_readTable_30 ?_
    refine lv_iconst (v := 0) hx hb dX12_readTable_32 (by decide) ?_
    refine lv_iconst (v := 3) hx hb dX12_readTable_33 (by decide) ?_
    obtain ⟨x4, hc, hf⟩ := bd_go hf
    refine xI_V C G (c_M_readPart_m_slack_R hc) mX12_readPart kX12_199 (wR_at0) rfl ⟨Nat.le_of_ble_eq_true rfl, Nat.le_of_ble_eq_true rfl⟩ rfl hl.1 rfl (Nat.le_of_ble_eq_true rfl) ⟨Nat.le_refl _, Nat.le_refl _⟩ dX12_readTable_34 (fun hz H locs G => ?_)
    refine lv_istore_n (lv' := [(2, .int x4.1), (1, .int x3.1), (0, .ref (ad 0))]) hx hb dX12_readTable_37 rfl hl (by decide) rfl (fun ls hl => ?_)
    refine lv_aload_n hx hb dX12_readTable_38 rfl (lv_at hl 2 rfl) ?_
    refine va_ldcS hx hb C.2.2.2.1 (C.2.2.2.2.2.2.2.2.2.2.1 3 (by decide)) dX12_readTable_39 ?_
    refine lv_iconst (v := 1) hx hb dX12_readTable_41 (by decide) ?_
    refine lv_bipush (v := 9) hx hb dX12_readTable_42 (by decide) ?_
    obtain ⟨x5, hc, hf⟩ := bd_go hf
    refine xI_V C G (c_M_readPart_m_saw_R hc) mX12_readPart kX12_199 (wR_at0) rfl ⟨Nat.le_of_ble_eq_true rfl, Nat.le_of_ble_eq_true rfl⟩ rfl hl.1 rfl (Nat.le_of_ble_eq_true rfl) ⟨Nat.le_refl _, Nat.le_refl _⟩ dX12_readTable_44 (fun hz H locs G => ?_)
    refine lv_istore_n (lv' := [(3, .int x5.1), (2, .int x4.1), (1, .int x3.1), (0, .ref (ad 0))]) hx hb dX12_readTable_47 rfl hl (by decide) rfl (fun ls hl => ?_)
    refine lv_aload_n hx hb dX12_readTable_48 rfl (lv_at hl 3 rfl) ?_
    refine va_ldcS hx hb C.2.2.2.1 (C.2.2.2.2.2.2.2.2.2.2.1 4 (by decide)) dX12_readTable_49 ?_
    refine lv_iconst (v := 0) hx hb dX12_readTable_51 (by decide) ?_
    refine lv_bipush (v := 100) hx hb dX12_readTable_52 (by decide) ?_
    obtain ⟨x6, hc, hf⟩ := bd_go hf
    refine xI_V C G (c_M_readPart_m_quarrel_R hc) mX12_readPart kX12_199 (wR_at0) rfl ⟨Nat.le_of_ble_eq_true rfl, Nat.le_of_ble_eq_true rfl⟩ rfl hl.1 rfl (Nat.le_of_ble_eq_true rfl) ⟨Nat.le_refl _, Nat.le_refl _⟩ dX12_readTable_54 (fun hz H locs G => ?_)
    refine lv_istore (lv' := [(4, .int x6.1), (3, .int x5.1), (2, .int x4.1), (1, .int x3.1), (0, .ref (ad 0))]) hx hb dX12_readTable_57 hl (by decide) rfl (fun ls hl => ?_)
    refine lv_aload_n hx hb dX12_readTable_59 rfl (lv_at hl 4 rfl) ?_
    refine x_get C G fX12_71.g (wR_at0) rfl dX12_readTable_60 ?_
    refine lv_iconst (v := 5) hx hb dX12_readTable_63 (by decide) ?_
    refine lv_icmp_ne (tgt := 68) hx hb dX12_readTable_64 (by decide) (fun h => ?_) (fun h => ?_)
    · have hf := it_f h hf
      refine lv_aload_n hx hb dX12_readTable_68 rfl (lv_at hl 4 rfl) ?_
      refine x_get C G fX12_145.g (wR_at0) rfl dX12_readTable_69 ?_
      refine lv_iload_n hx hb dX12_readTable_72 rfl (lv_at hl 3 rfl) ?_
      refine x_put (ws' := (wR E ad m_thrown m_trouble m_where m_tv m_tape m_taped m_size x6.2.1 x6.2.2.1 x6.2.2.2.1 x6.2.2.2.2.1 x6.2.2.2.2.2.1 x6.2.2.2.2.2.2.1 x6.2.2.2.2.2.2.2 m_v m_x m_past m_kept m_acts m_images m_matchNow m_slopsNow m_matchesNow m_slopped m_seatBest m_fedBest m_slopsBest m_sawBest m_leastNow m_stableNow m_fitsNow m_someNow m_everyNow m_otherIn m_askLeft x3.1 rt_slack rt_saw rt_quarrel rt_people rt_pairs rt_forks rt_unsures rt_trieds rt_fed rt_seat rt_one rt_other rt_years rt_kind rt_unsure rt_may rt_tried rt_name)) C G fX12_149 (wR_at9) rfl rfl (Nat.le_of_ble_eq_true rfl) wR_set_rt_seats dX12_readTable_73 (fun H locs G => ?_)
      refine lv_aload_n hx hb dX12_readTable_76 rfl (lv_at hl 4 rfl) ?_
      refine x_get C G fX12_145.g (wR_at0) rfl dX12_readTable_77 ?_
      refine lv_iload_n hx hb dX12_readTable_80 rfl (lv_at hl 2 rfl) ?_
      refine x_put (ws' := (wR E ad m_thrown m_trouble m_where m_tv m_tape m_taped m_size x6.2.1 x6.2.2.1 x6.2.2.2.1 x6.2.2.2.2.1 x6.2.2.2.2.2.1 x6.2.2.2.2.2.2.1 x6.2.2.2.2.2.2.2 m_v m_x m_past m_kept m_acts m_images m_matchNow m_slopsNow m_matchesNow m_slopped m_seatBest m_fedBest m_slopsBest m_sawBest m_leastNow m_stableNow m_fitsNow m_someNow m_everyNow m_otherIn m_askLeft x3.1 x4.1 rt_saw rt_quarrel rt_people rt_pairs rt_forks rt_unsures rt_trieds rt_fed rt_seat rt_one rt_other rt_years rt_kind rt_unsure rt_may rt_tried rt_name)) C G fX12_209 (wR_at9) rfl rfl (Nat.le_of_ble_eq_true rfl) wR_set_rt_slack dX12_readTable_81 (fun H locs G => ?_)
      refine lv_aload_n hx hb dX12_readTable_84 rfl (lv_at hl 4 rfl) ?_
      refine x_get C G fX12_145.g (wR_at0) rfl dX12_readTable_85 ?_
      refine lv_iload_n hx hb dX12_readTable_88 rfl (lv_at hl 1 rfl) ?_
      refine x_put (ws' := (wR E ad m_thrown m_trouble m_where m_tv m_tape m_taped m_size x6.2.1 x6.2.2.1 x6.2.2.2.1 x6.2.2.2.2.1 x6.2.2.2.2.2.1 x6.2.2.2.2.2.2.1 x6.2.2.2.2.2.2.2 m_v m_x m_past m_kept m_acts m_images m_matchNow m_slopsNow m_matchesNow m_slopped m_seatBest m_fedBest m_slopsBest m_sawBest m_leastNow m_stableNow m_fitsNow m_someNow m_everyNow m_otherIn m_askLeft x3.1 x4.1 x5.1 rt_quarrel rt_people rt_pairs rt_forks rt_unsures rt_trieds rt_fed rt_seat rt_one rt_other rt_years rt_kind rt_unsure rt_may rt_tried rt_name)) C G fX12_211 (wR_at9) rfl rfl (Nat.le_of_ble_eq_true rfl) wR_set_rt_saw dX12_readTable_89 (fun H locs G => ?_)
      refine lv_aload_n hx hb dX12_readTable_92 rfl (lv_at hl 4 rfl) ?_
      refine x_get C G fX12_145.g (wR_at0) rfl dX12_readTable_93 ?_
      refine lv_iload hx hb dX12_readTable_96 (lv_at hl 0 rfl) ?_
      refine x_put (ws' := (wR E ad m_thrown m_trouble m_where m_tv m_tape m_taped m_size x6.2.1 x6.2.2.1 x6.2.2.2.1 x6.2.2.2.2.1 x6.2.2.2.2.2.1 x6.2.2.2.2.2.2.1 x6.2.2.2.2.2.2.2 m_v m_x m_past m_kept m_acts m_images m_matchNow m_slopsNow m_matchesNow m_slopped m_seatBest m_fedBest m_slopsBest m_sawBest m_leastNow m_stableNow m_fitsNow m_someNow m_everyNow m_otherIn m_askLeft x3.1 x4.1 x5.1 x6.1 rt_people rt_pairs rt_forks rt_unsures rt_trieds rt_fed rt_seat rt_one rt_other rt_years rt_kind rt_unsure rt_may rt_tried rt_name)) C G fX12_213 (wR_at9) rfl rfl (Nat.le_of_ble_eq_true rfl) wR_set_rt_quarrel dX12_readTable_98 (fun H locs G => ?_)
      obtain rfl := Option.some.inj hf
      exact xV_ret C G dX12_readTable_101
    · have hf := it_t h hf
      obtain rfl := Option.some.inj hf
      exact xV_ret C G dX12_readTable_67
  have hf := hrx1
  refine lv_if_le (tgt := 15) hx hb dX12_readTable_7 (by decide) (fun h => ?_) (fun h => ?_)
  · have hf := it_t h hf
    obtain rfl := Option.some.inj hf
    exact Jx1 _ _ _ G (lv_sub hl [0] rfl)
  · have hf := it_f h hf
    refine lv_aload_n hx hb dX12_readTable_10 rfl (lv_at hl 0 rfl) ?_
    refine lv_iconst (v := 3) hx hb dX12_readTable_11 (by decide) ?_
    obtain ⟨x7, hc, hf⟩ := bd_go hf
    refine xV_V C G (c_M_flaw_m_R hc) mX12_flaw kX12_114 (wR_at0) rfl ⟨Nat.le_of_ble_eq_true rfl, Nat.le_of_ble_eq_true rfl⟩ rfl hl.1 rfl (Nat.le_of_ble_eq_true rfl) ⟨Nat.le_refl _, Nat.le_refl _⟩ dX12_readTable_12 (fun H locs G => ?_)
    obtain rfl := Option.some.inj hf
    exact Jx1 _ _ _ G (lv_sub hl [0] rfl)
set_option maxHeartbeats 4000000 in
set_option maxRecDepth 100000 in
theorem c_M_readLine_m_R {l : Launch} {E : xE} {ad : Nat → Nat} {m_thrown m_trouble m_where m_taped m_size m_spot m_sort m_place m_number m_fault m_wrongAt m_acts m_images m_matchNow m_slopsNow m_matchesNow m_fedBest m_slopsBest m_sawBest m_leastNow m_stableNow m_fitsNow m_someNow m_everyNow m_askLeft rt_seats rt_slack rt_saw rt_quarrel rt_people rt_pairs rt_forks rt_unsures rt_trieds rt_fed : Int32} {m_tv : Value} {m_tape m_v m_x m_past m_kept m_slopped m_seatBest m_otherIn rt_seat rt_one rt_other rt_years rt_kind rt_unsure rt_may rt_tried : Nat → Int32} {m_word : Int64} {rt_name : Nat → Int64} {R0 : Int32 × Int32 × Int32 × Int32 × Int32 × Int32 × Int64 × Int32 × Int32 × Int32 × Int32 × Int32 × Int32 × Int32 × Int32 × Int32 × Int32 × (Nat → Int32) × (Nat → Int32) × (Nat → Int32) × (Nat → Int32) × (Nat → Int32) × (Nat → Int32) × (Nat → Int32) × (Nat → Int32) × (Nat → Int64)} (hf : f_M_readLine m_tape m_size m_spot m_sort m_place m_number m_fault m_wrongAt m_word rt_seats rt_slack rt_saw rt_quarrel rt_people rt_pairs rt_forks rt_unsures rt_trieds rt_fed rt_seat rt_one rt_other rt_years rt_kind rt_unsure rt_may rt_tried rt_name = some R0) : xV l E yX12_readLine cX12_readLine 1 none 12 271 [.ref (ad 0)] (wR E ad m_thrown m_trouble m_where m_tv m_tape m_taped m_size m_spot m_sort m_place m_number m_fault m_wrongAt m_word m_v m_x m_past m_kept m_acts m_images m_matchNow m_slopsNow m_matchesNow m_slopped m_seatBest m_fedBest m_slopsBest m_sawBest m_leastNow m_stableNow m_fitsNow m_someNow m_everyNow m_otherIn m_askLeft rt_seats rt_slack rt_saw rt_quarrel rt_people rt_pairs rt_forks rt_unsures rt_trieds rt_fed rt_seat rt_one rt_other rt_years rt_kind rt_unsure rt_may rt_tried rt_name) (wR E ad m_thrown m_trouble m_where m_tv m_tape m_taped m_size R0.1 R0.2.1 R0.2.2.1 R0.2.2.2.1 R0.2.2.2.2.1 R0.2.2.2.2.2.1 R0.2.2.2.2.2.2.1 m_v m_x m_past m_kept m_acts m_images m_matchNow m_slopsNow m_matchesNow m_slopped m_seatBest m_fedBest m_slopsBest m_sawBest m_leastNow m_stableNow m_fitsNow m_someNow m_everyNow m_otherIn m_askLeft R0.2.2.2.2.2.2.2.1 R0.2.2.2.2.2.2.2.2.1 R0.2.2.2.2.2.2.2.2.2.1 R0.2.2.2.2.2.2.2.2.2.2.1 R0.2.2.2.2.2.2.2.2.2.2.2.1 R0.2.2.2.2.2.2.2.2.2.2.2.2.1 R0.2.2.2.2.2.2.2.2.2.2.2.2.2.1 R0.2.2.2.2.2.2.2.2.2.2.2.2.2.2.1 R0.2.2.2.2.2.2.2.2.2.2.2.2.2.2.2.1 R0.2.2.2.2.2.2.2.2.2.2.2.2.2.2.2.2.1 R0.2.2.2.2.2.2.2.2.2.2.2.2.2.2.2.2.2.1 R0.2.2.2.2.2.2.2.2.2.2.2.2.2.2.2.2.2.2.1 R0.2.2.2.2.2.2.2.2.2.2.2.2.2.2.2.2.2.2.2.1 R0.2.2.2.2.2.2.2.2.2.2.2.2.2.2.2.2.2.2.2.2.1 R0.2.2.2.2.2.2.2.2.2.2.2.2.2.2.2.2.2.2.2.2.2.1 R0.2.2.2.2.2.2.2.2.2.2.2.2.2.2.2.2.2.2.2.2.2.2.1 R0.2.2.2.2.2.2.2.2.2.2.2.2.2.2.2.2.2.2.2.2.2.2.2.1 R0.2.2.2.2.2.2.2.2.2.2.2.2.2.2.2.2.2.2.2.2.2.2.2.2.1 R0.2.2.2.2.2.2.2.2.2.2.2.2.2.2.2.2.2.2.2.2.2.2.2.2.2) := by
  refine xV_of (by decide) (Nat.le_of_ble_eq_true rfl) (fun p e s m args below meth c A C ls hl G => ?_)
  have hx := C.1
  have hb := C.2.1
  have hl : lv_has ls 1 [(0, .ref (ad 0))] := hl
  unfold f_M_readLine at hf
  refine lv_aload_n hx hb dX12_readLine_0 rfl (lv_at hl 0 rfl) ?_
  refine va_ldcS hx hb C.2.2.2.1 (C.2.2.2.2.2.2.2.2.2.2.1 0 (by decide)) dX12_readLine_1 ?_
  obtain ⟨x1, hc, hf⟩ := bd_go hf
  refine xI_V C G (c_M_isWord_m_table_R hc) mX12_isWord kX12_110 (wR_at0) rfl ⟨Nat.le_of_ble_eq_true rfl, Nat.le_of_ble_eq_true rfl⟩ rfl hl.1 rfl (Nat.le_of_ble_eq_true rfl) ⟨Nat.le_refl _, Nat.le_refl _⟩ dX12_readLine_3 (fun hz1 H locs G => ?_)
  refine lv_if_eq (tgt := 16) hx hb dX12_readLine_6 (by decide) (fun h => ?_) (fun h => ?_)
  · have hf := it_t h hf
    refine lv_aload_n hx hb dX12_readLine_16 rfl (lv_at hl 0 rfl) ?_
    refine va_ldcS hx hb C.2.2.2.1 (C.2.2.2.2.2.2.2.2.2.2.1 5 (by decide)) dX12_readLine_17 ?_
    obtain ⟨x2, hc, hf⟩ := bd_go hf
    refine xI_V C G (c_M_isWord_m_person_R hc) mX12_isWord kX12_110 (wR_at0) rfl ⟨Nat.le_of_ble_eq_true rfl, Nat.le_of_ble_eq_true rfl⟩ rfl hl.1 rfl (Nat.le_of_ble_eq_true rfl) ⟨Nat.le_refl _, Nat.le_refl _⟩ dX12_readLine_19 (fun hz2 H locs G => ?_)
    refine lv_if_eq (tgt := 32) hx hb dX12_readLine_22 (by decide) (fun h => ?_) (fun h => ?_)
    · have hf := it_t h hf
      refine lv_aload_n hx hb dX12_readLine_32 rfl (lv_at hl 0 rfl) ?_
      refine va_ldcS hx hb C.2.2.2.1 (C.2.2.2.2.2.2.2.2.2.2.1 6 (by decide)) dX12_readLine_33 ?_
      obtain ⟨x3, hc, hf⟩ := bd_go hf
      refine xI_V C G (c_M_isWord_m_fork_R hc) mX12_isWord kX12_110 (wR_at0) rfl ⟨Nat.le_of_ble_eq_true rfl, Nat.le_of_ble_eq_true rfl⟩ rfl hl.1 rfl (Nat.le_of_ble_eq_true rfl) ⟨Nat.le_refl _, Nat.le_refl _⟩ dX12_readLine_35 (fun hz3 H locs G => ?_)
      refine lv_if_eq (tgt := 48) hx hb dX12_readLine_38 (by decide) (fun h => ?_) (fun h => ?_)
      · have hf := it_t h hf
        refine lv_aload_n hx hb dX12_readLine_48 rfl (lv_at hl 0 rfl) ?_
        refine va_ldcS hx hb C.2.2.2.1 (C.2.2.2.2.2.2.2.2.2.2.1 7 (by decide)) dX12_readLine_49 ?_
        obtain ⟨x4, hc, hf⟩ := bd_go hf
        refine xI_V C G (c_M_isWord_m_known_R hc) mX12_isWord kX12_110 (wR_at0) rfl ⟨Nat.le_of_ble_eq_true rfl, Nat.le_of_ble_eq_true rfl⟩ rfl hl.1 rfl (Nat.le_of_ble_eq_true rfl) ⟨Nat.le_refl _, Nat.le_refl _⟩ dX12_readLine_51 (fun hz4 H locs G => ?_)
        refine lv_if_eq (tgt := 64) hx hb dX12_readLine_54 (by decide) (fun h => ?_) (fun h => ?_)
        · have hf := it_t h hf
          refine lv_aload_n hx hb dX12_readLine_64 rfl (lv_at hl 0 rfl) ?_
          refine va_ldcS hx hb C.2.2.2.1 (C.2.2.2.2.2.2.2.2.2.2.1 8 (by decide)) dX12_readLine_65 ?_
          obtain ⟨x5, hc, hf⟩ := bd_go hf
          refine xI_V C G (c_M_isWord_m_unsure_R hc) mX12_isWord kX12_110 (wR_at0) rfl ⟨Nat.le_of_ble_eq_true rfl, Nat.le_of_ble_eq_true rfl⟩ rfl hl.1 rfl (Nat.le_of_ble_eq_true rfl) ⟨Nat.le_refl _, Nat.le_refl _⟩ dX12_readLine_67 (fun hz5 H locs G => ?_)
          refine lv_if_eq (tgt := 80) hx hb dX12_readLine_70 (by decide) (fun h => ?_) (fun h => ?_)
          · have hf := it_t h hf
            refine lv_aload_n hx hb dX12_readLine_80 rfl (lv_at hl 0 rfl) ?_
            refine va_ldcS hx hb C.2.2.2.1 (C.2.2.2.2.2.2.2.2.2.2.1 9 (by decide)) dX12_readLine_81 ?_
            obtain ⟨x6, hc, hf⟩ := bd_go hf
            refine xI_V C G (c_M_isWord_m_tried_R hc) mX12_isWord kX12_110 (wR_at0) rfl ⟨Nat.le_of_ble_eq_true rfl, Nat.le_of_ble_eq_true rfl⟩ rfl hl.1 rfl (Nat.le_of_ble_eq_true rfl) ⟨Nat.le_refl _, Nat.le_refl _⟩ dX12_readLine_83 (fun hz6 H locs G => ?_)
            refine lv_if_eq (tgt := 96) hx hb dX12_readLine_86 (by decide) (fun h => ?_) (fun h => ?_)
            · have hf := it_t h hf
              refine lv_aload_n hx hb dX12_readLine_96 rfl (lv_at hl 0 rfl) ?_
              refine lv_iconst (v := 1) hx hb dX12_readLine_97 (by decide) ?_
              obtain ⟨x7, hc, hf⟩ := bd_go hf
              refine xV_V C G (c_M_flaw_m_R hc) mX12_flaw kX12_114 (wR_at0) rfl ⟨Nat.le_of_ble_eq_true rfl, Nat.le_of_ble_eq_true rfl⟩ rfl hl.1 rfl (Nat.le_of_ble_eq_true rfl) ⟨Nat.le_refl _, Nat.le_refl _⟩ dX12_readLine_98 (fun H locs G => ?_)
              obtain rfl := Option.some.inj hf
              exact xV_ret C G dX12_readLine_101
            · have hf := it_f h hf
              refine lv_aload_n hx hb dX12_readLine_89 rfl (lv_at hl 0 rfl) ?_
              obtain ⟨x8, hc, hf⟩ := bd_go hf
              refine xV_V C G (c_M_readTried_m_R hc) mX12_readTried kX12_195 (wR_at0) rfl ⟨Nat.le_of_ble_eq_true rfl, Nat.le_of_ble_eq_true rfl⟩ rfl hl.1 rfl (Nat.le_of_ble_eq_true rfl) ⟨Nat.le_refl _, Nat.le_refl _⟩ dX12_readLine_90 (fun H locs G => ?_)
              refine lv_goto (tgt := 101) hx hb dX12_readLine_93 (by decide) ?_
              obtain rfl := Option.some.inj hf
              exact xV_ret C G dX12_readLine_101
          · have hf := it_f h hf
            refine lv_aload_n hx hb dX12_readLine_73 rfl (lv_at hl 0 rfl) ?_
            obtain ⟨x9, hc, hf⟩ := bd_go hf
            refine xV_V C G (c_M_readUnsure_m_R hc) mX12_readUnsure kX12_192 (wR_at0) rfl ⟨Nat.le_of_ble_eq_true rfl, Nat.le_of_ble_eq_true rfl⟩ rfl hl.1 rfl (Nat.le_of_ble_eq_true rfl) ⟨Nat.le_refl _, Nat.le_refl _⟩ dX12_readLine_74 (fun H locs G => ?_)
            refine lv_goto (tgt := 101) hx hb dX12_readLine_77 (by decide) ?_
            obtain rfl := Option.some.inj hf
            exact xV_ret C G dX12_readLine_101
        · have hf := it_f h hf
          refine lv_aload_n hx hb dX12_readLine_57 rfl (lv_at hl 0 rfl) ?_
          obtain ⟨x10, hc, hf⟩ := bd_go hf
          refine xV_V C G (c_M_readKnown_m_R hc) mX12_readKnown kX12_189 (wR_at0) rfl ⟨Nat.le_of_ble_eq_true rfl, Nat.le_of_ble_eq_true rfl⟩ rfl hl.1 rfl (Nat.le_of_ble_eq_true rfl) ⟨Nat.le_refl _, Nat.le_refl _⟩ dX12_readLine_58 (fun H locs G => ?_)
          refine lv_goto (tgt := 101) hx hb dX12_readLine_61 (by decide) ?_
          obtain rfl := Option.some.inj hf
          exact xV_ret C G dX12_readLine_101
      · have hf := it_f h hf
        refine lv_aload_n hx hb dX12_readLine_41 rfl (lv_at hl 0 rfl) ?_
        obtain ⟨x11, hc, hf⟩ := bd_go hf
        refine xV_V C G (c_M_readFork_m_R hc) mX12_readFork kX12_186 (wR_at0) rfl ⟨Nat.le_of_ble_eq_true rfl, Nat.le_of_ble_eq_true rfl⟩ rfl hl.1 rfl (Nat.le_of_ble_eq_true rfl) ⟨Nat.le_refl _, Nat.le_refl _⟩ dX12_readLine_42 (fun H locs G => ?_)
        refine lv_goto (tgt := 101) hx hb dX12_readLine_45 (by decide) ?_
        obtain rfl := Option.some.inj hf
        exact xV_ret C G dX12_readLine_101
    · have hf := it_f h hf
      refine lv_aload_n hx hb dX12_readLine_25 rfl (lv_at hl 0 rfl) ?_
      obtain ⟨x12, hc, hf⟩ := bd_go hf
      refine xV_V C G (c_M_readOne_m_R hc) mX12_readOne kX12_183 (wR_at0) rfl ⟨Nat.le_of_ble_eq_true rfl, Nat.le_of_ble_eq_true rfl⟩ rfl hl.1 rfl (Nat.le_of_ble_eq_true rfl) ⟨Nat.le_refl _, Nat.le_refl _⟩ dX12_readLine_26 (fun H locs G => ?_)
      refine lv_goto (tgt := 101) hx hb dX12_readLine_29 (by decide) ?_
      obtain rfl := Option.some.inj hf
      exact xV_ret C G dX12_readLine_101
  · have hf := it_f h hf
    refine lv_aload_n hx hb dX12_readLine_9 rfl (lv_at hl 0 rfl) ?_
    obtain ⟨x13, hc, hf⟩ := bd_go hf
    refine xV_V C G (c_M_readTable_m_R hc) mX12_readTable kX12_180 (wR_at0) rfl ⟨Nat.le_of_ble_eq_true rfl, Nat.le_of_ble_eq_true rfl⟩ rfl hl.1 rfl (Nat.le_of_ble_eq_true rfl) ⟨Nat.le_refl _, Nat.le_refl _⟩ dX12_readLine_10 (fun H locs G => ?_)
    refine lv_goto (tgt := 101) hx hb dX12_readLine_13 (by decide) ?_
    obtain rfl := Option.some.inj hf
    exact xV_ret C G dX12_readLine_101
set_option maxHeartbeats 4000000 in
set_option maxRecDepth 100000 in
theorem c_M_eatsSemicolon_m_R {l : Launch} {E : xE} {ad : Nat → Nat} {m_thrown m_trouble m_where m_taped m_size m_spot m_sort m_place m_number m_fault m_wrongAt m_acts m_images m_matchNow m_slopsNow m_matchesNow m_fedBest m_slopsBest m_sawBest m_leastNow m_stableNow m_fitsNow m_someNow m_everyNow m_askLeft rt_seats rt_slack rt_saw rt_quarrel rt_people rt_pairs rt_forks rt_unsures rt_trieds rt_fed : Int32} {m_tv : Value} {m_tape m_v m_x m_past m_kept m_slopped m_seatBest m_otherIn rt_seat rt_one rt_other rt_years rt_kind rt_unsure rt_may rt_tried : Nat → Int32} {m_word : Int64} {rt_name : Nat → Int64} {R0 : Int32 × Int32 × Int32 × Int32 × Int32 × Int64} (hf : f_M_eatsSemicolon m_tape m_size m_spot m_sort m_place m_number m_word = some R0) : xI l E yX12_eatsSemicolon cX12_eatsSemicolon 2 (some .boolean) 2 43 [.ref (ad 0)] (wR E ad m_thrown m_trouble m_where m_tv m_tape m_taped m_size m_spot m_sort m_place m_number m_fault m_wrongAt m_word m_v m_x m_past m_kept m_acts m_images m_matchNow m_slopsNow m_matchesNow m_slopped m_seatBest m_fedBest m_slopsBest m_sawBest m_leastNow m_stableNow m_fitsNow m_someNow m_everyNow m_otherIn m_askLeft rt_seats rt_slack rt_saw rt_quarrel rt_people rt_pairs rt_forks rt_unsures rt_trieds rt_fed rt_seat rt_one rt_other rt_years rt_kind rt_unsure rt_may rt_tried rt_name) (wR E ad m_thrown m_trouble m_where m_tv m_tape m_taped m_size R0.2.1 R0.2.2.1 R0.2.2.2.1 R0.2.2.2.2.1 m_fault m_wrongAt R0.2.2.2.2.2 m_v m_x m_past m_kept m_acts m_images m_matchNow m_slopsNow m_matchesNow m_slopped m_seatBest m_fedBest m_slopsBest m_sawBest m_leastNow m_stableNow m_fitsNow m_someNow m_everyNow m_otherIn m_askLeft rt_seats rt_slack rt_saw rt_quarrel rt_people rt_pairs rt_forks rt_unsures rt_trieds rt_fed rt_seat rt_one rt_other rt_years rt_kind rt_unsure rt_may rt_tried rt_name) R0.1 := by
  refine xI_of (by decide) (Nat.le_of_ble_eq_true rfl) (fun p e s m args below meth c A C ls hl G => ?_)
  have hx := C.1
  have hb := C.2.1
  have hl : lv_has ls 2 [(0, .ref (ad 0))] := hl
  unfold f_M_eatsSemicolon at hf
  refine lv_aload_n hx hb dX12_eatsSemicolon_0 rfl (lv_at hl 0 rfl) ?_
  refine x_get C G fX12_71.g (wR_at0) rfl dX12_eatsSemicolon_1 ?_
  refine lv_iconst (v := 4) hx hb dX12_eatsSemicolon_4 (by decide) ?_
  obtain ⟨x1, hrx1, hf⟩ := bd_go hf
  have Jx1 : ∀ (H : Heap) (locs : List Loc) (ls : Array Slot), xG s E A (wR E ad m_thrown m_trouble m_where m_tv m_tape m_taped m_size m_spot m_sort m_place m_number m_fault m_wrongAt m_word m_v m_x m_past m_kept m_acts m_images m_matchNow m_slopsNow m_matchesNow m_slopped m_seatBest m_fedBest m_slopsBest m_sawBest m_leastNow m_stableNow m_fitsNow m_someNow m_everyNow m_otherIn m_askLeft rt_seats rt_slack rt_saw rt_quarrel rt_people rt_pairs rt_forks rt_unsures rt_trieds rt_fed rt_seat rt_one rt_other rt_years rt_kind rt_unsure rt_may rt_tried rt_name) H locs → lv_has ls 2 [(0, .ref (ad 0))] → W p l e (xR 2 43) s m args below meth c H locs 0 0 (MQ below (xqI E A (wR E ad m_thrown m_trouble m_where m_tv m_tape m_taped m_size R0.2.1 R0.2.2.1 R0.2.2.2.1 R0.2.2.2.2.1 m_fault m_wrongAt R0.2.2.2.2.2 m_v m_x m_past m_kept m_acts m_images m_matchNow m_slopsNow m_matchesNow m_slopped m_seatBest m_fedBest m_slopsBest m_sawBest m_leastNow m_stableNow m_fitsNow m_someNow m_everyNow m_otherIn m_askLeft rt_seats rt_slack rt_saw rt_quarrel rt_people rt_pairs rt_forks rt_unsures rt_trieds rt_fed rt_seat rt_one rt_other rt_years rt_kind rt_unsure rt_may rt_tried rt_name) (some .boolean) R0.1) args s 0 0 A) (F0 m 13 ls [.int x1]) := by
    intro H locs ls G hl
    refine lv_istore_n (lv' := [(1, .int x1), (0, .ref (ad 0))]) hx hb dX12_eatsSemicolon_13 rfl hl (by decide) rfl (fun ls hl => ?_)
    refine lv_iload_n hx hb dX12_eatsSemicolon_14 rfl (lv_at hl 0 rfl) ?_
    refine lv_if_eq (tgt := 22) hx hb dX12_eatsSemicolon_15 (by decide) (fun h => ?_) (fun h => ?_)
    · have hf := it_t h hf
      refine lv_iload_n hx hb dX12_eatsSemicolon_22 rfl (lv_at hl 0 rfl) ?_
      obtain rfl := Option.some.inj hf
      exact xI_ret (r := x1) C G (nz_b rfl rfl hrx1) dX12_eatsSemicolon_23
    · have hf := it_f h hf
      refine lv_aload_n hx hb dX12_eatsSemicolon_18 rfl (lv_at hl 1 rfl) ?_
      obtain ⟨x2, hc, hf⟩ := bd_go hf
      refine xV_V C G (c_M_goesOn_m_R hc) mX12_goesOn kX12_107 (wR_at0) rfl ⟨Nat.le_of_ble_eq_true rfl, Nat.le_of_ble_eq_true rfl⟩ rfl hl.1 rfl (Nat.le_of_ble_eq_true rfl) ⟨Nat.le_refl _, Nat.le_refl _⟩ dX12_eatsSemicolon_19 (fun H locs G => ?_)
      refine lv_iload_n hx hb dX12_eatsSemicolon_22 rfl (lv_at hl 0 rfl) ?_
      obtain rfl := Option.some.inj hf
      exact xI_ret (r := x1) C G (nz_b rfl rfl hrx1) dX12_eatsSemicolon_23
  have hf := hrx1
  refine lv_icmp_ne (tgt := 12) hx hb dX12_eatsSemicolon_5 (by decide) (fun h => ?_) (fun h => ?_)
  · have hf := it_f h hf
    refine lv_iconst (v := 0) hx hb dX12_eatsSemicolon_12 (by decide) ?_
    obtain rfl := Option.some.inj hf
    exact Jx1 _ _ _ G (lv_sub hl [0] rfl)
  · have hf := it_t h hf
    refine lv_iconst (v := 1) hx hb dX12_eatsSemicolon_8 (by decide) ?_
    refine lv_goto (tgt := 13) hx hb dX12_eatsSemicolon_9 (by decide) ?_
    obtain rfl := Option.some.inj hf
    exact Jx1 _ _ _ G (lv_sub hl [0] rfl)
set_option maxHeartbeats 4000000 in
set_option maxRecDepth 100000 in
theorem w_M_readAll_m_R_L2 {p : Program} {l : Launch} {e : Env} {s : State} {m : MethodId} {args : Array Value} {below : List Frame} {meth : Method} {c : Code} {A : Nat → Prop} {E : xE} {Q : State → Prop} {ad : Nat → Nat} {m_thrown m_trouble m_where m_taped m_size m_acts m_images m_matchNow m_slopsNow m_matchesNow m_fedBest m_slopsBest m_sawBest m_leastNow m_stableNow m_fitsNow m_someNow m_everyNow m_askLeft : Int32} {m_tv : Value} {m_tape m_v m_x m_past m_kept m_slopped m_seatBest m_otherIn : Nat → Int32} {o : Int32 × Int32 × Int32 × Int32 × Int32 × Int32 × Int64 × Int32 × Int32 × Int32 × Int32 × Int32 × Int32 × Int32 × Int32 × Int32 × Int32 × (Nat → Int32) × (Nat → Int32) × (Nat → Int32) × (Nat → Int32) × (Nat → Int32) × (Nat → Int32) × (Nat → Int32) × (Nat → Int32) × (Nat → Int64)} (C : xC p s m args meth c cX12_readAll 2 RX12 E A none) (J : ∀ (H : Heap) (locs : List Loc) (ls : Array Slot), xG s E A (wR E ad m_thrown m_trouble m_where m_tv m_tape m_taped m_size o.1 o.2.1 o.2.2.1 o.2.2.2.1 o.2.2.2.2.1 o.2.2.2.2.2.1 o.2.2.2.2.2.2.1 m_v m_x m_past m_kept m_acts m_images m_matchNow m_slopsNow m_matchesNow m_slopped m_seatBest m_fedBest m_slopsBest m_sawBest m_leastNow m_stableNow m_fitsNow m_someNow m_everyNow m_otherIn m_askLeft o.2.2.2.2.2.2.2.1 o.2.2.2.2.2.2.2.2.1 o.2.2.2.2.2.2.2.2.2.1 o.2.2.2.2.2.2.2.2.2.2.1 o.2.2.2.2.2.2.2.2.2.2.2.1 o.2.2.2.2.2.2.2.2.2.2.2.2.1 o.2.2.2.2.2.2.2.2.2.2.2.2.2.1 o.2.2.2.2.2.2.2.2.2.2.2.2.2.2.1 o.2.2.2.2.2.2.2.2.2.2.2.2.2.2.2.1 o.2.2.2.2.2.2.2.2.2.2.2.2.2.2.2.2.1 o.2.2.2.2.2.2.2.2.2.2.2.2.2.2.2.2.2.1 o.2.2.2.2.2.2.2.2.2.2.2.2.2.2.2.2.2.2.1 o.2.2.2.2.2.2.2.2.2.2.2.2.2.2.2.2.2.2.2.1 o.2.2.2.2.2.2.2.2.2.2.2.2.2.2.2.2.2.2.2.2.1 o.2.2.2.2.2.2.2.2.2.2.2.2.2.2.2.2.2.2.2.2.2.1 o.2.2.2.2.2.2.2.2.2.2.2.2.2.2.2.2.2.2.2.2.2.2.1 o.2.2.2.2.2.2.2.2.2.2.2.2.2.2.2.2.2.2.2.2.2.2.2.1 o.2.2.2.2.2.2.2.2.2.2.2.2.2.2.2.2.2.2.2.2.2.2.2.2.1 o.2.2.2.2.2.2.2.2.2.2.2.2.2.2.2.2.2.2.2.2.2.2.2.2.2) H locs → lv_has ls 2 [(0, .ref (ad 0))] → W p l e (xR 13 291) s m args below meth c H locs 0 0 Q (F0 m 18 ls [])) :
    ∀ (n : Nat) (l1 : Int32) (m_spot : Int32) (m_sort : Int32) (m_place : Int32) (m_number : Int32) (m_fault : Int32) (m_wrongAt : Int32) (m_word : Int64) (rt_seats : Int32) (rt_slack : Int32) (rt_saw : Int32) (rt_quarrel : Int32) (rt_people : Int32) (rt_pairs : Int32) (rt_forks : Int32) (rt_unsures : Int32) (rt_trieds : Int32) (rt_fed : Int32) (rt_seat : Nat → Int32) (rt_one : Nat → Int32) (rt_other : Nat → Int32) (rt_years : Nat → Int32) (rt_kind : Nat → Int32) (rt_unsure : Nat → Int32) (rt_may : Nat → Int32) (rt_tried : Nat → Int32) (rt_name : Nat → Int64) (H : Heap) (locs : List Loc) (ls : Array Slot), xG s E A (wR E ad m_thrown m_trouble m_where m_tv m_tape m_taped m_size m_spot m_sort m_place m_number m_fault m_wrongAt m_word m_v m_x m_past m_kept m_acts m_images m_matchNow m_slopsNow m_matchesNow m_slopped m_seatBest m_fedBest m_slopsBest m_sawBest m_leastNow m_stableNow m_fitsNow m_someNow m_everyNow m_otherIn m_askLeft rt_seats rt_slack rt_saw rt_quarrel rt_people rt_pairs rt_forks rt_unsures rt_trieds rt_fed rt_seat rt_one rt_other rt_years rt_kind rt_unsure rt_may rt_tried rt_name) H locs → lv_has ls 2 [(0, .ref (ad 0)), (1, .int l1)] → f_M_readAll_L2 m_tape m_size n l1 m_spot m_sort m_place m_number m_fault m_wrongAt m_word rt_seats rt_slack rt_saw rt_quarrel rt_people rt_pairs rt_forks rt_unsures rt_trieds rt_fed rt_seat rt_one rt_other rt_years rt_kind rt_unsure rt_may rt_tried rt_name = some o → W p l e (xR 13 291) s m args below meth c H locs 0 0 Q (F0 m 2 ls []) := by
  have hx := C.1
  have hb := C.2.1
  intro n
  induction n with
  | zero =>
    intro l1 m_spot m_sort m_place m_number m_fault m_wrongAt m_word rt_seats rt_slack rt_saw rt_quarrel rt_people rt_pairs rt_forks rt_unsures rt_trieds rt_fed rt_seat rt_one rt_other rt_years rt_kind rt_unsure rt_may rt_tried rt_name H locs ls G hl hf
    exact nomatch (show (none : Option (Int32 × Int32 × Int32 × Int32 × Int32 × Int32 × Int64 × Int32 × Int32 × Int32 × Int32 × Int32 × Int32 × Int32 × Int32 × Int32 × Int32 × (Nat → Int32) × (Nat → Int32) × (Nat → Int32) × (Nat → Int32) × (Nat → Int32) × (Nat → Int32) × (Nat → Int32) × (Nat → Int32) × (Nat → Int64))) = some o from hf)
  | succ n ih =>
    intro l1 m_spot m_sort m_place m_number m_fault m_wrongAt m_word rt_seats rt_slack rt_saw rt_quarrel rt_people rt_pairs rt_forks rt_unsures rt_trieds rt_fed rt_seat rt_one rt_other rt_years rt_kind rt_unsure rt_may rt_tried rt_name H locs ls G hl hf
    rw [f_M_readAll_L2] at hf
    refine lv_iload_n hx hb dX12_readAll_2 rfl (lv_at hl 1 rfl) ?_
    refine lv_if_eq (tgt := 18) hx hb dX12_readAll_3 (by decide) (fun h => ?_) (fun h => ?_)
    · have hf := it_t h hf
      obtain rfl := Option.some.inj hf
      exact J _ _ _ G (lv_sub hl [0] rfl)
    · have hf := it_f h hf
      refine lv_aload_n hx hb dX12_readAll_6 rfl (lv_at hl 0 rfl) ?_
      obtain ⟨x1, hc, hf⟩ := bd_go hf
      refine xV_V C G (c_M_readLine_m_R hc) mX12_readLine kX12_171 (wR_at0) rfl ⟨Nat.le_of_ble_eq_true rfl, Nat.le_of_ble_eq_true rfl⟩ rfl hl.1 rfl (Nat.le_of_ble_eq_true rfl) ⟨Nat.le_refl _, Nat.le_refl _⟩ dX12_readAll_7 (fun H locs G => ?_)
      refine lv_aload_n hx hb dX12_readAll_10 rfl (lv_at hl 0 rfl) ?_
      obtain ⟨x2, hc, hf⟩ := bd_go hf
      refine xI_V C G (c_M_eatsSemicolon_m_R hc) mX12_eatsSemicolon kX12_174 (wR_at0) rfl ⟨Nat.le_of_ble_eq_true rfl, Nat.le_of_ble_eq_true rfl⟩ rfl hl.1 rfl (Nat.le_of_ble_eq_true rfl) ⟨Nat.le_refl _, Nat.le_refl _⟩ dX12_readAll_11 (fun hz2 H locs G => ?_)
      refine lv_istore_n (lv' := [(1, .int x2.1), (0, .ref (ad 0))]) hx hb dX12_readAll_14 rfl hl (by decide) rfl (fun ls hl => ?_)
      refine lv_goto (tgt := 2) hx hb dX12_readAll_15 (by decide) ?_
      exact ih x2.1 x2.2.1 x2.2.2.1 x2.2.2.2.1 x2.2.2.2.2.1 x1.2.2.2.2.1 x1.2.2.2.2.2.1 x2.2.2.2.2.2 x1.2.2.2.2.2.2.2.1 x1.2.2.2.2.2.2.2.2.1 x1.2.2.2.2.2.2.2.2.2.1 x1.2.2.2.2.2.2.2.2.2.2.1 x1.2.2.2.2.2.2.2.2.2.2.2.1 x1.2.2.2.2.2.2.2.2.2.2.2.2.1 x1.2.2.2.2.2.2.2.2.2.2.2.2.2.1 x1.2.2.2.2.2.2.2.2.2.2.2.2.2.2.1 x1.2.2.2.2.2.2.2.2.2.2.2.2.2.2.2.1 x1.2.2.2.2.2.2.2.2.2.2.2.2.2.2.2.2.1 x1.2.2.2.2.2.2.2.2.2.2.2.2.2.2.2.2.2.1 x1.2.2.2.2.2.2.2.2.2.2.2.2.2.2.2.2.2.2.1 x1.2.2.2.2.2.2.2.2.2.2.2.2.2.2.2.2.2.2.2.1 x1.2.2.2.2.2.2.2.2.2.2.2.2.2.2.2.2.2.2.2.2.1 x1.2.2.2.2.2.2.2.2.2.2.2.2.2.2.2.2.2.2.2.2.2.1 x1.2.2.2.2.2.2.2.2.2.2.2.2.2.2.2.2.2.2.2.2.2.2.1 x1.2.2.2.2.2.2.2.2.2.2.2.2.2.2.2.2.2.2.2.2.2.2.2.1 x1.2.2.2.2.2.2.2.2.2.2.2.2.2.2.2.2.2.2.2.2.2.2.2.2.1 x1.2.2.2.2.2.2.2.2.2.2.2.2.2.2.2.2.2.2.2.2.2.2.2.2.2 _ _ _ G (lv_sub hl [1, 0] rfl) hf
set_option maxHeartbeats 4000000 in
set_option maxRecDepth 100000 in
theorem c_M_readAll_m_R {l : Launch} {E : xE} {ad : Nat → Nat} {m_thrown m_trouble m_where m_taped m_size m_spot m_sort m_place m_number m_fault m_wrongAt m_acts m_images m_matchNow m_slopsNow m_matchesNow m_fedBest m_slopsBest m_sawBest m_leastNow m_stableNow m_fitsNow m_someNow m_everyNow m_askLeft rt_seats rt_slack rt_saw rt_quarrel rt_people rt_pairs rt_forks rt_unsures rt_trieds rt_fed : Int32} {m_tv : Value} {m_tape m_v m_x m_past m_kept m_slopped m_seatBest m_otherIn rt_seat rt_one rt_other rt_years rt_kind rt_unsure rt_may rt_tried : Nat → Int32} {m_word : Int64} {rt_name : Nat → Int64} {R0 : Int32 × Int32 × Int32 × Int32 × Int32 × Int32 × Int64 × Int32 × Int32 × Int32 × Int32 × Int32 × Int32 × Int32 × Int32 × Int32 × Int32 × (Nat → Int32) × (Nat → Int32) × (Nat → Int32) × (Nat → Int32) × (Nat → Int32) × (Nat → Int32) × (Nat → Int32) × (Nat → Int32) × (Nat → Int64)} (hf : f_M_readAll m_tape m_size m_spot m_sort m_place m_number m_fault m_wrongAt m_word rt_seats rt_slack rt_saw rt_quarrel rt_people rt_pairs rt_forks rt_unsures rt_trieds rt_fed rt_seat rt_one rt_other rt_years rt_kind rt_unsure rt_may rt_tried rt_name = some R0) : xV l E yX12_readAll cX12_readAll 2 none 13 291 [.ref (ad 0)] (wR E ad m_thrown m_trouble m_where m_tv m_tape m_taped m_size m_spot m_sort m_place m_number m_fault m_wrongAt m_word m_v m_x m_past m_kept m_acts m_images m_matchNow m_slopsNow m_matchesNow m_slopped m_seatBest m_fedBest m_slopsBest m_sawBest m_leastNow m_stableNow m_fitsNow m_someNow m_everyNow m_otherIn m_askLeft rt_seats rt_slack rt_saw rt_quarrel rt_people rt_pairs rt_forks rt_unsures rt_trieds rt_fed rt_seat rt_one rt_other rt_years rt_kind rt_unsure rt_may rt_tried rt_name) (wR E ad m_thrown m_trouble m_where m_tv m_tape m_taped m_size R0.1 R0.2.1 R0.2.2.1 R0.2.2.2.1 R0.2.2.2.2.1 R0.2.2.2.2.2.1 R0.2.2.2.2.2.2.1 m_v m_x m_past m_kept m_acts m_images m_matchNow m_slopsNow m_matchesNow m_slopped m_seatBest m_fedBest m_slopsBest m_sawBest m_leastNow m_stableNow m_fitsNow m_someNow m_everyNow m_otherIn m_askLeft R0.2.2.2.2.2.2.2.1 R0.2.2.2.2.2.2.2.2.1 R0.2.2.2.2.2.2.2.2.2.1 R0.2.2.2.2.2.2.2.2.2.2.1 R0.2.2.2.2.2.2.2.2.2.2.2.1 R0.2.2.2.2.2.2.2.2.2.2.2.2.1 R0.2.2.2.2.2.2.2.2.2.2.2.2.2.1 R0.2.2.2.2.2.2.2.2.2.2.2.2.2.2.1 R0.2.2.2.2.2.2.2.2.2.2.2.2.2.2.2.1 R0.2.2.2.2.2.2.2.2.2.2.2.2.2.2.2.2.1 R0.2.2.2.2.2.2.2.2.2.2.2.2.2.2.2.2.2.1 R0.2.2.2.2.2.2.2.2.2.2.2.2.2.2.2.2.2.2.1 R0.2.2.2.2.2.2.2.2.2.2.2.2.2.2.2.2.2.2.2.1 R0.2.2.2.2.2.2.2.2.2.2.2.2.2.2.2.2.2.2.2.2.1 R0.2.2.2.2.2.2.2.2.2.2.2.2.2.2.2.2.2.2.2.2.2.1 R0.2.2.2.2.2.2.2.2.2.2.2.2.2.2.2.2.2.2.2.2.2.2.1 R0.2.2.2.2.2.2.2.2.2.2.2.2.2.2.2.2.2.2.2.2.2.2.2.1 R0.2.2.2.2.2.2.2.2.2.2.2.2.2.2.2.2.2.2.2.2.2.2.2.2.1 R0.2.2.2.2.2.2.2.2.2.2.2.2.2.2.2.2.2.2.2.2.2.2.2.2.2) := by
  refine xV_of (by decide) (Nat.le_of_ble_eq_true rfl) (fun p e s m args below meth c A C ls hl G => ?_)
  have hx := C.1
  have hb := C.2.1
  have hl : lv_has ls 2 [(0, .ref (ad 0))] := hl
  unfold f_M_readAll at hf
  refine lv_iconst (v := 1) hx hb dX12_readAll_0 (by decide) ?_
  refine lv_istore_n (lv' := [(1, .int (1 : Int32)), (0, .ref (ad 0))]) hx hb dX12_readAll_1 rfl hl (by decide) rfl (fun ls hl => ?_)
  obtain ⟨x3, hr, hf⟩ := bd_go hf
  have Jx3 : ∀ (H : Heap) (locs : List Loc) (ls : Array Slot), xG s E A (wR E ad m_thrown m_trouble m_where m_tv m_tape m_taped m_size x3.1 x3.2.1 x3.2.2.1 x3.2.2.2.1 x3.2.2.2.2.1 x3.2.2.2.2.2.1 x3.2.2.2.2.2.2.1 m_v m_x m_past m_kept m_acts m_images m_matchNow m_slopsNow m_matchesNow m_slopped m_seatBest m_fedBest m_slopsBest m_sawBest m_leastNow m_stableNow m_fitsNow m_someNow m_everyNow m_otherIn m_askLeft x3.2.2.2.2.2.2.2.1 x3.2.2.2.2.2.2.2.2.1 x3.2.2.2.2.2.2.2.2.2.1 x3.2.2.2.2.2.2.2.2.2.2.1 x3.2.2.2.2.2.2.2.2.2.2.2.1 x3.2.2.2.2.2.2.2.2.2.2.2.2.1 x3.2.2.2.2.2.2.2.2.2.2.2.2.2.1 x3.2.2.2.2.2.2.2.2.2.2.2.2.2.2.1 x3.2.2.2.2.2.2.2.2.2.2.2.2.2.2.2.1 x3.2.2.2.2.2.2.2.2.2.2.2.2.2.2.2.2.1 x3.2.2.2.2.2.2.2.2.2.2.2.2.2.2.2.2.2.1 x3.2.2.2.2.2.2.2.2.2.2.2.2.2.2.2.2.2.2.1 x3.2.2.2.2.2.2.2.2.2.2.2.2.2.2.2.2.2.2.2.1 x3.2.2.2.2.2.2.2.2.2.2.2.2.2.2.2.2.2.2.2.2.1 x3.2.2.2.2.2.2.2.2.2.2.2.2.2.2.2.2.2.2.2.2.2.1 x3.2.2.2.2.2.2.2.2.2.2.2.2.2.2.2.2.2.2.2.2.2.2.1 x3.2.2.2.2.2.2.2.2.2.2.2.2.2.2.2.2.2.2.2.2.2.2.2.1 x3.2.2.2.2.2.2.2.2.2.2.2.2.2.2.2.2.2.2.2.2.2.2.2.2.1 x3.2.2.2.2.2.2.2.2.2.2.2.2.2.2.2.2.2.2.2.2.2.2.2.2.2) H locs → lv_has ls 2 [(0, .ref (ad 0))] → W p l e (xR 13 291) s m args below meth c H locs 0 0 (MQ below (xqV E A (wR E ad m_thrown m_trouble m_where m_tv m_tape m_taped m_size R0.1 R0.2.1 R0.2.2.1 R0.2.2.2.1 R0.2.2.2.2.1 R0.2.2.2.2.2.1 R0.2.2.2.2.2.2.1 m_v m_x m_past m_kept m_acts m_images m_matchNow m_slopsNow m_matchesNow m_slopped m_seatBest m_fedBest m_slopsBest m_sawBest m_leastNow m_stableNow m_fitsNow m_someNow m_everyNow m_otherIn m_askLeft R0.2.2.2.2.2.2.2.1 R0.2.2.2.2.2.2.2.2.1 R0.2.2.2.2.2.2.2.2.2.1 R0.2.2.2.2.2.2.2.2.2.2.1 R0.2.2.2.2.2.2.2.2.2.2.2.1 R0.2.2.2.2.2.2.2.2.2.2.2.2.1 R0.2.2.2.2.2.2.2.2.2.2.2.2.2.1 R0.2.2.2.2.2.2.2.2.2.2.2.2.2.2.1 R0.2.2.2.2.2.2.2.2.2.2.2.2.2.2.2.1 R0.2.2.2.2.2.2.2.2.2.2.2.2.2.2.2.2.1 R0.2.2.2.2.2.2.2.2.2.2.2.2.2.2.2.2.2.1 R0.2.2.2.2.2.2.2.2.2.2.2.2.2.2.2.2.2.2.1 R0.2.2.2.2.2.2.2.2.2.2.2.2.2.2.2.2.2.2.2.1 R0.2.2.2.2.2.2.2.2.2.2.2.2.2.2.2.2.2.2.2.2.1 R0.2.2.2.2.2.2.2.2.2.2.2.2.2.2.2.2.2.2.2.2.2.1 R0.2.2.2.2.2.2.2.2.2.2.2.2.2.2.2.2.2.2.2.2.2.2.1 R0.2.2.2.2.2.2.2.2.2.2.2.2.2.2.2.2.2.2.2.2.2.2.2.1 R0.2.2.2.2.2.2.2.2.2.2.2.2.2.2.2.2.2.2.2.2.2.2.2.2.1 R0.2.2.2.2.2.2.2.2.2.2.2.2.2.2.2.2.2.2.2.2.2.2.2.2.2)) args s 0 0 A) (F0 m 18 ls []) := by
    intro H locs ls G hl
    refine lv_aload_n hx hb dX12_readAll_18 rfl (lv_at hl 0 rfl) ?_
    refine x_get C G fX12_71.g (wR_at0) rfl dX12_readAll_19 ?_
    refine lv_iconst (v := 1) hx hb dX12_readAll_22 (by decide) ?_
    obtain ⟨x4, hrx4, hf⟩ := bd_go hf
    have Jx4 : ∀ (H : Heap) (locs : List Loc) (ls : Array Slot), xG s E A (wR E ad m_thrown m_trouble m_where m_tv m_tape m_taped m_size x3.1 x4.1 x3.2.2.1 x3.2.2.2.1 x4.2.1 x4.2.2 x3.2.2.2.2.2.2.1 m_v m_x m_past m_kept m_acts m_images m_matchNow m_slopsNow m_matchesNow m_slopped m_seatBest m_fedBest m_slopsBest m_sawBest m_leastNow m_stableNow m_fitsNow m_someNow m_everyNow m_otherIn m_askLeft x3.2.2.2.2.2.2.2.1 x3.2.2.2.2.2.2.2.2.1 x3.2.2.2.2.2.2.2.2.2.1 x3.2.2.2.2.2.2.2.2.2.2.1 x3.2.2.2.2.2.2.2.2.2.2.2.1 x3.2.2.2.2.2.2.2.2.2.2.2.2.1 x3.2.2.2.2.2.2.2.2.2.2.2.2.2.1 x3.2.2.2.2.2.2.2.2.2.2.2.2.2.2.1 x3.2.2.2.2.2.2.2.2.2.2.2.2.2.2.2.1 x3.2.2.2.2.2.2.2.2.2.2.2.2.2.2.2.2.1 x3.2.2.2.2.2.2.2.2.2.2.2.2.2.2.2.2.2.1 x3.2.2.2.2.2.2.2.2.2.2.2.2.2.2.2.2.2.2.1 x3.2.2.2.2.2.2.2.2.2.2.2.2.2.2.2.2.2.2.2.1 x3.2.2.2.2.2.2.2.2.2.2.2.2.2.2.2.2.2.2.2.2.1 x3.2.2.2.2.2.2.2.2.2.2.2.2.2.2.2.2.2.2.2.2.2.1 x3.2.2.2.2.2.2.2.2.2.2.2.2.2.2.2.2.2.2.2.2.2.2.1 x3.2.2.2.2.2.2.2.2.2.2.2.2.2.2.2.2.2.2.2.2.2.2.2.1 x3.2.2.2.2.2.2.2.2.2.2.2.2.2.2.2.2.2.2.2.2.2.2.2.2.1 x3.2.2.2.2.2.2.2.2.2.2.2.2.2.2.2.2.2.2.2.2.2.2.2.2.2) H locs → lv_has ls 2 [(0, .ref (ad 0))] → W p l e (xR 13 291) s m args below meth c H locs 0 0 (MQ below (xqV E A (wR E ad m_thrown m_trouble m_where m_tv m_tape m_taped m_size R0.1 R0.2.1 R0.2.2.1 R0.2.2.2.1 R0.2.2.2.2.1 R0.2.2.2.2.2.1 R0.2.2.2.2.2.2.1 m_v m_x m_past m_kept m_acts m_images m_matchNow m_slopsNow m_matchesNow m_slopped m_seatBest m_fedBest m_slopsBest m_sawBest m_leastNow m_stableNow m_fitsNow m_someNow m_everyNow m_otherIn m_askLeft R0.2.2.2.2.2.2.2.1 R0.2.2.2.2.2.2.2.2.1 R0.2.2.2.2.2.2.2.2.2.1 R0.2.2.2.2.2.2.2.2.2.2.1 R0.2.2.2.2.2.2.2.2.2.2.2.1 R0.2.2.2.2.2.2.2.2.2.2.2.2.1 R0.2.2.2.2.2.2.2.2.2.2.2.2.2.1 R0.2.2.2.2.2.2.2.2.2.2.2.2.2.2.1 R0.2.2.2.2.2.2.2.2.2.2.2.2.2.2.2.1 R0.2.2.2.2.2.2.2.2.2.2.2.2.2.2.2.2.1 R0.2.2.2.2.2.2.2.2.2.2.2.2.2.2.2.2.2.1 R0.2.2.2.2.2.2.2.2.2.2.2.2.2.2.2.2.2.2.1 R0.2.2.2.2.2.2.2.2.2.2.2.2.2.2.2.2.2.2.2.1 R0.2.2.2.2.2.2.2.2.2.2.2.2.2.2.2.2.2.2.2.2.1 R0.2.2.2.2.2.2.2.2.2.2.2.2.2.2.2.2.2.2.2.2.2.1 R0.2.2.2.2.2.2.2.2.2.2.2.2.2.2.2.2.2.2.2.2.2.2.1 R0.2.2.2.2.2.2.2.2.2.2.2.2.2.2.2.2.2.2.2.2.2.2.2.1 R0.2.2.2.2.2.2.2.2.2.2.2.2.2.2.2.2.2.2.2.2.2.2.2.2.1 R0.2.2.2.2.2.2.2.2.2.2.2.2.2.2.2.2.2.2.2.2.2.2.2.2.2)) args s 0 0 A) (F0 m 31 ls []) := by
      intro H locs ls G hl
      refine lv_aload_n hx hb dX12_readAll_31 rfl (lv_at hl 0 rfl) ?_
      refine x_get C G fX12_145.g (wR_at0) rfl dX12_readAll_32 ?_
      refine x_get C G fX12_177.g (wR_at9) rfl dX12_readAll_35 ?_
      refine lv_if_ne (tgt := 47) hx hb dX12_readAll_38 (by decide) (fun h => ?_) (fun h => ?_)
      · have hf := it_f h hf
        obtain rfl := Option.some.inj hf
        exact xV_ret C G dX12_readAll_47
      · have hf := it_t h hf
        refine lv_aload_n hx hb dX12_readAll_41 rfl (lv_at hl 0 rfl) ?_
        refine lv_bipush (v := 6) hx hb dX12_readAll_42 (by decide) ?_
        obtain ⟨x5, hc, hf⟩ := bd_go hf
        refine xV_V C G (c_M_flaw_m_R hc) mX12_flaw kX12_114 (wR_at0) rfl ⟨Nat.le_of_ble_eq_true rfl, Nat.le_of_ble_eq_true rfl⟩ rfl hl.1 rfl (Nat.le_of_ble_eq_true rfl) ⟨Nat.le_refl _, Nat.le_refl _⟩ dX12_readAll_44 (fun H locs G => ?_)
        obtain rfl := Option.some.inj hf
        exact xV_ret C G dX12_readAll_47
    have hf := hrx4
    refine lv_icmp_eq (tgt := 31) hx hb dX12_readAll_23 (by decide) (fun h => ?_) (fun h => ?_)
    · have hf := it_t h hf
      obtain rfl := Option.some.inj hf
      exact Jx4 _ _ _ G (lv_sub hl [0] rfl)
    · have hf := it_f h hf
      refine lv_aload_n hx hb dX12_readAll_26 rfl (lv_at hl 0 rfl) ?_
      refine lv_iconst (v := 1) hx hb dX12_readAll_27 (by decide) ?_
      obtain ⟨x6, hc, hf⟩ := bd_go hf
      refine xV_V C G (c_M_flaw_m_R hc) mX12_flaw kX12_114 (wR_at0) rfl ⟨Nat.le_of_ble_eq_true rfl, Nat.le_of_ble_eq_true rfl⟩ rfl hl.1 rfl (Nat.le_of_ble_eq_true rfl) ⟨Nat.le_refl _, Nat.le_refl _⟩ dX12_readAll_28 (fun H locs G => ?_)
      obtain rfl := Option.some.inj hf
      exact Jx4 _ _ _ G (lv_sub hl [0] rfl)
  exact w_M_readAll_m_R_L2 C Jx3 fu _ _ _ _ _ _ _ _ _ _ _ _ _ _ _ _ _ _ _ _ _ _ _ _ _ _ _ _ _ _ G (lv_sub hl [1, 0] rfl) hr
