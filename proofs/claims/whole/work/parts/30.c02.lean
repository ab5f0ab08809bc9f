set_option maxHeartbeats 4000000 in
set_option maxRecDepth 100000 in
theorem c_M_surely_m_M {l : Launch} {E : xE} {ad : Nat → Nat} {m_thrown m_trouble m_where m_taped m_size m_spot m_sort m_place m_number m_fault m_wrongAt m_acts m_images m_matchNow m_slopsNow m_matchesNow m_fedBest m_slopsBest m_sawBest m_leastNow m_stableNow m_fitsNow m_someNow m_everyNow m_askLeft tb_seats tb_slack tb_saw tb_quarrel tb_people tb_pairs tb_forks tb_unsures tb_trieds tb_fed : Int32} {m_rv : Value} {m_tape m_v m_x m_past m_kept m_slopped m_seatBest m_otherIn tb_seat tb_one tb_other tb_years tb_kind tb_unsure tb_may tb_tried : Nat → Int32} {m_word : Int64} {tb_name : Nat → Int64} {R0 : Int32 × Int32 × Int32 × Int32 × (Nat → Int32) × Int32 × Int32 × Int32 × (Nat → Int32)} (hf : f_M_surely m_x m_otherIn tb_slack tb_pairs tb_forks tb_unsures tb_trieds tb_fed tb_seat tb_one tb_other tb_years tb_kind tb_unsure tb_may tb_tried = some R0) : xI l E yX12_surely cX12_surely 1 (some .int) 6 133 [.ref (ad 0)] (wM E ad m_thrown m_trouble m_where m_rv m_tape m_taped m_size m_spot m_sort m_place m_number m_fault m_wrongAt m_word m_v m_x m_past m_kept m_acts m_images m_matchNow m_slopsNow m_matchesNow m_slopped m_seatBest m_fedBest m_slopsBest m_sawBest m_leastNow m_stableNow m_fitsNow m_someNow m_everyNow m_otherIn m_askLeft tb_seats tb_slack tb_saw tb_quarrel tb_people tb_pairs tb_forks tb_unsures tb_trieds tb_fed tb_seat tb_one tb_other tb_years tb_kind tb_unsure tb_may tb_tried tb_name) (wM E ad R0.2.1 R0.2.2.1 R0.2.2.2.1 m_rv m_tape m_taped m_size m_spot m_sort m_place m_number m_fault m_wrongAt m_word m_v R0.2.2.2.2.1 m_past m_kept m_acts m_images m_matchNow m_slopsNow m_matchesNow m_slopped m_seatBest m_fedBest m_slopsBest m_sawBest m_leastNow m_stableNow R0.2.2.2.2.2.1 R0.2.2.2.2.2.2.1 R0.2.2.2.2.2.2.2.1 R0.2.2.2.2.2.2.2.2 m_askLeft tb_seats tb_slack tb_saw tb_quarrel tb_people tb_pairs tb_forks tb_unsures tb_trieds tb_fed tb_seat tb_one tb_other tb_years tb_kind tb_unsure tb_may tb_tried tb_name) R0.1 := by
  refine xI_of (by decide) (Nat.le_of_ble_eq_true rfl) (fun p e s m args below meth c A C ls hl G => ?_)
  have hx := C.1
  have hb := C.2.1
  have hl : lv_has ls 1 [(0, .ref (ad 0))] := hl
  unfold f_M_surely at hf
  refine lv_aload_n hx hb dX12_surely_0 rfl (lv_at hl 0 rfl) ?_
  refine lv_iconst (v := 0) hx hb dX12_surely_1 (by decide) ?_
  refine x_put (ws' := (wM E ad (0 : Int32) m_trouble m_where m_rv m_tape m_taped m_size m_spot m_sort m_place m_number m_fault m_wrongAt m_word m_v m_x m_past m_kept m_acts m_images m_matchNow m_slopsNow m_matchesNow m_slopped m_seatBest m_fedBest m_slopsBest m_sawBest m_leastNow m_stableNow m_fitsNow m_someNow m_everyNow m_otherIn m_askLeft tb_seats tb_slack tb_saw tb_quarrel tb_people tb_pairs tb_forks tb_unsures tb_trieds tb_fed tb_seat tb_one tb_other tb_years tb_kind tb_unsure tb_may tb_tried tb_name)) C G fX12_39 (wM_at0) rfl rfl (Nat.le_of_ble_eq_true rfl) wM_set_m_thrown dX12_surely_2 (fun H locs G => ?_)
  refine lv_aload_n hx hb dX12_surely_5 rfl (lv_at hl 0 rfl) ?_
  refine x_get C G fX12_298.g (wM_at0) rfl dX12_surely_6 ?_
  refine lv_ifnonnull (tgt := 18) hx hb dX12_surely_9 (by decide) ?_
  refine lv_aload_n hx hb dX12_surely_18 rfl (lv_at hl 0 rfl) ?_
  refine lv_iconst (v := -1) hx hb dX12_surely_19 (by decide) ?_
  obtain ⟨x1, hc, hf⟩ := bd_go hf
  refine xI_V C G (c_M_fitting_m_M hc) mX12_fitting kX12_457 (wM_at0) rfl ⟨Nat.le_of_ble_eq_true rfl, Nat.le_of_ble_eq_true rfl⟩ rfl hl.1 rfl (Nat.le_of_ble_eq_true rfl) ⟨Nat.le_refl _, Nat.le_refl _⟩ dX12_surely_20 (fun hz H locs G => ?_)
  refine lv_pop hx hb dX12_surely_23 rfl ?_
  refine lv_aload_n hx hb dX12_surely_24 rfl (lv_at hl 0 rfl) ?_
  refine lv_aload_n hx hb dX12_surely_25 rfl (lv_at hl 0 rfl) ?_
  refine x_get C G fX12_451.g (wM_at0) rfl dX12_surely_26 ?_
  obtain ⟨x2, hc, hf⟩ := bd_go hf
  refine xI_V C G (c_M_good_m_M hc) mX12_good kX12_49 (wM_at0) rfl ⟨Nat.le_of_ble_eq_true rfl, Nat.le_of_ble_eq_true rfl⟩ rfl hl.1 rfl (Nat.le_of_ble_eq_true rfl) ⟨Nat.le_refl _, Nat.le_refl _⟩ dX12_surely_29 (fun hz H locs G => ?_)
  obtain rfl := Option.some.inj hf
  exact xI_ret C G rfl dX12_surely_32
set_option maxHeartbeats 4000000 in
set_option maxRecDepth 100000 in
theorem w_M_asks_m_M_L17 {p : Program} {l : Launch} {e : Env} {s : State} {m : MethodId} {args : Array Value} {below : List Frame} {meth : Method} {c : Code} {A : Nat → Prop} {E : xE} {Q : State → Prop} {ad : Nat → Nat} {m_thrown m_trouble m_where m_taped m_size m_spot m_sort m_place m_number m_fault m_wrongAt m_acts m_images m_matchNow m_slopsNow m_matchesNow m_fedBest m_slopsBest m_sawBest m_leastNow m_stableNow m_fitsNow m_someNow m_everyNow tb_seats tb_slack tb_saw tb_quarrel tb_people tb_pairs tb_forks tb_unsures tb_trieds tb_fed : Int32} {m_rv : Value} {m_tape m_v m_x m_past m_kept m_slopped m_seatBest m_otherIn tb_seat tb_one tb_other tb_years tb_kind tb_unsure tb_may tb_tried : Nat → Int32} {m_word : Int64} {tb_name : Nat → Int64} {o : Int32 × Int32} (C : xC p s m args meth c cX12_asks 4 RX12 E A (some .int)) (J : ∀ (H : Heap) (locs : List Loc) (ls : Array Slot), xG s E A (wM E ad m_thrown m_trouble m_where m_rv m_tape m_taped m_size m_spot m_sort m_place m_number m_fault m_wrongAt m_word m_v m_x m_past m_kept m_acts m_images m_matchNow m_slopsNow m_matchesNow m_slopped m_seatBest m_fedBest m_slopsBest m_sawBest m_leastNow m_stableNow m_fitsNow m_someNow m_everyNow m_otherIn o.2 tb_seats tb_slack tb_saw tb_quarrel tb_people tb_pairs tb_forks tb_unsures tb_trieds tb_fed tb_seat tb_one tb_other tb_years tb_kind tb_unsure tb_may tb_tried tb_name) H locs → lv_has ls 4 [(1, .int o.1)] → W p l e (xR 6 133) s m args below meth c H locs 0 0 Q (F0 m 106 ls [])) :
    ∀ (n : Nat) (l1 : Int32) (l2 : Int32) (m_askLeft : Int32) (H : Heap) (locs : List Loc) (ls : Array Slot), xG s E A (wM E ad m_thrown m_trouble m_where m_rv m_tape m_taped m_size m_spot m_sort m_place m_number m_fault m_wrongAt m_word m_v m_x m_past m_kept m_acts m_images m_matchNow m_slopsNow m_matchesNow m_slopped m_seatBest m_fedBest m_slopsBest m_sawBest m_leastNow m_stableNow m_fitsNow m_someNow m_everyNow m_otherIn m_askLeft tb_seats tb_slack tb_saw tb_quarrel tb_people tb_pairs tb_forks tb_unsures tb_trieds tb_fed tb_seat tb_one tb_other tb_years tb_kind tb_unsure tb_may tb_tried tb_name) H locs → lv_has ls 4 [(0, .ref (ad 0)), (1, .int l1), (2, .int l2)] → f_M_asks_L17 m_fitsNow m_otherIn tb_unsures n l1 l2 m_askLeft = some o → W p l e (xR 6 133) s m args below meth c H locs 0 0 Q (F0 m 17 ls []) := by
  have hx := C.1
  have hb := C.2.1
  intro n
  induction n with
  | zero =>
    intro l1 l2 m_askLeft H locs ls G hl hf
    exact nomatch (show (none : Option (Int32 × Int32)) = some o from hf)
  | succ n ih =>
    intro l1 l2 m_askLeft H locs ls G hl hf
    rw [f_M_asks_L17] at hf
    refine lv_iload_n hx hb dX12_asks_17 rfl (lv_at hl 2 rfl) ?_
    refine lv_aload_n hx hb dX12_asks_18 rfl (lv_at hl 0 rfl) ?_
    refine x_get C G fX12_298.g (wM_at0) rfl dX12_asks_19 ?_
    refine x_get C G fX12_263.g (wM_at9) rfl dX12_asks_22 ?_
    obtain ⟨b2, hr, hf⟩ := bd_go hf
    cases b2 with
    | true =>
      have hf := it_t rfl hf
      have J : ∀ (H : Heap) (locs : List Loc), xG s E A (wM E ad m_thrown m_trouble m_where m_rv m_tape m_taped m_size m_spot m_sort m_place m_number m_fault m_wrongAt m_word m_v m_x m_past m_kept m_acts m_images m_matchNow m_slopsNow m_matchesNow m_slopped m_seatBest m_fedBest m_slopsBest m_sawBest m_leastNow m_stableNow m_fitsNow m_someNow m_everyNow m_otherIn m_askLeft tb_seats tb_slack tb_saw tb_quarrel tb_people tb_pairs tb_forks tb_unsures tb_trieds tb_fed tb_seat tb_one tb_other tb_years tb_kind tb_unsure tb_may tb_tried tb_name) H locs → W p l e (xR 6 133) s m args below meth c H locs 0 0 Q (F0 m 106 ls []) := by
        intro H locs G
        obtain rfl := Option.some.inj hf
        exact J _ _ _ G (lv_sub hl [1] rfl)
      have hf := hr
      clear hr
      refine lv_icmp_ge (tgt := 106) hx hb dX12_asks_25 (by decide) (fun h => ?_) (fun h => ?_)
      · have hf := it_t h hf
        exact J _ _ G
      · have hf := it_f h hf
        refine lv_aload_n hx hb dX12_asks_28 rfl (lv_at hl 0 rfl) ?_
        refine x_get C G fX12_445.g (wM_at0) rfl dX12_asks_29 ?_
        refine lv_if_le (tgt := 106) hx hb dX12_asks_32 (by decide) (fun h => ?_) (fun h => ?_)
        · have hf := it_t h hf
          exact J _ _ G
        · have hf := it_f h hf
          exact absurd (Option.some.inj hf) (by decide)
    | false =>
      have hf := it_f (by decide) hf
      have J : ∀ (H : Heap) (locs : List Loc), xG s E A (wM E ad m_thrown m_trouble m_where m_rv m_tape m_taped m_size m_spot m_sort m_place m_number m_fault m_wrongAt m_word m_v m_x m_past m_kept m_acts m_images m_matchNow m_slopsNow m_matchesNow m_slopped m_seatBest m_fedBest m_slopsBest m_sawBest m_leastNow m_stableNow m_fitsNow m_someNow m_everyNow m_otherIn m_askLeft tb_seats tb_slack tb_saw tb_quarrel tb_people tb_pairs tb_forks tb_unsures tb_trieds tb_fed tb_seat tb_one tb_other tb_years tb_kind tb_unsure tb_may tb_tried tb_name) H locs → W p l e (xR 6 133) s m args below meth c H locs 0 0 Q (F0 m 35 ls []) := by
        intro H locs G
        refine lv_aload_n hx hb dX12_asks_35 rfl (lv_at hl 0 rfl) ?_
        refine x_get C G fX12_36 (wM_at0) rfl dX12_asks_36 ?_
        refine lv_iload_n hx hb dX12_asks_39 rfl (lv_at hl 2 rfl) ?_
        have hi := ck_in hf
        have hf := ck_go hf
        refine x_iald C G (wM_at8) hi dX12_asks_40 ?_
        refine lv_aload_n hx hb dX12_asks_41 rfl (lv_at hl 0 rfl) ?_
        refine x_get C G fX12_445.g (wM_at0) rfl dX12_asks_42 ?_
        refine lv_aload_n hx hb dX12_asks_45 rfl (lv_at hl 0 rfl) ?_
        refine x_get C G fX12_36 (wM_at0) rfl dX12_asks_46 ?_
        refine lv_iload_n hx hb dX12_asks_49 rfl (lv_at hl 2 rfl) ?_
        have hi := ck_in hf
        have hf := ck_go hf
        refine x_iald C G (wM_at8) hi dX12_asks_50 ?_
        refine lv_isub hx hb dX12_asks_51 ?_
        obtain ⟨x3, hrx3, hf⟩ := bd_go hf
        have Jx3 : ∀ (H : Heap) (locs : List Loc) (ls : Array Slot), xG s E A (wM E ad m_thrown m_trouble m_where m_rv m_tape m_taped m_size m_spot m_sort m_place m_number m_fault m_wrongAt m_word m_v m_x m_past m_kept m_acts m_images m_matchNow m_slopsNow m_matchesNow m_slopped m_seatBest m_fedBest m_slopsBest m_sawBest m_leastNow m_stableNow m_fitsNow m_someNow m_everyNow m_otherIn m_askLeft tb_seats tb_slack tb_saw tb_quarrel tb_people tb_pairs tb_forks tb_unsures tb_trieds tb_fed tb_seat tb_one tb_other tb_years tb_kind tb_unsure tb_may tb_tried tb_name) H locs → lv_has ls 4 [(0, .ref (ad 0)), (1, .int l1), (2, .int l2)] → W p l e (xR 6 133) s m args below meth c H locs 0 0 Q (F0 m 75 ls [.int x3]) := by
          intro H locs ls G hl
          refine lv_istore_n (lv' := [(3, .int x3), (0, .ref (ad 0)), (1, .int l1), (2, .int l2)]) hx hb dX12_asks_75 rfl hl (by decide) rfl (fun ls hl => ?_)
          refine lv_iload_n hx hb dX12_asks_76 rfl (lv_at hl 2 rfl) ?_
          refine lv_bipush (v := -2) hx hb dX12_asks_77 (by decide) ?_
          obtain ⟨b4, hr, hf⟩ := bd_go hf
          cases b4 with
          | true =>
            have hf := it_t rfl hf
            have J : ∀ (H : Heap) (locs : List Loc), xG s E A (wM E ad m_thrown m_trouble m_where m_rv m_tape m_taped m_size m_spot m_sort m_place m_number m_fault m_wrongAt m_word m_v m_x m_past m_kept m_acts m_images m_matchNow m_slopsNow m_matchesNow m_slopped m_seatBest m_fedBest m_slopsBest m_sawBest m_leastNow m_stableNow m_fitsNow m_someNow m_everyNow m_otherIn m_askLeft tb_seats tb_slack tb_saw tb_quarrel tb_people tb_pairs tb_forks tb_unsures tb_trieds tb_fed tb_seat tb_one tb_other tb_years tb_kind tb_unsure tb_may tb_tried tb_name) H locs → W p l e (xR 6 133) s m args below meth c H locs 0 0 Q (F0 m 93 ls []) := by
              intro H locs G
              refine lv_iload_n hx hb dX12_asks_93 rfl (lv_at hl 3 rfl) ?_
              refine lv_istore_n (lv' := [(1, .int l2), (3, .int x3), (0, .ref (ad 0)), (2, .int l2)]) hx hb dX12_asks_94 rfl hl (by decide) rfl (fun ls hl => ?_)
              refine lv_aload_n hx hb dX12_asks_95 rfl (lv_at hl 2 rfl) ?_
              refine lv_iload_n hx hb dX12_asks_96 rfl (lv_at hl 1 rfl) ?_
              refine x_put (ws' := (wM E ad m_thrown m_trouble m_where m_rv m_tape m_taped m_size m_spot m_sort m_place m_number m_fault m_wrongAt m_word m_v m_x m_past m_kept m_acts m_images m_matchNow m_slopsNow m_matchesNow m_slopped m_seatBest m_fedBest m_slopsBest m_sawBest m_leastNow m_stableNow m_fitsNow m_someNow m_everyNow m_otherIn x3 tb_seats tb_slack tb_saw tb_quarrel tb_people tb_pairs tb_forks tb_unsures tb_trieds tb_fed tb_seat tb_one tb_other tb_years tb_kind tb_unsure tb_may tb_tried tb_name)) C G fX12_460 (wM_at0) rfl rfl (Nat.le_of_ble_eq_true rfl) wM_set_m_askLeft dX12_asks_97 (fun H locs G => ?_)
              obtain ⟨x5, ex5⟩ : ∃ z : Int32, z = l2 + (1 : Int32) := ⟨_, rfl⟩
              have hf := lt_go ex5 hf
              refine lv_iinc (v := x5) (lv' := [(2, .int x5), (1, .int l2), (3, .int x3), (0, .ref (ad 0))]) hx hb dX12_asks_100 hl (k := 3) rfl (by rw [ex5]; rfl) (by decide) rfl (fun ls hl => ?_)
              refine lv_goto (tgt := 17) hx hb dX12_asks_103 (by decide) ?_
              exact ih l2 x5 x3 _ _ _ G (lv_sub hl [3, 1, 0] rfl) hf
            have hf := hr
            clear hr
            refine lv_icmp_eq (tgt := 93) hx hb dX12_asks_79 (by decide) (fun h => ?_) (fun h => ?_)
            · have hf := it_t h hf
              exact J _ _ G
            · have hf := it_f h hf
              refine lv_iload_n hx hb dX12_asks_82 rfl (lv_at hl 0 rfl) ?_
              refine lv_aload_n hx hb dX12_asks_83 rfl (lv_at hl 1 rfl) ?_
              refine x_get C G fX12_460.g (wM_at0) rfl dX12_asks_84 ?_
              refine lv_icmp_lt (tgt := 93) hx hb dX12_asks_87 (by decide) (fun h => ?_) (fun h => ?_)
              · have hf := it_t h hf
                exact J _ _ G
              · have hf := it_f h hf
                exact absurd (Option.some.inj hf) (by decide)
          | false =>
            have hf := it_f (by decide) hf
            have J : ∀ (H : Heap) (locs : List Loc), xG s E A (wM E ad m_thrown m_trouble m_where m_rv m_tape m_taped m_size m_spot m_sort m_place m_number m_fault m_wrongAt m_word m_v m_x m_past m_kept m_acts m_images m_matchNow m_slopsNow m_matchesNow m_slopped m_seatBest m_fedBest m_slopsBest m_sawBest m_leastNow m_stableNow m_fitsNow m_someNow m_everyNow m_otherIn m_askLeft tb_seats tb_slack tb_saw tb_quarrel tb_people tb_pairs tb_forks tb_unsures tb_trieds tb_fed tb_seat tb_one tb_other tb_years tb_kind tb_unsure tb_may tb_tried tb_name) H locs → W p l e (xR 6 133) s m args below meth c H locs 0 0 Q (F0 m 90 ls []) := by
              intro H locs G
              refine lv_goto (tgt := 100) hx hb dX12_asks_90 (by decide) ?_
              obtain ⟨x6, ex6⟩ : ∃ z : Int32, z = l2 + (1 : Int32) := ⟨_, rfl⟩
              have hf := lt_go ex6 hf
              refine lv_iinc (v := x6) (lv' := [(2, .int x6), (3, .int x3), (0, .ref (ad 0)), (1, .int l1)]) hx hb dX12_asks_100 hl (k := 3) rfl (by rw [ex6]; rfl) (by decide) rfl (fun ls hl => ?_)
              refine lv_goto (tgt := 17) hx hb dX12_asks_103 (by decide) ?_
              exact ih l1 x6 m_askLeft _ _ _ G (lv_sub hl [2, 3, 0] rfl) hf
            have hf := hr
            clear hr
            refine lv_icmp_eq (tgt := 93) hx hb dX12_asks_79 (by decide) (fun h => ?_) (fun h => ?_)
            · have hf := it_t h hf
              exact absurd (Option.some.inj hf) (by decide)
            · have hf := it_f h hf
              refine lv_iload_n hx hb dX12_asks_82 rfl (lv_at hl 0 rfl) ?_
              refine lv_aload_n hx hb dX12_asks_83 rfl (lv_at hl 1 rfl) ?_
              refine x_get C G fX12_460.g (wM_at0) rfl dX12_asks_84 ?_
              refine lv_icmp_lt (tgt := 93) hx hb dX12_asks_87 (by decide) (fun h => ?_) (fun h => ?_)
              · have hf := it_t h hf
                exact absurd (Option.some.inj hf) (by decide)
              · have hf := it_f h hf
                exact J _ _ G
        have hf := hrx3
        refine lv_icmp_le (tgt := 64) hx hb dX12_asks_52 (by decide) (fun h => ?_) (fun h => ?_)
        · have hf := it_t h hf
          refine lv_aload_n hx hb dX12_asks_64 rfl (lv_at hl 0 rfl) ?_
          refine x_get C G fX12_445.g (wM_at0) rfl dX12_asks_65 ?_
          refine lv_aload_n hx hb dX12_asks_68 rfl (lv_at hl 0 rfl) ?_
          refine x_get C G fX12_36 (wM_at0) rfl dX12_asks_69 ?_
          refine lv_iload_n hx hb dX12_asks_72 rfl (lv_at hl 2 rfl) ?_
          have hi := ck_in hf
          have hf := ck_go hf
          refine x_iald C G (wM_at8) hi dX12_asks_73 ?_
          refine lv_isub hx hb dX12_asks_74 ?_
          obtain rfl := Option.some.inj hf
          exact Jx3 _ _ _ G (lv_sub hl [0, 1, 2] rfl)
        · have hf := it_f h hf
          refine lv_aload_n hx hb dX12_asks_55 rfl (lv_at hl 0 rfl) ?_
          refine x_get C G fX12_36 (wM_at0) rfl dX12_asks_56 ?_
          refine lv_iload_n hx hb dX12_asks_59 rfl (lv_at hl 2 rfl) ?_
          have hi := ck_in hf
          have hf := ck_go hf
          refine x_iald C G (wM_at8) hi dX12_asks_60 ?_
          refine lv_goto (tgt := 75) hx hb dX12_asks_61 (by decide) ?_
          obtain rfl := Option.some.inj hf
          exact Jx3 _ _ _ G (lv_sub hl [0, 1, 2] rfl)
      have hf := hr
      clear hr
      refine lv_icmp_ge (tgt := 106) hx hb dX12_asks_25 (by decide) (fun h => ?_) (fun h => ?_)
      · have hf := it_t h hf
        exact absurd (Option.some.inj hf) (by decide)
      · have hf := it_f h hf
        refine lv_aload_n hx hb dX12_asks_28 rfl (lv_at hl 0 rfl) ?_
        refine x_get C G fX12_445.g (wM_at0) rfl dX12_asks_29 ?_
        refine lv_if_le (tgt := 106) hx hb dX12_asks_32 (by decide) (fun h => ?_) (fun h => ?_)
        · have hf := it_t h hf
          exact absurd (Option.some.inj hf) (by decide)
        · have hf := it_f h hf
          exact J _ _ G
set_option maxHeartbeats 4000000 in
set_option maxRecDepth 100000 in
theorem c_M_asks_m_M {l : Launch} {E : xE} {ad : Nat → Nat} {m_thrown m_trouble m_where m_taped m_size m_spot m_sort m_place m_number m_fault m_wrongAt m_acts m_images m_matchNow m_slopsNow m_matchesNow m_fedBest m_slopsBest m_sawBest m_leastNow m_stableNow m_fitsNow m_someNow m_everyNow m_askLeft tb_seats tb_slack tb_saw tb_quarrel tb_people tb_pairs tb_forks tb_unsures tb_trieds tb_fed : Int32} {m_rv : Value} {m_tape m_v m_x m_past m_kept m_slopped m_seatBest m_otherIn tb_seat tb_one tb_other tb_years tb_kind tb_unsure tb_may tb_tried : Nat → Int32} {m_word : Int64} {tb_name : Nat → Int64} {R0 : Int32 × (Nat → Int32) × Int32 × Int32 × Int32 × (Nat → Int32) × Int32} (hf : f_M_asks m_x m_otherIn tb_slack tb_pairs tb_forks tb_unsures tb_trieds tb_fed tb_seat tb_one tb_other tb_years tb_kind tb_unsure tb_may tb_tried = some R0) : xI l E yX12_asks cX12_asks 4 (some .int) 6 133 [.ref (ad 0)] (wM E ad m_thrown m_trouble m_where m_rv m_tape m_taped m_size m_spot m_sort m_place m_number m_fault m_wrongAt m_word m_v m_x m_past m_kept m_acts m_images m_matchNow m_slopsNow m_matchesNow m_slopped m_seatBest m_fedBest m_slopsBest m_sawBest m_leastNow m_stableNow m_fitsNow m_someNow m_everyNow m_otherIn m_askLeft tb_seats tb_slack tb_saw tb_quarrel tb_people tb_pairs tb_forks tb_unsures tb_trieds tb_fed tb_seat tb_one tb_other tb_years tb_kind tb_unsure tb_may tb_tried tb_name) (wM E ad m_thrown m_trouble m_where m_rv m_tape m_taped m_size m_spot m_sort m_place m_number m_fault m_wrongAt m_word m_v R0.2.1 m_past m_kept m_acts m_images m_matchNow m_slopsNow m_matchesNow m_slopped m_seatBest m_fedBest m_slopsBest m_sawBest m_leastNow m_stableNow R0.2.2.1 R0.2.2.2.1 R0.2.2.2.2.1 R0.2.2.2.2.2.1 R0.2.2.2.2.2.2 tb_seats tb_slack tb_saw tb_quarrel tb_people tb_pairs tb_forks tb_unsures tb_trieds tb_fed tb_seat tb_one tb_other tb_years tb_kind tb_unsure tb_may tb_tried tb_name) R0.1 := by
  refine xI_of (by decide) (Nat.le_of_ble_eq_true rfl) (fun p e s m args below meth c A C ls hl G => ?_)
  have hx := C.1
  have hb := C.2.1
  have hl : lv_has ls 4 [(0, .ref (ad 0))] := hl
  unfold f_M_asks at hf
  refine lv_aload_n hx hb dX12_asks_0 rfl (lv_at hl 0 rfl) ?_
  refine lv_iconst (v := -1) hx hb dX12_asks_1 (by decide) ?_
  obtain ⟨x1, hc, hf⟩ := bd_go hf
  refine xI_V C G (c_M_fitting_m_M hc) mX12_fitting kX12_457 (wM_at0) rfl ⟨Nat.le_of_ble_eq_true rfl, Nat.le_of_ble_eq_true rfl⟩ rfl hl.1 rfl (Nat.le_of_ble_eq_true rfl) ⟨Nat.le_refl _, Nat.le_refl _⟩ dX12_asks_2 (fun hz H locs G => ?_)
  refine lv_pop hx hb dX12_asks_5 rfl ?_
  refine lv_bipush (v := -2) hx hb dX12_asks_6 (by decide) ?_
  refine lv_istore_n (lv' := [(1, .int (-2 : Int32)), (0, .ref (ad 0))]) hx hb dX12_asks_8 rfl hl (by decide) rfl (fun ls hl => ?_)
  refine lv_aload_n hx hb dX12_asks_9 rfl (lv_at hl 1 rfl) ?_
  refine lv_bipush (v := -2) hx hb dX12_asks_10 (by decide) ?_
  refine x_put (ws' := (wM E ad m_thrown m_trouble m_where m_rv m_tape m_taped m_size m_spot m_sort m_place m_number m_fault m_wrongAt m_word m_v x1.2.1 m_past m_kept m_acts m_images m_matchNow m_slopsNow m_matchesNow m_slopped m_seatBest m_fedBest m_slopsBest m_sawBest m_leastNow m_stableNow x1.2.2.1 x1.2.2.2.1 x1.2.2.2.2.1 x1.2.2.2.2.2 (-2 : Int32) tb_seats tb_slack tb_saw tb_quarrel tb_people tb_pairs tb_forks tb_unsures tb_trieds tb_fed tb_seat tb_one tb_other tb_years tb_kind tb_unsure tb_may tb_tried tb_name)) C G fX12_460 (wM_at0) rfl rfl (Nat.le_of_ble_eq_true rfl) wM_set_m_askLeft dX12_asks_12 (fun H locs G => ?_)
  refine lv_iconst (v := 0) hx hb dX12_asks_15 (by decide) ?_
  refine lv_istore_n (lv' := [(2, .int (0 : Int32)), (1, .int (-2 : Int32)), (0, .ref (ad 0))]) hx hb dX12_asks_16 rfl hl (by decide) rfl (fun ls hl => ?_)
  obtain ⟨x7, hr, hf⟩ := bd_go hf
  have Jx7 : ∀ (H : Heap) (locs : List Loc) (ls : Array Slot), xG s E A (wM E ad m_thrown m_trouble m_where m_rv m_tape m_taped m_size m_spot m_sort m_place m_number m_fault m_wrongAt m_word m_v x1.2.1 m_past m_kept m_acts m_images m_matchNow m_slopsNow m_matchesNow m_slopped m_seatBest m_fedBest m_slopsBest m_sawBest m_leastNow m_stableNow x1.2.2.1 x1.2.2.2.1 x1.2.2.2.2.1 x1.2.2.2.2.2 x7.2 tb_seats tb_slack tb_saw tb_quarrel tb_people tb_pairs tb_forks tb_unsures tb_trieds tb_fed tb_seat tb_one tb_other tb_years tb_kind tb_unsure tb_may tb_tried tb_name) H locs → lv_has ls 4 [(1, .int x7.1)] → W p l e (xR 6 133) s m args below meth c H locs 0 0 (MQ below (xqI E A (wM E ad m_thrown m_trouble m_where m_rv m_tape m_taped m_size m_spot m_sort m_place m_number m_fault m_wrongAt m_word m_v R0.2.1 m_past m_kept m_acts m_images m_matchNow m_slopsNow m_matchesNow m_slopped m_seatBest m_fedBest m_slopsBest m_sawBest m_leastNow m_stableNow R0.2.2.1 R0.2.2.2.1 R0.2.2.2.2.1 R0.2.2.2.2.2.1 R0.2.2.2.2.2.2 tb_seats tb_slack tb_saw tb_quarrel tb_people tb_pairs tb_forks tb_unsures tb_trieds tb_fed tb_seat tb_one tb_other tb_years tb_kind tb_unsure tb_may tb_tried tb_name) (some .int) R0.1) args s 0 0 A) (F0 m 106 ls []) := by
    intro H locs ls G hl
    refine lv_iload_n hx hb dX12_asks_106 rfl (lv_at hl 0 rfl) ?_
    obtain rfl := Option.some.inj hf
    exact xI_ret C G rfl dX12_asks_107
  exact w_M_asks_m_M_L17 C Jx7 fu _ _ _ _ _ _ G (lv_sub hl [2, 1, 0] rfl) hr
set_option maxHeartbeats 4000000 in
set_option maxRecDepth 100000 in
theorem c_M_ask_m_M {l : Launch} {E : xE} {ad : Nat → Nat} {m_thrown m_trouble m_where m_taped m_size m_spot m_sort m_place m_number m_fault m_wrongAt m_acts m_images m_matchNow m_slopsNow m_matchesNow m_fedBest m_slopsBest m_sawBest m_leastNow m_stableNow m_fitsNow m_someNow m_everyNow m_askLeft tb_seats tb_slack tb_saw tb_quarrel tb_people tb_pairs tb_forks tb_unsures tb_trieds tb_fed : Int32} {m_rv : Value} {m_tape m_v m_x m_past m_kept m_slopped m_seatBest m_otherIn tb_seat tb_one tb_other tb_years tb_kind tb_unsure tb_may tb_tried : Nat → Int32} {m_word : Int64} {tb_name : Nat → Int64} {R0 : Int32 × Int32 × Int32 × Int32 × (Nat → Int32) × Int32 × Int32 × Int32 × (Nat → Int32) × Int32} (hf : f_M_ask m_x m_otherIn tb_slack tb_pairs tb_forks tb_unsures tb_trieds tb_fed tb_seat tb_one tb_other tb_years tb_kind tb_unsure tb_may tb_tried = some R0) : xI l E yX12_ask cX12_ask 1 (some .int) 7 156 [.ref (ad 0)] (wM E ad m_thrown m_trouble m_where m_rv m_tape m_taped m_size m_spot m_sort m_place m_number m_fault m_wrongAt m_word m_v m_x m_past m_kept m_acts m_images m_matchNow m_slopsNow m_matchesNow m_slopped m_seatBest m_fedBest m_slopsBest m_sawBest m_leastNow m_stableNow m_fitsNow m_someNow m_everyNow m_otherIn m_askLeft tb_seats tb_slack tb_saw tb_quarrel tb_people tb_pairs tb_forks tb_unsures tb_trieds tb_fed tb_seat tb_one tb_other tb_years tb_kind tb_unsure tb_may tb_tried tb_name) (wM E ad R0.2.1 R0.2.2.1 R0.2.2.2.1 m_rv m_tape m_taped m_size m_spot m_sort m_place m_number m_fault m_wrongAt m_word m_v R0.2.2.2.2.1 m_past m_kept m_acts m_images m_matchNow m_slopsNow m_matchesNow m_slopped m_seatBest m_fedBest m_slopsBest m_sawBest m_leastNow m_stableNow R0.2.2.2.2.2.1 R0.2.2.2.2.2.2.1 R0.2.2.2.2.2.2.2.1 R0.2.2.2.2.2.2.2.2.1 R0.2.2.2.2.2.2.2.2.2 tb_seats tb_slack tb_saw tb_quarrel tb_people tb_pairs tb_forks tb_unsures tb_trieds tb_fed tb_seat tb_one tb_other tb_years tb_kind tb_unsure tb_may tb_tried tb_name) R0.1 := by
  refine xI_of (by decide) (Nat.le_of_ble_eq_true rfl) (fun p e s m args below meth c A C ls hl G => ?_)
  have hx := C.1
  have hb := C.2.1
  have hl : lv_has ls 1 [(0, .ref (ad 0))] := hl
  unfold f_M_ask at hf
  refine lv_aload_n hx hb dX12_ask_0 rfl (lv_at hl 0 rfl) ?_
  refine lv_iconst (v := 0) hx hb dX12_ask_1 (by decide) ?_
  refine x_put (ws' := (wM E ad (0 : Int32) m_trouble m_where m_rv m_tape m_taped m_size m_spot m_sort m_place m_number m_fault m_wrongAt m_word m_v m_x m_past m_kept m_acts m_images m_matchNow m_slopsNow m_matchesNow m_slopped m_seatBest m_fedBest m_slopsBest m_sawBest m_leastNow m_stableNow m_fitsNow m_someNow m_everyNow m_otherIn m_askLeft tb_seats tb_slack tb_saw tb_quarrel tb_people tb_pairs tb_forks tb_unsures tb_trieds tb_fed tb_seat tb_one tb_other tb_years tb_kind tb_unsure tb_may tb_tried tb_name)) C G fX12_39 (wM_at0) rfl rfl (Nat.le_of_ble_eq_true rfl) wM_set_m_thrown dX12_ask_2 (fun H locs G => ?_)
  refine lv_aload_n hx hb dX12_ask_5 rfl (lv_at hl 0 rfl) ?_
  refine x_get C G fX12_298.g (wM_at0) rfl dX12_ask_6 ?_
  refine lv_ifnonnull (tgt := 20) hx hb dX12_ask_9 (by decide) ?_
  refine lv_aload_n hx hb dX12_ask_20 rfl (lv_at hl 0 rfl) ?_
  refine lv_aload_n hx hb dX12_ask_21 rfl (lv_at hl 0 rfl) ?_
  obtain ⟨x1, hc, hf⟩ := bd_go hf
  refine xI_V C G (c_M_asks_m_M hc) mX12_asks kX12_463 (wM_at0) rfl ⟨Nat.le_of_ble_eq_true rfl, Nat.le_of_ble_eq_true rfl⟩ rfl hl.1 rfl (Nat.le_of_ble_eq_true rfl) ⟨Nat.le_refl _, Nat.le_refl _⟩ dX12_ask_22 (fun hz H locs G => ?_)
  obtain ⟨x2, hc, hf⟩ := bd_go hf
  refine xI_V C G (c_M_good_m_M hc) mX12_good kX12_49 (wM_at0) rfl ⟨Nat.le_of_ble_eq_true rfl, Nat.le_of_ble_eq_true rfl⟩ rfl hl.1 rfl (Nat.le_of_ble_eq_true rfl) ⟨Nat.le_refl _, Nat.le_refl _⟩ dX12_ask_25 (fun hz H locs G => ?_)
  obtain rfl := Option.some.inj hf
  exact xI_ret C G rfl dX12_ask_28
set_option maxHeartbeats 4000000 in
set_option maxRecDepth 100000 in
theorem c_M_askLeaves_m_M {l : Launch} {E : xE} {ad : Nat → Nat} {m_thrown m_trouble m_where m_taped m_size m_spot m_sort m_place m_number m_fault m_wrongAt m_acts m_images m_matchNow m_slopsNow m_matchesNow m_fedBest m_slopsBest m_sawBest m_leastNow m_stableNow m_fitsNow m_someNow m_everyNow m_askLeft tb_seats tb_slack tb_saw tb_quarrel tb_people tb_pairs tb_forks tb_unsures tb_trieds tb_fed : Int32} {m_rv : Value} {m_tape m_v m_x m_past m_kept m_slopped m_seatBest m_otherIn tb_seat tb_one tb_other tb_years tb_kind tb_unsure tb_may tb_tried : Nat → Int32} {m_word : Int64} {tb_name : Nat → Int64} {R0 : Int32 × Int32 × Int32 × Int32 × (Nat → Int32) × Int32 × Int32 × Int32 × (Nat → Int32) × Int32} (hf : f_M_askLeaves m_x m_otherIn tb_slack tb_pairs tb_forks tb_unsures tb_trieds tb_fed tb_seat tb_one tb_other tb_years tb_kind tb_unsure tb_may tb_tried = some R0) : xI l E yX12_askLeaves cX12_askLeaves 1 (some .int) 7 156 [.ref (ad 0)] (wM E ad m_thrown m_trouble m_where m_rv m_tape m_taped m_size m_spot m_sort m_place m_number m_fault m_wrongAt m_word m_v m_x m_past m_kept m_acts m_images m_matchNow m_slopsNow m_matchesNow m_slopped m_seatBest m_fedBest m_slopsBest m_sawBest m_leastNow m_stableNow m_fitsNow m_someNow m_everyNow m_otherIn m_askLeft tb_seats tb_slack tb_saw tb_quarrel tb_people tb_pairs tb_forks tb_unsures tb_trieds tb_fed tb_seat tb_one tb_other tb_years tb_kind tb_unsure tb_may tb_tried tb_name) (wM E ad R0.2.1 R0.2.2.1 R0.2.2.2.1 m_rv m_tape m_taped m_size m_spot m_sort m_place m_number m_fault m_wrongAt m_word m_v R0.2.2.2.2.1 m_past m_kept m_acts m_images m_matchNow m_slopsNow m_matchesNow m_slopped m_seatBest m_fedBest m_slopsBest m_sawBest m_leastNow m_stableNow R0.2.2.2.2.2.1 R0.2.2.2.2.2.2.1 R0.2.2.2.2.2.2.2.1 R0.2.2.2.2.2.2.2.2.1 R0.2.2.2.2.2.2.2.2.2 tb_seats tb_slack tb_saw tb_quarrel tb_people tb_pairs tb_forks tb_unsures tb_trieds tb_fed tb_seat tb_one tb_other tb_years tb_kind tb_unsure tb_may tb_tried tb_name) R0.1 := by
  refine xI_of (by decide) (Nat.le_of_ble_eq_true rfl) (fun p e s m args below meth c A C ls hl G => ?_)
  have hx := C.1
  have hb := C.2.1
  have hl : lv_has ls 1 [(0, .ref (ad 0))] := hl
  unfold f_M_askLeaves at hf
  refine lv_aload_n hx hb dX12_askLeaves_0 rfl (lv_at hl 0 rfl) ?_
  refine lv_iconst (v := 0) hx hb dX12_askLeaves_1 (by decide) ?_
  refine x_put (ws' := (wM E ad (0 : Int32) m_trouble m_where m_rv m_tape m_taped m_size m_spot m_sort m_place m_number m_fault m_wrongAt m_word m_v m_x m_past m_kept m_acts m_images m_matchNow m_slopsNow m_matchesNow m_slopped m_seatBest m_fedBest m_slopsBest m_sawBest m_leastNow m_stableNow m_fitsNow m_someNow m_everyNow m_otherIn m_askLeft tb_seats tb_slack tb_saw tb_quarrel tb_people tb_pairs tb_forks tb_unsures tb_trieds tb_fed tb_seat tb_one tb_other tb_years tb_kind tb_unsure tb_may tb_tried tb_name)) C G fX12_39 (wM_at0) rfl rfl (Nat.le_of_ble_eq_true rfl) wM_set_m_thrown dX12_askLeaves_2 (fun H locs G => ?_)
  refine lv_aload_n hx hb dX12_askLeaves_5 rfl (lv_at hl 0 rfl) ?_
  refine x_get C G fX12_298.g (wM_at0) rfl dX12_askLeaves_6 ?_
  refine lv_ifnonnull (tgt := 18) hx hb dX12_askLeaves_9 (by decide) ?_
  refine lv_aload_n hx hb dX12_askLeaves_18 rfl (lv_at hl 0 rfl) ?_
  obtain ⟨x1, hc, hf⟩ := bd_go hf
  refine xI_V C G (c_M_asks_m_M hc) mX12_asks kX12_463 (wM_at0) rfl ⟨Nat.le_of_ble_eq_true rfl, Nat.le_of_ble_eq_true rfl⟩ rfl hl.1 rfl (Nat.le_of_ble_eq_true rfl) ⟨Nat.le_refl _, Nat.le_refl _⟩ dX12_askLeaves_19 (fun hz H locs G => ?_)
  refine lv_pop hx hb dX12_askLeaves_22 rfl ?_
  refine lv_aload_n hx hb dX12_askLeaves_23 rfl (lv_at hl 0 rfl) ?_
  refine lv_aload_n hx hb dX12_askLeaves_24 rfl (lv_at hl 0 rfl) ?_
  refine x_get C G fX12_460.g (wM_at0) rfl dX12_askLeaves_25 ?_
  obtain ⟨x2, hc, hf⟩ := bd_go hf
  refine xI_V C G (c_M_good_m_M hc) mX12_good kX12_49 (wM_at0) rfl ⟨Nat.le_of_ble_eq_true rfl, Nat.le_of_ble_eq_true rfl⟩ rfl hl.1 rfl (Nat.le_of_ble_eq_true rfl) ⟨Nat.le_refl _, Nat.le_refl _⟩ dX12_askLeaves_28 (fun hz H locs G => ?_)
  obtain rfl := Option.some.inj hf
  exact xI_ret C G rfl dX12_askLeaves_31
set_option maxHeartbeats 4000000 in
set_option maxRecDepth 100000 in
theorem c_M_judge_m_M {l : Launch} {E : xE} {ad : Nat → Nat} {m_thrown m_trouble m_where m_taped m_size m_spot m_sort m_place m_number m_fault m_wrongAt m_acts m_images m_matchNow m_slopsNow m_matchesNow m_fedBest m_slopsBest m_sawBest m_leastNow m_stableNow m_fitsNow m_someNow m_everyNow m_askLeft tb_seats tb_slack tb_saw tb_quarrel tb_people tb_pairs tb_forks tb_unsures tb_trieds tb_fed : Int32} {m_rv : Value} {m_tape m_v m_x m_past m_kept m_slopped m_seatBest m_otherIn tb_seat tb_one tb_other tb_years tb_kind tb_unsure tb_may tb_tried : Nat → Int32} {m_word : Int64} {tb_name : Nat → Int64} {R0 : Int32 × Int32 × Int32 × Int32 × (Nat → Int32)} (hf : f_M_judge m_x tb_slack tb_pairs tb_forks tb_unsures tb_trieds tb_fed tb_seat tb_one tb_other tb_years tb_kind tb_unsure tb_may tb_tried = some R0) : xI l E yX12_judge cX12_judge 1 (some .int) 5 109 [.ref (ad 0)] (wM E ad m_thrown m_trouble m_where m_rv m_tape m_taped m_size m_spot m_sort m_place m_number m_fault m_wrongAt m_word m_v m_x m_past m_kept m_acts m_images m_matchNow m_slopsNow m_matchesNow m_slopped m_seatBest m_fedBest m_slopsBest m_sawBest m_leastNow m_stableNow m_fitsNow m_someNow m_everyNow m_otherIn m_askLeft tb_seats tb_slack tb_saw tb_quarrel tb_people tb_pairs tb_forks tb_unsures tb_trieds tb_fed tb_seat tb_one tb_other tb_years tb_kind tb_unsure tb_may tb_tried tb_name) (wM E ad R0.2.1 R0.2.2.1 R0.2.2.2.1 m_rv m_tape m_taped m_size m_spot m_sort m_place m_number m_fault m_wrongAt m_word m_v R0.2.2.2.2 m_past m_kept m_acts m_images m_matchNow m_slopsNow m_matchesNow m_slopped m_seatBest m_fedBest m_slopsBest m_sawBest m_leastNow m_stableNow m_fitsNow m_someNow m_everyNow m_otherIn m_askLeft tb_seats tb_slack tb_saw tb_quarrel tb_people tb_pairs tb_forks tb_unsures tb_trieds tb_fed tb_seat tb_one tb_other tb_years tb_kind tb_unsure tb_may tb_tried tb_name) R0.1 := by
  refine xI_of (by decide) (Nat.le_of_ble_eq_true rfl) (fun p e s m args below meth c A C ls hl G => ?_)
  have hx := C.1
  have hb := C.2.1
  have hl : lv_has ls 1 [(0, .ref (ad 0))] := hl
  unfold f_M_judge at hf
  refine lv_aload_n hx hb dX12_judge_0 rfl (lv_at hl 0 rfl) ?_
  refine lv_iconst (v := 0) hx hb dX12_judge_1 (by decide) ?_
  refine x_put (ws' := (wM E ad (0 : Int32) m_trouble m_where m_rv m_tape m_taped m_size m_spot m_sort m_place m_number m_fault m_wrongAt m_word m_v m_x m_past m_kept m_acts m_images m_matchNow m_slopsNow m_matchesNow m_slopped m_seatBest m_fedBest m_slopsBest m_sawBest m_leastNow m_stableNow m_fitsNow m_someNow m_everyNow m_otherIn m_askLeft tb_seats tb_slack tb_saw tb_quarrel tb_people tb_pairs tb_forks tb_unsures tb_trieds tb_fed tb_seat tb_one tb_other tb_years tb_kind tb_unsure tb_may tb_tried tb_name)) C G fX12_39 (wM_at0) rfl rfl (Nat.le_of_ble_eq_true rfl) wM_set_m_thrown dX12_judge_2 (fun H locs G => ?_)
  refine lv_aload_n hx hb dX12_judge_5 rfl (lv_at hl 0 rfl) ?_
  refine x_get C G fX12_298.g (wM_at0) rfl dX12_judge_6 ?_
  refine lv_ifnonnull (tgt := 20) hx hb dX12_judge_9 (by decide) ?_
  refine lv_aload_n hx hb dX12_judge_20 rfl (lv_at hl 0 rfl) ?_
  refine lv_aload_n hx hb dX12_judge_21 rfl (lv_at hl 0 rfl) ?_
  refine lv_iconst (v := 0) hx hb dX12_judge_22 (by decide) ?_
  obtain ⟨x1, hc, hf⟩ := bd_go hf
  refine xI_V C G (c_M_wrongTried_m_M hc) mX12_wrongTried kX12_454 (wM_at0) rfl ⟨Nat.le_of_ble_eq_true rfl, Nat.le_of_ble_eq_true rfl⟩ rfl hl.1 rfl (Nat.le_of_ble_eq_true rfl) ⟨Nat.le_refl _, Nat.le_refl _⟩ dX12_judge_23 (fun hz H locs G => ?_)
  obtain ⟨x2, hc, hf⟩ := bd_go hf
  refine xI_V C G (c_M_good_m_M hc) mX12_good kX12_49 (wM_at0) rfl ⟨Nat.le_of_ble_eq_true rfl, Nat.le_of_ble_eq_true rfl⟩ rfl hl.1 rfl (Nat.le_of_ble_eq_true rfl) ⟨Nat.le_refl _, Nat.le_refl _⟩ dX12_judge_26 (fun hz H locs G => ?_)
  obtain rfl := Option.some.inj hf
  exact xI_ret C G rfl dX12_judge_29
set_option maxHeartbeats 4000000 in
set_option maxRecDepth 100000 in
theorem c_M_refusesPride_m_M {l : Launch} {E : xE} {ad : Nat → Nat} {m_thrown m_trouble m_where m_taped m_size m_spot m_sort m_place m_number m_fault m_wrongAt m_acts m_images m_matchNow m_slopsNow m_matchesNow m_fedBest m_slopsBest m_sawBest m_leastNow m_stableNow m_fitsNow m_someNow m_everyNow m_askLeft tb_seats tb_slack tb_saw tb_quarrel tb_people tb_pairs tb_forks tb_unsures tb_trieds tb_fed : Int32} {m_rv : Value} {m_tape m_v m_x m_past m_kept m_slopped m_seatBest m_otherIn tb_seat tb_one tb_other tb_years tb_kind tb_unsure tb_may tb_tried : Nat → Int32} {m_word : Int64} {tb_name : Nat → Int64} {l1 : Int32} {R0 : Int32} (hf : f_M_refusesPride l1 = some R0) : xI l E yX12_refusesPride cX12_refusesPride 2 (some .int) 1 22 [.ref (ad 0), .int l1] (wM E ad m_thrown m_trouble m_where m_rv m_tape m_taped m_size m_spot m_sort m_place m_number m_fault m_wrongAt m_word m_v m_x m_past m_kept m_acts m_images m_matchNow m_slopsNow m_matchesNow m_slopped m_seatBest m_fedBest m_slopsBest m_sawBest m_leastNow m_stableNow m_fitsNow m_someNow m_everyNow m_otherIn m_askLeft tb_seats tb_slack tb_saw tb_quarrel tb_people tb_pairs tb_forks tb_unsures tb_trieds tb_fed tb_seat tb_one tb_other tb_years tb_kind tb_unsure tb_may tb_tried tb_name) (wM E ad m_thrown m_trouble m_where m_rv m_tape m_taped m_size m_spot m_sort m_place m_number m_fault m_wrongAt m_word m_v m_x m_past m_kept m_acts m_images m_matchNow m_slopsNow m_matchesNow m_slopped m_seatBest m_fedBest m_slopsBest m_sawBest m_leastNow m_stableNow m_fitsNow m_someNow m_everyNow m_otherIn m_askLeft tb_seats tb_slack tb_saw tb_quarrel tb_people tb_pairs tb_forks tb_unsures tb_trieds tb_fed tb_seat tb_one tb_other tb_years tb_kind tb_unsure tb_may tb_tried tb_name) R0 := by
  refine xI_of (by decide) (Nat.le_of_ble_eq_true rfl) (fun p e s m args below meth c A C ls hl G => ?_)
  have hx := C.1
  have hb := C.2.1
  have hl : lv_has ls 2 [(0, .ref (ad 0)), (1, .int l1)] := hl
  unfold f_M_refusesPride at hf
  refine lv_aload_n hx hb dX12_refusesPride_0 rfl (lv_at hl 0 rfl) ?_
  refine x_get C G fX12_298.g (wM_at0) rfl dX12_refusesPride_1 ?_
  refine lv_ifnonnull (tgt := 11) hx hb dX12_refusesPride_4 (by decide) ?_
  refine lv_iload_n hx hb dX12_refusesPride_11 rfl (lv_at hl 1 rfl) ?_
  refine lv_iconst (v := 0) hx hb dX12_refusesPride_12 (by decide) ?_
  refine lv_bipush (v := 9) hx hb dX12_refusesPride_13 (by decide) ?_
  obtain ⟨x1, hc, hf⟩ := bd_go hf
  refine xI_S C G (c_M_in_any hc) mX12_in kX12_118 ⟨Nat.le_of_ble_eq_true rfl, Nat.le_of_ble_eq_true rfl⟩ rfl hl.1 rfl (Nat.le_of_ble_eq_true rfl) ⟨Nat.le_refl _, Nat.le_refl _⟩ dX12_refusesPride_15 (fun hz1 H locs G => ?_)
  refine lv_if_eq (tgt := 25) hx hb dX12_refusesPride_18 (by decide) (fun h => ?_) (fun h => ?_)
  · have hf := it_t h hf
    refine lv_iconst (v := 2) hx hb dX12_refusesPride_25 (by decide) ?_
    obtain rfl := Option.some.inj hf
    exact xI_ret C G rfl dX12_refusesPride_26
  · have hf := it_f h hf
    refine lv_iconst (v := 0) hx hb dX12_refusesPride_21 (by decide) ?_
    refine lv_goto (tgt := 26) hx hb dX12_refusesPride_22 (by decide) ?_
    obtain rfl := Option.some.inj hf
    exact xI_ret C G rfl dX12_refusesPride_26
set_option maxHeartbeats 4000000 in
set_option maxRecDepth 100000 in
theorem c_M_gets_any {l : Launch} {E : xE} {ws : va_W} {l0 : Int32} {l1 : Int32} {l2 : Int32} {R0 : Int32} (hf : f_M_gets l0 l1 l2 = some R0) : xI l E yX12_gets cX12_gets 3 (some .int) 0 0 [.int l0, .int l1, .int l2] ws ws R0 := by
  refine xI_of (by decide) (Nat.le_of_ble_eq_true rfl) (fun p e s m args below meth c A C ls hl G => ?_)
  have hx := C.1
  have hb := C.2.1
  have hl : lv_has ls 3 [(0, .int l0), (1, .int l1), (2, .int l2)] := hl
  unfold f_M_gets at hf
  refine lv_iload_n hx hb dX12_gets_0 rfl (lv_at hl 1 rfl) ?_
  refine lv_if_eq (tgt := 17) hx hb dX12_gets_1 (by decide) (fun h => ?_) (fun h => ?_)
  · have hf := it_t h hf
    refine lv_iload_n hx hb dX12_gets_17 rfl (lv_at hl 2 rfl) ?_
    refine lv_if_eq (tgt := 25) hx hb dX12_gets_18 (by decide) (fun h => ?_) (fun h => ?_)
    · have hf := it_t h hf
      refine lv_iconst (v := 2) hx hb dX12_gets_25 (by decide) ?_
      obtain rfl := Option.some.inj hf
      exact xI_ret C G rfl dX12_gets_26
    · have hf := it_f h hf
      refine lv_iconst (v := 4) hx hb dX12_gets_21 (by decide) ?_
      refine lv_goto (tgt := 26) hx hb dX12_gets_22 (by decide) ?_
      obtain rfl := Option.some.inj hf
      exact xI_ret C G rfl dX12_gets_26
  · have hf := it_f h hf
    refine lv_iload_n hx hb dX12_gets_4 rfl (lv_at hl 2 rfl) ?_
    refine lv_if_eq (tgt := 13) hx hb dX12_gets_5 (by decide) (fun h => ?_) (fun h => ?_)
    · have hf := it_t h hf
      refine lv_iconst (v := 0) hx hb dX12_gets_13 (by decide) ?_
      refine lv_goto (tgt := 26) hx hb dX12_gets_14 (by decide) ?_
      obtain rfl := Option.some.inj hf
      exact xI_ret C G rfl dX12_gets_26
    · have hf := it_f h hf
      refine lv_iload_n hx hb dX12_gets_8 rfl (lv_at hl 0 rfl) ?_
      refine lv_ineg hx hb dX12_gets_9 ?_
      refine lv_goto (tgt := 26) hx hb dX12_gets_10 (by decide) ?_
      obtain rfl := Option.some.inj hf
      exact xI_ret C G rfl dX12_gets_26
set_option maxHeartbeats 4000000 in
set_option maxRecDepth 100000 in
theorem c_M_lost_m_M {l : Launch} {E : xE} {ad : Nat → Nat} {m_thrown m_trouble m_where m_taped m_size m_spot m_sort m_place m_number m_fault m_wrongAt m_acts m_images m_matchNow m_slopsNow m_matchesNow m_fedBest m_slopsBest m_sawBest m_leastNow m_stableNow m_fitsNow m_someNow m_everyNow m_askLeft tb_seats tb_slack tb_saw tb_quarrel tb_people tb_pairs tb_forks tb_unsures tb_trieds tb_fed : Int32} {m_rv : Value} {m_tape m_v m_x m_past m_kept m_slopped m_seatBest m_otherIn tb_seat tb_one tb_other tb_years tb_kind tb_unsure tb_may tb_tried : Nat → Int32} {m_word : Int64} {tb_name : Nat → Int64} {l1 : Int32} {R0 : Int32 × Int32 × Int32} (hf : f_M_lost l1 = some R0) : xI l E yX12_lost cX12_lost 2 (some .int) 1 21 [.ref (ad 0), .int l1] (wM E ad m_thrown m_trouble m_where m_rv m_tape m_taped m_size m_spot m_sort m_place m_number m_fault m_wrongAt m_word m_v m_x m_past m_kept m_acts m_images m_matchNow m_slopsNow m_matchesNow m_slopped m_seatBest m_fedBest m_slopsBest m_sawBest m_leastNow m_stableNow m_fitsNow m_someNow m_everyNow m_otherIn m_askLeft tb_seats tb_slack tb_saw tb_quarrel tb_people tb_pairs tb_forks tb_unsures tb_trieds tb_fed tb_seat tb_one tb_other tb_years tb_kind tb_unsure tb_may tb_tried tb_name) (wM E ad m_thrown R0.2.1 R0.2.2 m_rv m_tape m_taped m_size m_spot m_sort m_place m_number m_fault m_wrongAt m_word m_v m_x m_past m_kept m_acts m_images m_matchNow m_slopsNow m_matchesNow m_slopped m_seatBest m_fedBest m_slopsBest m_sawBest m_leastNow m_stableNow m_fitsNow m_someNow m_everyNow m_otherIn m_askLeft tb_seats tb_slack tb_saw tb_quarrel tb_people tb_pairs tb_forks tb_unsures tb_trieds tb_fed tb_seat tb_one tb_other tb_years tb_kind tb_unsure tb_may tb_tried tb_name) R0.1 := by
  refine xI_of (by decide) (Nat.le_of_ble_eq_true rfl) (fun p e s m args below meth c A C ls hl G => ?_)
  have hx := C.1
  have hb := C.2.1
  have hl : lv_has ls 2 [(0, .ref (ad 0)), (1, .int l1)] := hl
  unfold f_M_lost at hf
  refine lv_aload_n hx hb dX12_lost_0 rfl (lv_at hl 0 rfl) ?_
  refine lv_iload_n hx hb dX12_lost_1 rfl (lv_at hl 1 rfl) ?_
  obtain ⟨x1, hc, hf⟩ := bd_go hf
  refine xI_V C G (c_M_refused_m_M hc) mX12_refused kX12_45 (wM_at0) rfl ⟨Nat.le_of_ble_eq_true rfl, Nat.le_of_ble_eq_true rfl⟩ rfl hl.1 rfl (Nat.le_of_ble_eq_true rfl) ⟨Nat.le_refl _, Nat.le_refl _⟩ dX12_lost_2 (fun hz H locs G => ?_)
  refine lv_pop hx hb dX12_lost_5 rfl ?_
  refine lv_bipush (v := -100) hx hb dX12_lost_6 (by decide) ?_
  obtain rfl := Option.some.inj hf
  exact xI_ret C G rfl dX12_lost_8
set_option maxHeartbeats 4000000 in
set_option maxRecDepth 100000 in
theorem c_M_saw_m_M {l : Launch} {E : xE} {ad : Nat → Nat} {m_thrown m_trouble m_where m_taped m_size m_spot m_sort m_place m_number m_fault m_wrongAt m_acts m_images m_matchNow m_slopsNow m_matchesNow m_fedBest m_slopsBest m_sawBest m_leastNow m_stableNow m_fitsNow m_someNow m_everyNow m_askLeft tb_seats tb_slack tb_saw tb_quarrel tb_people tb_pairs tb_forks tb_unsures tb_trieds tb_fed : Int32} {m_rv : Value} {m_tape m_v m_x m_past m_kept m_slopped m_seatBest m_otherIn tb_seat tb_one tb_other tb_years tb_kind tb_unsure tb_may tb_tried : Nat → Int32} {m_word : Int64} {tb_name : Nat → Int64} {l1 : Int32} {l2 : Int32} {l3 : Int32} {l4 : Int32} {R0 : Int32 × Int32 × Int32 × Int32} (hf : f_M_saw l1 l2 l3 l4 = some R0) : xI l E yX12_saw cX12_saw 6 (some .int) 2 43 [.ref (ad 0), .int l1, .int l2, .int l3, .int l4] (wM E ad m_thrown m_trouble m_where m_rv m_tape m_taped m_size m_spot m_sort m_place m_number m_fault m_wrongAt m_word m_v m_x m_past m_kept m_acts m_images m_matchNow m_slopsNow m_matchesNow m_slopped m_seatBest m_fedBest m_slopsBest m_sawBest m_leastNow m_stableNow m_fitsNow m_someNow m_everyNow m_otherIn m_askLeft tb_seats tb_slack tb_saw tb_quarrel tb_people tb_pairs tb_forks tb_unsures tb_trieds tb_fed tb_seat tb_one tb_other tb_years tb_kind tb_unsure tb_may tb_tried tb_name) (wM E ad R0.2.1 R0.2.2.1 R0.2.2.2 m_rv m_tape m_taped m_size m_spot m_sort m_place m_number m_fault m_wrongAt m_word m_v m_x m_past m_kept m_acts m_images m_matchNow m_slopsNow m_matchesNow m_slopped m_seatBest m_fedBest m_slopsBest m_sawBest m_leastNow m_stableNow m_fitsNow m_someNow m_everyNow m_otherIn m_askLeft tb_seats tb_slack tb_saw tb_quarrel tb_people tb_pairs tb_forks tb_unsures tb_trieds tb_fed tb_seat tb_one tb_other tb_years tb_kind tb_unsure tb_may tb_tried tb_name) R0.1 := by
  refine xI_of (by decide) (Nat.le_of_ble_eq_true rfl) (fun p e s m args below meth c A C ls hl G => ?_)
  have hx := C.1
  have hb := C.2.1
  have hl : lv_has ls 6 [(0, .ref (ad 0)), (1, .int l1), (2, .int l2), (3, .int l3), (4, .int l4)] := hl
  unfold f_M_saw at hf
  refine lv_aload_n hx hb dX12_saw_0 rfl (lv_at hl 0 rfl) ?_
  refine lv_iconst (v := 0) hx hb dX12_saw_1 (by decide) ?_
  refine x_put (ws' := (wM E ad (0 : Int32) m_trouble m_where m_rv m_tape m_taped m_size m_spot m_sort m_place m_number m_fault m_wrongAt m_word m_v m_x m_past m_kept m_acts m_images m_matchNow m_slopsNow m_matchesNow m_slopped m_seatBest m_fedBest m_slopsBest m_sawBest m_leastNow m_stableNow m_fitsNow m_someNow m_everyNow m_otherIn m_askLeft tb_seats tb_slack tb_saw tb_quarrel tb_people tb_pairs tb_forks tb_unsures tb_trieds tb_fed tb_seat tb_one tb_other tb_years tb_kind tb_unsure tb_may tb_tried tb_name)) C G fX12_39 (wM_at0) rfl rfl (Nat.le_of_ble_eq_true rfl) wM_set_m_thrown dX12_saw_2 (fun H locs G => ?_)
  refine lv_aload_n hx hb dX12_saw_5 rfl (lv_at hl 0 rfl) ?_
  refine lv_iload_n hx hb dX12_saw_6 rfl (lv_at hl 1 rfl) ?_
  obtain ⟨x1, hc, hf⟩ := bd_go hf
  refine xI_V C G (c_M_refusesPride_m_M hc) mX12_refusesPride kX12_466 (wM_at0) rfl ⟨Nat.le_of_ble_eq_true rfl, Nat.le_of_ble_eq_true rfl⟩ rfl hl.1 rfl (Nat.le_of_ble_eq_true rfl) ⟨Nat.le_refl _, Nat.le_refl _⟩ dX12_saw_7 (fun hz H locs G => ?_)
  refine lv_istore (lv' := [(5, .int x1), (0, .ref (ad 0)), (1, .int l1), (2, .int l2), (3, .int l3), (4, .int l4)]) hx hb dX12_saw_10 hl (by decide) rfl (fun ls hl => ?_)
  refine lv_iload hx hb dX12_saw_12 (lv_at hl 0 rfl) ?_
  refine lv_if_le (tgt := 26) hx hb dX12_saw_14 (by decide) (fun h => ?_) (fun h => ?_)
  · have hf := it_t h hf
    refine lv_aload_n hx hb dX12_saw_26 rfl (lv_at hl 1 rfl) ?_
    refine lv_iload hx hb dX12_saw_27 (lv_at hl 5 rfl) ?_
    obtain ⟨x2, hrx2, hf⟩ := bd_go hf
    have Jx2 : ∀ (H : Heap) (locs : List Loc) (ls : Array Slot), xG s E A (wM E ad (0 : Int32) m_trouble m_where m_rv m_tape m_taped m_size m_spot m_sort m_place m_number m_fault m_wrongAt m_word m_v m_x m_past m_kept m_acts m_images m_matchNow m_slopsNow m_matchesNow m_slopped m_seatBest m_fedBest m_slopsBest m_sawBest m_leastNow m_stableNow m_fitsNow m_someNow m_everyNow m_otherIn m_askLeft tb_seats tb_slack tb_saw tb_quarrel tb_people tb_pairs tb_forks tb_unsures tb_trieds tb_fed tb_seat tb_one tb_other tb_years tb_kind tb_unsure tb_may tb_tried tb_name) H locs → lv_has ls 6 [] → W p l e (xR 2 43) s m args below meth c H locs 0 0 (MQ below (xqI E A (wM E ad R0.2.1 R0.2.2.1 R0.2.2.2 m_rv m_tape m_taped m_size m_spot m_sort m_place m_number m_fault m_wrongAt m_word m_v m_x m_past m_kept m_acts m_images m_matchNow m_slopsNow m_matchesNow m_slopped m_seatBest m_fedBest m_slopsBest m_sawBest m_leastNow m_stableNow m_fitsNow m_someNow m_everyNow m_otherIn m_askLeft tb_seats tb_slack tb_saw tb_quarrel tb_people tb_pairs tb_forks tb_unsures tb_trieds tb_fed tb_seat tb_one tb_other tb_years tb_kind tb_unsure tb_may tb_tried tb_name) (some .int) R0.1) args s 0 0 A) (F0 m 47 ls [.int x2, .ref (ad 0)]) := by
      intro H locs ls G hl
      obtain ⟨x3, hc, hf⟩ := bd_go hf
      refine xI_V C G (c_M_good_m_M hc) mX12_good kX12_49 (wM_at0) rfl ⟨Nat.le_of_ble_eq_true rfl, Nat.le_of_ble_eq_true rfl⟩ rfl hl.1 rfl (Nat.le_of_ble_eq_true rfl) ⟨Nat.le_refl _, Nat.le_refl _⟩ dX12_saw_47 (fun hz H locs G => ?_)
      obtain rfl := Option.some.inj hf
      exact xI_ret C G rfl dX12_saw_50
    have hf := hrx2
    refine lv_if_eq (tgt := 41) hx hb dX12_saw_29 (by decide) (fun h => ?_) (fun h => ?_)
    · have hf := it_t h hf
      refine lv_iload_n hx hb dX12_saw_41 rfl (lv_at hl 2 rfl) ?_
      refine lv_iload_n hx hb dX12_saw_42 rfl (lv_at hl 3 rfl) ?_
      refine lv_iload_n hx hb dX12_saw_43 rfl (lv_at hl 4 rfl) ?_
      obtain ⟨x4, hc, hf⟩ := bd_go hf
      refine xI_S C G (c_M_gets_any hc) mX12_gets kX12_472 ⟨Nat.le_of_ble_eq_true rfl, Nat.le_of_ble_eq_true rfl⟩ rfl hl.1 rfl (Nat.le_of_ble_eq_true rfl) ⟨Nat.le_refl _, Nat.le_refl _⟩ dX12_saw_44 (fun hz H locs G => ?_)
      obtain rfl := Option.some.inj hf
      exact Jx2 _ _ _ G (lv_sub hl [] rfl)
    · have hf := it_f h hf
      refine lv_iload_n hx hb dX12_saw_32 rfl (lv_at hl 2 rfl) ?_
      refine lv_iload_n hx hb dX12_saw_33 rfl (lv_at hl 4 rfl) ?_
      refine lv_iload_n hx hb dX12_saw_34 rfl (lv_at hl 3 rfl) ?_
      obtain ⟨x5, hc, hf⟩ := bd_go hf
      refine xI_S C G (c_M_gets_any hc) mX12_gets kX12_472 ⟨Nat.le_of_ble_eq_true rfl, Nat.le_of_ble_eq_true rfl⟩ rfl hl.1 rfl (Nat.le_of_ble_eq_true rfl) ⟨Nat.le_refl _, Nat.le_refl _⟩ dX12_saw_35 (fun hz H locs G => ?_)
      refine lv_goto (tgt := 47) hx hb dX12_saw_38 (by decide) ?_
      obtain rfl := Option.some.inj hf
      exact Jx2 _ _ _ G (lv_sub hl [] rfl)
  · have hf := it_f h hf
    refine lv_aload_n hx hb dX12_saw_17 rfl (lv_at hl 1 rfl) ?_
    refine lv_iload hx hb dX12_saw_18 (lv_at hl 0 rfl) ?_
    obtain ⟨x6, hc, hf⟩ := bd_go hf
    refine xI_V C G (c_M_lost_m_M hc) mX12_lost kX12_469 (wM_at0) rfl ⟨Nat.le_of_ble_eq_true rfl, Nat.le_of_ble_eq_true rfl⟩ rfl hl.1 rfl (Nat.le_of_ble_eq_true rfl) ⟨Nat.le_refl _, Nat.le_refl _⟩ dX12_saw_20 (fun hz H locs G => ?_)
    refine lv_goto (tgt := 50) hx hb dX12_saw_23 (by decide) ?_
    obtain rfl := Option.some.inj hf
    exact xI_ret C G rfl dX12_saw_50
set_option maxHeartbeats 4000000 in
set_option maxRecDepth 100000 in
theorem c_M_isRest_any {l : Launch} {E : xE} {ws : va_W} {l0 : Int32} {l1 : Int32} {R0 : Int32} (hf : f_M_isRest l0 l1 = some R0) : xI l E yX12_isRest cX12_isRest 4 (some .boolean) 1 22 [.int l0, .int l1] ws ws R0 := by
  refine xI_of (by decide) (Nat.le_of_ble_eq_true rfl) (fun p e s m args below meth c A C ls hl G => ?_)
  have hx := C.1
  have hb := C.2.1
  have hl : lv_has ls 4 [(0, .int l0), (1, .int l1)] := hl
  unfold f_M_isRest at hf
  refine lv_iload_n hx hb dX12_isRest_0 rfl (lv_at hl 1 rfl) ?_
  refine lv_iconst (v := 1) hx hb dX12_isRest_1 (by decide) ?_
  obtain ⟨x1, hrx1, hf⟩ := bd_go hf
  have Jx1 : ∀ (H : Heap) (locs : List Loc) (ls : Array Slot), xG s E A ws H locs → lv_has ls 4 [(0, .int l0), (1, .int l1)] → W p l e (xR 1 22) s m args below meth c H locs 0 0 (MQ below (xqI E A ws (some .boolean) R0) args s 0 0 A) (F0 m 10 ls [.int x1]) := by
    intro H locs ls G hl
    refine lv_istore_n (lv' := [(2, .int x1), (0, .int l0), (1, .int l1)]) hx hb dX12_isRest_10 rfl hl (by decide) rfl (fun ls hl => ?_)
    refine lv_iload_n hx hb dX12_isRest_11 rfl (lv_at hl 2 rfl) ?_
    refine lv_iconst (v := 2) hx hb dX12_isRest_12 (by decide) ?_
    refine lv_irem hx hb dX12_isRest_13 (by decide) ?_
    refine lv_iconst (v := 1) hx hb dX12_isRest_14 (by decide) ?_
    obtain ⟨x2, hrx2, hf⟩ := bd_go hf
    have Jx2 : ∀ (H : Heap) (locs : List Loc) (ls : Array Slot), xG s E A ws H locs → lv_has ls 4 [(0, .int l0), (2, .int x1)] → W p l e (xR 1 22) s m args below meth c H locs 0 0 (MQ below (xqI E A ws (some .boolean) R0) args s 0 0 A) (F0 m 23 ls [.int x2]) := by
      intro H locs ls G hl
      refine lv_istore_n (lv' := [(3, .int x2), (0, .int l0), (2, .int x1)]) hx hb dX12_isRest_23 rfl hl (by decide) rfl (fun ls hl => ?_)
      refine lv_iload_n hx hb dX12_isRest_24 rfl (lv_at hl 1 rfl) ?_
      refine lv_iload_n hx hb dX12_isRest_25 rfl (lv_at hl 2 rfl) ?_
      obtain ⟨x3, hrx3, hf⟩ := bd_go hf
      have Jx3 : ∀ (H : Heap) (locs : List Loc) (ls : Array Slot), xG s E A ws H locs → lv_has ls 4 [(0, .int l0), (2, .int x1), (3, .int x2)] → W p l e (xR 1 22) s m args below meth c H locs 0 0 (MQ below (xqI E A ws (some .boolean) R0) args s 0 0 A) (F0 m 34 ls [.int x3, .int l0]) := by
        intro H locs ls G hl
        refine lv_iload_n hx hb dX12_isRest_34 rfl (lv_at hl 2 rfl) ?_
        obtain ⟨x4, hc, hf⟩ := bd_go hf
        refine xI_S C G (c_M_gets_any hc) mX12_gets kX12_472 ⟨Nat.le_of_ble_eq_true rfl, Nat.le_of_ble_eq_true rfl⟩ rfl hl.1 rfl (Nat.le_of_ble_eq_true rfl) ⟨Nat.le_refl _, Nat.le_refl _⟩ dX12_isRest_35 (fun hz H locs G => ?_)
        refine lv_iload_n hx hb dX12_isRest_38 rfl (lv_at hl 0 rfl) ?_
        refine lv_iload_n hx hb dX12_isRest_39 rfl (lv_at hl 1 rfl) ?_
        refine lv_iload_n hx hb dX12_isRest_40 rfl (lv_at hl 2 rfl) ?_
        obtain ⟨x5, hc, hf⟩ := bd_go hf
        refine xI_S C G (c_M_gets_any hc) mX12_gets kX12_472 ⟨Nat.le_of_ble_eq_true rfl, Nat.le_of_ble_eq_true rfl⟩ rfl hl.1 rfl (Nat.le_of_ble_eq_true rfl) ⟨Nat.le_refl _, Nat.le_refl _⟩ dX12_isRest_41 (fun hz H locs G => ?_)
        refine lv_icmp_gt (tgt := 74) hx hb dX12_isRest_44 (by decide) (fun h => ?_) (fun h => ?_)
        · have hf := it_t h hf
          refine lv_iconst (v := 0) hx hb dX12_isRest_74 (by decide) ?_
          obtain rfl := Option.some.inj hf
          exact xI_ret (r := (0 : Int32)) C G rfl dX12_isRest_75
        · have hf := it_f h hf
          refine lv_iload_n hx hb dX12_isRest_47 rfl (lv_at hl 0 rfl) ?_
          refine lv_iload_n hx hb dX12_isRest_48 rfl (lv_at hl 2 rfl) ?_
          obtain ⟨x6, hrx6, hf⟩ := bd_go hf
          have Jx6 : ∀ (H : Heap) (locs : List Loc) (ls : Array Slot), xG s E A ws H locs → lv_has ls 4 [(0, .int l0), (2, .int x1), (3, .int x2)] → W p l e (xR 1 22) s m args below meth c H locs 0 0 (MQ below (xqI E A ws (some .boolean) R0) args s 0 0 A) (F0 m 57 ls [.int x6, .int l0]) := by
            intro H locs ls G hl
            refine lv_iload_n hx hb dX12_isRest_57 rfl (lv_at hl 1 rfl) ?_
            obtain ⟨x7, hc, hf⟩ := bd_go hf
            refine xI_S C G (c_M_gets_any hc) mX12_gets kX12_472 ⟨Nat.le_of_ble_eq_true rfl, Nat.le_of_ble_eq_true rfl⟩ rfl hl.1 rfl (Nat.le_of_ble_eq_true rfl) ⟨Nat.le_refl _, Nat.le_refl _⟩ dX12_isRest_58 (fun hz H locs G => ?_)
            refine lv_iload_n hx hb dX12_isRest_61 rfl (lv_at hl 0 rfl) ?_
            refine lv_iload_n hx hb dX12_isRest_62 rfl (lv_at hl 2 rfl) ?_
            refine lv_iload_n hx hb dX12_isRest_63 rfl (lv_at hl 1 rfl) ?_
            obtain ⟨x8, hc, hf⟩ := bd_go hf
            refine xI_S C G (c_M_gets_any hc) mX12_gets kX12_472 ⟨Nat.le_of_ble_eq_true rfl, Nat.le_of_ble_eq_true rfl⟩ rfl hl.1 rfl (Nat.le_of_ble_eq_true rfl) ⟨Nat.le_refl _, Nat.le_refl _⟩ dX12_isRest_64 (fun hz H locs G => ?_)
            refine lv_icmp_gt (tgt := 74) hx hb dX12_isRest_67 (by decide) (fun h => ?_) (fun h => ?_)
            · have hf := it_t h hf
              refine lv_iconst (v := 0) hx hb dX12_isRest_74 (by decide) ?_
              obtain rfl := Option.some.inj hf
              exact xI_ret (r := (0 : Int32)) C G rfl dX12_isRest_75
            · have hf := it_f h hf
              refine lv_iconst (v := 1) hx hb dX12_isRest_70 (by decide) ?_
              refine lv_goto (tgt := 75) hx hb dX12_isRest_71 (by decide) ?_
              obtain rfl := Option.some.inj hf
              exact xI_ret (r := (1 : Int32)) C G rfl dX12_isRest_75
          have hf := hrx6
          refine lv_if_ne (tgt := 56) hx hb dX12_isRest_49 (by decide) (fun h => ?_) (fun h => ?_)
          · have hf := it_f h hf
            refine lv_iconst (v := 0) hx hb dX12_isRest_56 (by decide) ?_
            obtain rfl := Option.some.inj hf
            exact Jx6 _ _ _ G (lv_sub hl [0, 1, 2] rfl)
          · have hf := it_t h hf
            refine lv_iconst (v := 1) hx hb dX12_isRest_52 (by decide) ?_
            refine lv_goto (tgt := 57) hx hb dX12_isRest_53 (by decide) ?_
            obtain rfl := Option.some.inj hf
            exact Jx6 _ _ _ G (lv_sub hl [0, 1, 2] rfl)
      have hf := hrx3
      refine lv_if_ne (tgt := 33) hx hb dX12_isRest_26 (by decide) (fun h => ?_) (fun h => ?_)
      · have hf := it_f h hf
        refine lv_iconst (v := 0) hx hb dX12_isRest_33 (by decide) ?_
        obtain rfl := Option.some.inj hf
        exact Jx3 _ _ _ G (lv_sub hl [1, 2, 0] rfl)
      · have hf := it_t h hf
        refine lv_iconst (v := 1) hx hb dX12_isRest_29 (by decide) ?_
        refine lv_goto (tgt := 34) hx hb dX12_isRest_30 (by decide) ?_
        obtain rfl := Option.some.inj hf
        exact Jx3 _ _ _ G (lv_sub hl [1, 2, 0] rfl)
    have hf := hrx2
    refine lv_icmp_ne (tgt := 22) hx hb dX12_isRest_15 (by decide) (fun h => ?_) (fun h => ?_)
    · have hf := it_f h hf
      refine lv_iconst (v := 0) hx hb dX12_isRest_22 (by decide) ?_
      obtain rfl := Option.some.inj hf
      exact Jx2 _ _ _ G (lv_sub hl [1, 0] rfl)
    · have hf := it_t h hf
      refine lv_iconst (v := 1) hx hb dX12_isRest_18 (by decide) ?_
      refine lv_goto (tgt := 23) hx hb dX12_isRest_19 (by decide) ?_
      obtain rfl := Option.some.inj hf
      exact Jx2 _ _ _ G (lv_sub hl [1, 0] rfl)
  have hf := hrx1
  refine lv_icmp_le (tgt := 9) hx hb dX12_isRest_2 (by decide) (fun h => ?_) (fun h => ?_)
  · have hf := it_t h hf
    refine lv_iconst (v := 0) hx hb dX12_isRest_9 (by decide) ?_
    obtain rfl := Option.some.inj hf
    exact Jx1 _ _ _ G (lv_sub hl [0, 1] rfl)
  · have hf := it_f h hf
    refine lv_iconst (v := 1) hx hb dX12_isRest_5 (by decide) ?_
    refine lv_goto (tgt := 10) hx hb dX12_isRest_6 (by decide) ?_
    obtain rfl := Option.some.inj hf
    exact Jx1 _ _ _ G (lv_sub hl [0, 1] rfl)
set_option maxHeartbeats 4000000 in
set_option maxRecDepth 100000 in
theorem w_M_rests_m_M_L26 {p : Program} {l : Launch} {e : Env} {s : State} {m : MethodId} {args : Array Value} {below : List Frame} {meth : Method} {c : Code} {A : Nat → Prop} {E : xE} {Q : State → Prop} {ad : Nat → Nat} {m_thrown m_trouble m_where m_taped m_size m_spot m_sort m_place m_number m_fault m_wrongAt m_acts m_images m_matchNow m_slopsNow m_matchesNow m_fedBest m_slopsBest m_sawBest m_leastNow m_stableNow m_fitsNow m_someNow m_everyNow m_askLeft tb_seats tb_slack tb_saw tb_quarrel tb_people tb_pairs tb_forks tb_unsures tb_trieds tb_fed : Int32} {m_rv : Value} {m_tape m_v m_x m_past m_kept m_slopped m_seatBest m_otherIn tb_seat tb_one tb_other tb_years tb_kind tb_unsure tb_may tb_tried : Nat → Int32} {m_word : Int64} {tb_name : Nat → Int64} {l1 : Int32} {o : Int32} (C : xC p s m args meth c cX12_rests 5 RX12 E A (some .int)) (J : ∀ (H : Heap) (locs : List Loc) (ls : Array Slot), xG s E A (wM E ad m_thrown m_trouble m_where m_rv m_tape m_taped m_size m_spot m_sort m_place m_number m_fault m_wrongAt m_word m_v m_x m_past m_kept m_acts m_images m_matchNow m_slopsNow m_matchesNow m_slopped m_seatBest m_fedBest m_slopsBest m_sawBest m_leastNow m_stableNow m_fitsNow m_someNow m_everyNow m_otherIn m_askLeft tb_seats tb_slack tb_saw tb_quarrel tb_people tb_pairs tb_forks tb_unsures tb_trieds tb_fed tb_seat tb_one tb_other tb_years tb_kind tb_unsure tb_may tb_tried tb_name) H locs → lv_has ls 5 [(0, .ref (ad 0)), (3, .int o)] → W p l e (xR 2 45) s m args below meth c H locs 0 0 Q (F0 m 55 ls [])) :
    ∀ (n : Nat) (l3 : Int32) (l4 : Int32) (H : Heap) (locs : List Loc) (ls : Array Slot), xG s E A (wM E ad m_thrown m_trouble m_where m_rv m_tape m_taped m_size m_spot m_sort m_place m_number m_fault m_wrongAt m_word m_v m_x m_past m_kept m_acts m_images m_matchNow m_slopsNow m_matchesNow m_slopped m_seatBest m_fedBest m_slopsBest m_sawBest m_leastNow m_stableNow m_fitsNow m_someNow m_everyNow m_otherIn m_askLeft tb_seats tb_slack tb_saw tb_quarrel tb_people tb_pairs tb_forks tb_unsures tb_trieds tb_fed tb_seat tb_one tb_other tb_years tb_kind tb_unsure tb_may tb_tried tb_name) H locs → lv_has ls 5 [(0, .ref (ad 0)), (1, .int l1), (3, .int l3), (4, .int l4)] → f_M_rests_L26 l1 n l3 l4 = some o → W p l e (xR 2 45) s m args below meth c H locs 0 0 Q (F0 m 26 ls []) := by
  have hx := C.1
  have hb := C.2.1
  intro n
  induction n with
  | zero =>
    intro l3 l4 H locs ls G hl hf
    exact nomatch (show (none : Option (Int32)) = some o from hf)
  | succ n ih =>
    intro l3 l4 H locs ls G hl hf
    rw [f_M_rests_L26] at hf
    refine lv_iload hx hb dX12_rests_26 (lv_at hl 3 rfl) ?_
    refine lv_iconst (v := 4) hx hb dX12_rests_28 (by decide) ?_
    refine lv_icmp_ge (tgt := 55) hx hb dX12_rests_29 (by decide) (fun h => ?_) (fun h => ?_)
    · have hf := it_t h hf
      obtain rfl := Option.some.inj hf
      exact J _ _ _ G (lv_sub hl [0, 2] rfl)
    · have hf := it_f h hf
      refine lv_iload_n hx hb dX12_rests_32 rfl (lv_at hl 2 rfl) ?_
      refine lv_iload_n hx hb dX12_rests_33 rfl (lv_at hl 1 rfl) ?_
      refine lv_iload hx hb dX12_rests_34 (lv_at hl 3 rfl) ?_
      obtain ⟨x2, hc, hf⟩ := bd_go hf
      refine xI_S C G (c_M_isRest_any hc) mX12_isRest kX12_476 ⟨Nat.le_of_ble_eq_true rfl, Nat.le_of_ble_eq_true rfl⟩ rfl hl.1 rfl (Nat.le_of_ble_eq_true rfl) ⟨Nat.le_refl _, Nat.le_refl _⟩ dX12_rests_36 (fun hz2 H locs G => ?_)
      obtain ⟨x3, hrx3, hf⟩ := bd_go hf
      have Jx3 : ∀ (H : Heap) (locs : List Loc) (ls : Array Slot), xG s E A (wM E ad m_thrown m_trouble m_where m_rv m_tape m_taped m_size m_spot m_sort m_place m_number m_fault m_wrongAt m_word m_v m_x m_past m_kept m_acts m_images m_matchNow m_slopsNow m_matchesNow m_slopped m_seatBest m_fedBest m_slopsBest m_sawBest m_leastNow m_stableNow m_fitsNow m_someNow m_everyNow m_otherIn m_askLeft tb_seats tb_slack tb_saw tb_quarrel tb_people tb_pairs tb_forks tb_unsures tb_trieds tb_fed tb_seat tb_one tb_other tb_years tb_kind tb_unsure tb_may tb_tried tb_name) H locs → lv_has ls 5 [(0, .ref (ad 0)), (1, .int l1), (4, .int l4)] → W p l e (xR 2 45) s m args below meth c H locs 0 0 Q (F0 m 47 ls [.int x3, .int l3]) := by
        intro H locs ls G hl
        refine lv_iadd hx hb dX12_rests_47 ?_
        refine lv_topi (fun x4 ex4 => ?_)
        have hf := lt_go ex4 hf
        refine lv_istore_n (lv' := [(3, .int x4), (0, .ref (ad 0)), (1, .int l1), (4, .int l4)]) hx hb dX12_rests_48 rfl hl (by decide) rfl (fun ls hl => ?_)
        obtain ⟨x5, ex5⟩ : ∃ z : Int32, z = l4 + (1 : Int32) := ⟨_, rfl⟩
        have hf := lt_go ex5 hf
        refine lv_iinc (v := x5) (lv' := [(4, .int x5), (3, .int x4), (0, .ref (ad 0)), (1, .int l1)]) hx hb dX12_rests_49 hl (k := 3) rfl (by rw [ex5]; rfl) (by decide) rfl (fun ls hl => ?_)
        refine lv_goto (tgt := 26) hx hb dX12_rests_52 (by decide) ?_
        exact ih x4 x5 _ _ _ G (lv_sub hl [2, 3, 1, 0] rfl) hf
      have hf := hrx3
      refine lv_if_eq (tgt := 46) hx hb dX12_rests_39 (by decide) (fun h => ?_) (fun h => ?_)
      · have hf := it_t h hf
        refine lv_iconst (v := 0) hx hb dX12_rests_46 (by decide) ?_
        obtain rfl := Option.some.inj hf
        exact Jx3 _ _ _ G (lv_sub hl [0, 1, 3] rfl)
      · have hf := it_f h hf
        refine lv_iconst (v := 1) hx hb dX12_rests_42 (by decide) ?_
        refine lv_goto (tgt := 47) hx hb dX12_rests_43 (by decide) ?_
        obtain rfl := Option.some.inj hf
        exact Jx3 _ _ _ G (lv_sub hl [0, 1, 3] rfl)
set_option maxHeartbeats 4000000 in
set_option maxRecDepth 100000 in
theorem c_M_rests_m_M {l : Launch} {E : xE} {ad : Nat → Nat} {m_thrown m_trouble m_where m_taped m_size m_spot m_sort m_place m_number m_fault m_wrongAt m_acts m_images m_matchNow m_slopsNow m_matchesNow m_fedBest m_slopsBest m_sawBest m_leastNow m_stableNow m_fitsNow m_someNow m_everyNow m_askLeft tb_seats tb_slack tb_saw tb_quarrel tb_people tb_pairs tb_forks tb_unsures tb_trieds tb_fed : Int32} {m_rv : Value} {m_tape m_v m_x m_past m_kept m_slopped m_seatBest m_otherIn tb_seat tb_one tb_other tb_years tb_kind tb_unsure tb_may tb_tried : Nat → Int32} {m_word : Int64} {tb_name : Nat → Int64} {l1 : Int32} {R0 : Int32 × Int32 × Int32 × Int32} (hf : f_M_rests l1 = some R0) : xI l E yX12_rests cX12_rests 5 (some .int) 2 45 [.ref (ad 0), .int l1] (wM E ad m_thrown m_trouble m_where m_rv m_tape m_taped m_size m_spot m_sort m_place m_number m_fault m_wrongAt m_word m_v m_x m_past m_kept m_acts m_images m_matchNow m_slopsNow m_matchesNow m_slopped m_seatBest m_fedBest m_slopsBest m_sawBest m_leastNow m_stableNow m_fitsNow m_someNow m_everyNow m_otherIn m_askLeft tb_seats tb_slack tb_saw tb_quarrel tb_people tb_pairs tb_forks tb_unsures tb_trieds tb_fed tb_seat tb_one tb_other tb_years tb_kind tb_unsure tb_may tb_tried tb_name) (wM E ad R0.2.1 R0.2.2.1 R0.2.2.2 m_rv m_tape m_taped m_size m_spot m_sort m_place m_number m_fault m_wrongAt m_word m_v m_x m_past m_kept m_acts m_images m_matchNow m_slopsNow m_matchesNow m_slopped m_seatBest m_fedBest m_slopsBest m_sawBest m_leastNow m_stableNow m_fitsNow m_someNow m_everyNow m_otherIn m_askLeft tb_seats tb_slack tb_saw tb_quarrel tb_people tb_pairs tb_forks tb_unsures tb_trieds tb_fed tb_seat tb_one tb_other tb_years tb_kind tb_unsure tb_may tb_tried tb_name) R0.1 := by
  refine xI_of (by decide) (Nat.le_of_ble_eq_true rfl) (fun p e s m args below meth c A C ls hl G => ?_)
  have hx := C.1
  have hb := C.2.1
  have hl : lv_has ls 5 [(0, .ref (ad 0)), (1, .int l1)] := hl
  unfold f_M_rests at hf
  refine lv_aload_n hx hb dX12_rests_0 rfl (lv_at hl 0 rfl) ?_
  refine lv_iconst (v := 0) hx hb dX12_rests_1 (by decide) ?_
  refine x_put (ws' := (wM E ad (0 : Int32) m_trouble m_where m_rv m_tape m_taped m_size m_spot m_sort m_place m_number m_fault m_wrongAt m_word m_v m_x m_past m_kept m_acts m_images m_matchNow m_slopsNow m_matchesNow m_slopped m_seatBest m_fedBest m_slopsBest m_sawBest m_leastNow m_stableNow m_fitsNow m_someNow m_everyNow m_otherIn m_askLeft tb_seats tb_slack tb_saw tb_quarrel tb_people tb_pairs tb_forks tb_unsures tb_trieds tb_fed tb_seat tb_one tb_other tb_years tb_kind tb_unsure tb_may tb_tried tb_name)) C G fX12_39 (wM_at0) rfl rfl (Nat.le_of_ble_eq_true rfl) wM_set_m_thrown dX12_rests_2 (fun H locs G => ?_)
  refine lv_aload_n hx hb dX12_rests_5 rfl (lv_at hl 0 rfl) ?_
  refine lv_iload_n hx hb dX12_rests_6 rfl (lv_at hl 1 rfl) ?_
  obtain ⟨x1, hc, hf⟩ := bd_go hf
  refine xI_V C G (c_M_refusesPride_m_M hc) mX12_refusesPride kX12_466 (wM_at0) rfl ⟨Nat.le_of_ble_eq_true rfl, Nat.le_of_ble_eq_true rfl⟩ rfl hl.1 rfl (Nat.le_of_ble_eq_true rfl) ⟨Nat.le_refl _, Nat.le_refl _⟩ dX12_rests_7 (fun hz H locs G => ?_)
  refine lv_istore_n (lv' := [(2, .int x1), (0, .ref (ad 0)), (1, .int l1)]) hx hb dX12_rests_10 rfl hl (by decide) rfl (fun ls hl => ?_)
  refine lv_iload_n hx hb dX12_rests_11 rfl (lv_at hl 0 rfl) ?_
  refine lv_if_le (tgt := 21) hx hb dX12_rests_12 (by decide) (fun h => ?_) (fun h => ?_)
  · have hf := it_t h hf
    refine lv_iconst (v := 0) hx hb dX12_rests_21 (by decide) ?_
    refine lv_istore_n (lv' := [(3, .int (0 : Int32)), (2, .int x1), (0, .ref (ad 0)), (1, .int l1)]) hx hb dX12_rests_22 rfl hl (by decide) rfl (fun ls hl => ?_)
    refine lv_iconst (v := 0) hx hb dX12_rests_23 (by decide) ?_
    refine lv_istore (lv' := [(4, .int (0 : Int32)), (3, .int (0 : Int32)), (2, .int x1), (0, .ref (ad 0)), (1, .int l1)]) hx hb dX12_rests_24 hl (by decide) rfl (fun ls hl => ?_)
    obtain ⟨x6, hr, hf⟩ := bd_go hf
    have Jx6 : ∀ (H : Heap) (locs : List Loc) (ls : Array Slot), xG s E A (wM E ad (0 : Int32) m_trouble m_where m_rv m_tape m_taped m_size m_spot m_sort m_place m_number m_fault m_wrongAt m_word m_v m_x m_past m_kept m_acts m_images m_matchNow m_slopsNow m_matchesNow m_slopped m_seatBest m_fedBest m_slopsBest m_sawBest m_leastNow m_stableNow m_fitsNow m_someNow m_everyNow m_otherIn m_askLeft tb_seats tb_slack tb_saw tb_quarrel tb_people tb_pairs tb_forks tb_unsures tb_trieds tb_fed tb_seat tb_one tb_other tb_years tb_kind tb_unsure tb_may tb_tried tb_name) H locs → lv_has ls 5 [(0, .ref (ad 0)), (3, .int x6)] → W p l e (xR 2 45) s m args below meth c H locs 0 0 (MQ below (xqI E A (wM E ad R0.2.1 R0.2.2.1 R0.2.2.2 m_rv m_tape m_taped m_size m_spot m_sort m_place m_number m_fault m_wrongAt m_word m_v m_x m_past m_kept m_acts m_images m_matchNow m_slopsNow m_matchesNow m_slopped m_seatBest m_fedBest m_slopsBest m_sawBest m_leastNow m_stableNow m_fitsNow m_someNow m_everyNow m_otherIn m_askLeft tb_seats tb_slack tb_saw tb_quarrel tb_people tb_pairs tb_forks tb_unsures tb_trieds tb_fed tb_seat tb_one tb_other tb_years tb_kind tb_unsure tb_may tb_tried tb_name) (some .int) R0.1) args s 0 0 A) (F0 m 55 ls []) := by
      intro H locs ls G hl
      refine lv_aload_n hx hb dX12_rests_55 rfl (lv_at hl 0 rfl) ?_
      refine lv_iload_n hx hb dX12_rests_56 rfl (lv_at hl 1 rfl) ?_
      obtain ⟨x7, hc, hf⟩ := bd_go hf
      refine xI_V C G (c_M_good_m_M hc) mX12_good kX12_49 (wM_at0) rfl ⟨Nat.le_of_ble_eq_true rfl, Nat.le_of_ble_eq_true rfl⟩ rfl hl.1 rfl (Nat.le_of_ble_eq_true rfl) ⟨Nat.le_refl _, Nat.le_refl _⟩ dX12_rests_57 (fun hz H locs G => ?_)
      obtain rfl := Option.some.inj hf
      exact xI_ret C G rfl dX12_rests_60
    exact w_M_rests_m_M_L26 C Jx6 fu _ _ _ _ _ G (lv_sub hl [3, 4, 1, 0] rfl) hr
  · have hf := it_f h hf
    refine lv_aload_n hx hb dX12_rests_15 rfl (lv_at hl 1 rfl) ?_
    refine lv_iload_n hx hb dX12_rests_16 rfl (lv_at hl 0 rfl) ?_
    obtain ⟨x8, hc, hf⟩ := bd_go hf
    refine xI_V C G (c_M_refused_m_M hc) mX12_refused kX12_45 (wM_at0) rfl ⟨Nat.le_of_ble_eq_true rfl, Nat.le_of_ble_eq_true rfl⟩ rfl hl.1 rfl (Nat.le_of_ble_eq_true rfl) ⟨Nat.le_refl _, Nat.le_refl _⟩ dX12_rests_17 (fun hz H locs G => ?_)
    obtain rfl := Option.some.inj hf
    exact xI_ret C G rfl dX12_rests_20
set_option maxHeartbeats 4000000 in
set_option maxRecDepth 100000 in
theorem w_M_rest_m_M_L23 {p : Program} {l : Launch} {e : Env} {s : State} {m : MethodId} {args : Array Value} {below : List Frame} {meth : Method} {c : Code} {A : Nat → Prop} {E : xE} {ad : Nat → Nat} {m_thrown m_trouble m_where m_taped m_size m_spot m_sort m_place m_number m_fault m_wrongAt m_acts m_images m_matchNow m_slopsNow m_matchesNow m_fedBest m_slopsBest m_sawBest m_leastNow m_stableNow m_fitsNow m_someNow m_everyNow m_askLeft tb_seats tb_slack tb_saw tb_quarrel tb_people tb_pairs tb_forks tb_unsures tb_trieds tb_fed : Int32} {m_rv : Value} {m_tape m_v m_x m_past m_kept m_slopped m_seatBest m_otherIn tb_seat tb_one tb_other tb_years tb_kind tb_unsure tb_may tb_tried : Nat → Int32} {m_word : Int64} {tb_name : Nat → Int64} {l1 : Int32} {o : (Int32 × Int32 × Int32 × Int32) ⊕ (Int32 × Int32)} {R0 : Int32 × Int32 × Int32 × Int32} (C : xC p s m args meth c cX12_rest 4 RX12 E A (some .int)) (Jr : ∀ r, o = .inl r → r = R0) (J : ∀ t, o = .inr t → ∀ (H : Heap) (locs : List Loc) (ls : Array Slot), xG s E A (wM E ad m_thrown t.1 t.2 m_rv m_tape m_taped m_size m_spot m_sort m_place m_number m_fault m_wrongAt m_word m_v m_x m_past m_kept m_acts m_images m_matchNow m_slopsNow m_matchesNow m_slopped m_seatBest m_fedBest m_slopsBest m_sawBest m_leastNow m_stableNow m_fitsNow m_someNow m_everyNow m_otherIn m_askLeft tb_seats tb_slack tb_saw tb_quarrel tb_people tb_pairs tb_forks tb_unsures tb_trieds tb_fed tb_seat tb_one tb_other tb_years tb_kind tb_unsure tb_may tb_tried tb_name) H locs → lv_has ls 4 [(0, .ref (ad 0))] → W p l e (xR 2 45) s m args below meth c H locs 0 0 (MQ below (xqI E A (wM E ad R0.2.1 R0.2.2.1 R0.2.2.2 m_rv m_tape m_taped m_size m_spot m_sort m_place m_number m_fault m_wrongAt m_word m_v m_x m_past m_kept m_acts m_images m_matchNow m_slopsNow m_matchesNow m_slopped m_seatBest m_fedBest m_slopsBest m_sawBest m_leastNow m_stableNow m_fitsNow m_someNow m_everyNow m_otherIn m_askLeft tb_seats tb_slack tb_saw tb_quarrel tb_people tb_pairs tb_forks tb_unsures tb_trieds tb_fed tb_seat tb_one tb_other tb_years tb_kind tb_unsure tb_may tb_tried tb_name) (some .int) R0.1) args s 0 0 A) (F0 m 57 ls [])) :
    ∀ (n : Nat) (l3 : Int32) (H : Heap) (locs : List Loc) (ls : Array Slot), xG s E A (wM E ad m_thrown m_trouble m_where m_rv m_tape m_taped m_size m_spot m_sort m_place m_number m_fault m_wrongAt m_word m_v m_x m_past m_kept m_acts m_images m_matchNow m_slopsNow m_matchesNow m_slopped m_seatBest m_fedBest m_slopsBest m_sawBest m_leastNow m_stableNow m_fitsNow m_someNow m_everyNow m_otherIn m_askLeft tb_seats tb_slack tb_saw tb_quarrel tb_people tb_pairs tb_forks tb_unsures tb_trieds tb_fed tb_seat tb_one tb_other tb_years tb_kind tb_unsure tb_may tb_tried tb_name) H locs → lv_has ls 4 [(0, .ref (ad 0)), (1, .int l1), (3, .int l3)] → f_M_rest_L23 l1 m_thrown m_trouble m_where n l3 = some o → W p l e (xR 2 45) s m args below meth c H locs 0 0 (MQ below (xqI E A (wM E ad R0.2.1 R0.2.2.1 R0.2.2.2 m_rv m_tape m_taped m_size m_spot m_sort m_place m_number m_fault m_wrongAt m_word m_v m_x m_past m_kept m_acts m_images m_matchNow m_slopsNow m_matchesNow m_slopped m_seatBest m_fedBest m_slopsBest m_sawBest m_leastNow m_stableNow m_fitsNow m_someNow m_everyNow m_otherIn m_askLeft tb_seats tb_slack tb_saw tb_quarrel tb_people tb_pairs tb_forks tb_unsures tb_trieds tb_fed tb_seat tb_one tb_other tb_years tb_kind tb_unsure tb_may tb_tried tb_name) (some .int) R0.1) args s 0 0 A) (F0 m 23 ls []) := by
  have hx := C.1
  have hb := C.2.1
  intro n
  induction n with
  | zero =>
    intro l3 H locs ls G hl hf
    exact nomatch (show (none : Option ((Int32 × Int32 × Int32 × Int32) ⊕ (Int32 × Int32))) = some o from hf)
  | succ n ih =>
    intro l3 H locs ls G hl hf
    rw [f_M_rest_L23] at hf
    refine lv_iload_n hx hb dX12_rest_23 rfl (lv_at hl 2 rfl) ?_
    refine lv_iconst (v := 4) hx hb dX12_rest_24 (by decide) ?_
    refine lv_icmp_ge (tgt := 57) hx hb dX12_rest_25 (by decide) (fun h => ?_) (fun h => ?_)
    · have hf := it_t h hf
      exact J _ (Option.some.inj hf).symm _ _ _ G (lv_sub hl [0] rfl)
    · have hf := it_f h hf
      refine lv_iload_n hx hb dX12_rest_28 rfl (lv_at hl 1 rfl) ?_
      refine lv_iload_n hx hb dX12_rest_29 rfl (lv_at hl 2 rfl) ?_
      obtain ⟨x2, hc, hf⟩ := bd_go hf
      refine xI_S C G (c_M_isRest_any hc) mX12_isRest kX12_476 ⟨Nat.le_of_ble_eq_true rfl, Nat.le_of_ble_eq_true rfl⟩ rfl hl.1 rfl (Nat.le_of_ble_eq_true rfl) ⟨Nat.le_refl _, Nat.le_refl _⟩ dX12_rest_30 (fun hz2 H locs G => ?_)
      refine lv_if_eq (tgt := 51) hx hb dX12_rest_33 (by decide) (fun h => ?_) (fun h => ?_)
      · have hf := it_t h hf
        obtain ⟨x3, ex3⟩ : ∃ z : Int32, z = l3 + (1 : Int32) := ⟨_, rfl⟩
        have hf := lt_go ex3 hf
        refine lv_iinc (v := x3) (lv' := [(3, .int x3), (0, .ref (ad 0)), (1, .int l1)]) hx hb dX12_rest_51 hl (k := 2) rfl (by rw [ex3]; rfl) (by decide) rfl (fun ls hl => ?_)
        refine lv_goto (tgt := 23) hx hb dX12_rest_54 (by decide) ?_
        exact ih x3 _ _ _ G (lv_sub hl [1, 2, 0] rfl) hf
      · have hf := it_f h hf
        refine lv_aload_n hx hb dX12_rest_36 rfl (lv_at hl 0 rfl) ?_
        refine lv_bipush (v := 10) hx hb dX12_rest_37 (by decide) ?_
        refine lv_iload_n hx hb dX12_rest_39 rfl (lv_at hl 2 rfl) ?_
        refine lv_iconst (v := 2) hx hb dX12_rest_40 (by decide) ?_
        refine lv_idiv hx hb dX12_rest_41 (by decide) ?_
        refine lv_imul hx hb dX12_rest_42 ?_
        refine lv_iload_n hx hb dX12_rest_43 rfl (lv_at hl 2 rfl) ?_
        refine lv_iconst (v := 2) hx hb dX12_rest_44 (by decide) ?_
        refine lv_irem hx hb dX12_rest_45 (by decide) ?_
        refine lv_iadd hx hb dX12_rest_46 ?_
        obtain ⟨x4, hc, hf⟩ := bd_go hf
        refine xI_V C G (c_M_good_m_M hc) mX12_good kX12_49 (wM_at0) rfl ⟨Nat.le_of_ble_eq_true rfl, Nat.le_of_ble_eq_true rfl⟩ rfl hl.1 rfl (Nat.le_of_ble_eq_true rfl) ⟨Nat.le_refl _, Nat.le_refl _⟩ dX12_rest_47 (fun hz H locs G => ?_)
        obtain rfl := Jr _ (Option.some.inj hf).symm
        exact xI_ret C G rfl dX12_rest_50
set_option maxHeartbeats 4000000 in
set_option maxRecDepth 100000 in
theorem c_M_rest_m_M {l : Launch} {E : xE} {ad : Nat → Nat} {m_thrown m_trouble m_where m_taped m_size m_spot m_sort m_place m_number m_fault m_wrongAt m_acts m_images m_matchNow m_slopsNow m_matchesNow m_fedBest m_slopsBest m_sawBest m_leastNow m_stableNow m_fitsNow m_someNow m_everyNow m_askLeft tb_seats tb_slack tb_saw tb_quarrel tb_people tb_pairs tb_forks tb_unsures tb_trieds tb_fed : Int32} {m_rv : Value} {m_tape m_v m_x m_past m_kept m_slopped m_seatBest m_otherIn tb_seat tb_one tb_other tb_years tb_kind tb_unsure tb_may tb_tried : Nat → Int32} {m_word : Int64} {tb_name : Nat → Int64} {l1 : Int32} {R0 : Int32 × Int32 × Int32 × Int32} (hf : f_M_rest l1 m_trouble m_where = some R0) : xI l E yX12_rest cX12_rest 4 (some .int) 2 45 [.ref (ad 0), .int l1] (wM E ad m_thrown m_trouble m_where m_rv m_tape m_taped m_size m_spot m_sort m_place m_number m_fault m_wrongAt m_word m_v m_x m_past m_kept m_acts m_images m_matchNow m_slopsNow m_matchesNow m_slopped m_seatBest m_fedBest m_slopsBest m_sawBest m_leastNow m_stableNow m_fitsNow m_someNow m_everyNow m_otherIn m_askLeft tb_seats tb_slack tb_saw tb_quarrel tb_people tb_pairs tb_forks tb_unsures tb_trieds tb_fed tb_seat tb_one tb_other tb_years tb_kind tb_unsure tb_may tb_tried tb_name) (wM E ad R0.2.1 R0.2.2.1 R0.2.2.2 m_rv m_tape m_taped m_size m_spot m_sort m_place m_number m_fault m_wrongAt m_word m_v m_x m_past m_kept m_acts m_images m_matchNow m_slopsNow m_matchesNow m_slopped m_seatBest m_fedBest m_slopsBest m_sawBest m_leastNow m_stableNow m_fitsNow m_someNow m_everyNow m_otherIn m_askLeft tb_seats tb_slack tb_saw tb_quarrel tb_people tb_pairs tb_forks tb_unsures tb_trieds tb_fed tb_seat tb_one tb_other tb_years tb_kind tb_unsure tb_may tb_tried tb_name) R0.1 := by
  refine xI_of (by decide) (Nat.le_of_ble_eq_true rfl) (fun p e s m args below meth c A C ls hl G => ?_)
  have hx := C.1
  have hb := C.2.1
  have hl : lv_has ls 4 [(0, .ref (ad 0)), (1, .int l1)] := hl
  unfold f_M_rest at hf
  refine lv_aload_n hx hb dX12_rest_0 rfl (lv_at hl 0 rfl) ?_
  refine lv_iconst (v := 0) hx hb dX12_rest_1 (by decide) ?_
  refine x_put (ws' := (wM E ad (0 : Int32) m_trouble m_where m_rv m_tape m_taped m_size m_spot m_sort m_place m_number m_fault m_wrongAt m_word m_v m_x m_past m_kept m_acts m_images m_matchNow m_slopsNow m_matchesNow m_slopped m_seatBest m_fedBest m_slopsBest m_sawBest m_leastNow m_stableNow m_fitsNow m_someNow m_everyNow m_otherIn m_askLeft tb_seats tb_slack tb_saw tb_quarrel tb_people tb_pairs tb_forks tb_unsures tb_trieds tb_fed tb_seat tb_one tb_other tb_years tb_kind tb_unsure tb_may tb_tried tb_name)) C G fX12_39 (wM_at0) rfl rfl (Nat.le_of_ble_eq_true rfl) wM_set_m_thrown dX12_rest_2 (fun H locs G => ?_)
  refine lv_aload_n hx hb dX12_rest_5 rfl (lv_at hl 0 rfl) ?_
  refine lv_iload_n hx hb dX12_rest_6 rfl (lv_at hl 1 rfl) ?_
  obtain ⟨x1, hc, hf⟩ := bd_go hf
  refine xI_V C G (c_M_refusesPride_m_M hc) mX12_refusesPride kX12_466 (wM_at0) rfl ⟨Nat.le_of_ble_eq_true rfl, Nat.le_of_ble_eq_true rfl⟩ rfl hl.1 rfl (Nat.le_of_ble_eq_true rfl) ⟨Nat.le_refl _, Nat.le_refl _⟩ dX12_rest_7 (fun hz H locs G => ?_)
  refine lv_istore_n (lv' := [(2, .int x1), (0, .ref (ad 0)), (1, .int l1)]) hx hb dX12_rest_10 rfl hl (by decide) rfl (fun ls hl => ?_)
  refine lv_iload_n hx hb dX12_rest_11 rfl (lv_at hl 0 rfl) ?_
  refine lv_if_le (tgt := 21) hx hb dX12_rest_12 (by decide) (fun h => ?_) (fun h => ?_)
  · have hf := it_t h hf
    refine lv_iconst (v := 0) hx hb dX12_rest_21 (by decide) ?_
    refine lv_istore_n (lv' := [(3, .int (0 : Int32)), (2, .int x1), (0, .ref (ad 0)), (1, .int l1)]) hx hb dX12_rest_22 rfl hl (by decide) rfl (fun ls hl => ?_)
    obtain ⟨ox5, hr, hf⟩ := bd_go hf
    have Jx5 : ∀ x5, ox5 = .inr x5 → ∀ (H : Heap) (locs : List Loc) (ls : Array Slot), xG s E A (wM E ad (0 : Int32) x5.1 x5.2 m_rv m_tape m_taped m_size m_spot m_sort m_place m_number m_fault m_wrongAt m_word m_v m_x m_past m_kept m_acts m_images m_matchNow m_slopsNow m_matchesNow m_slopped m_seatBest m_fedBest m_slopsBest m_sawBest m_leastNow m_stableNow m_fitsNow m_someNow m_everyNow m_otherIn m_askLeft tb_seats tb_slack tb_saw tb_quarrel tb_people tb_pairs tb_forks tb_unsures tb_trieds tb_fed tb_seat tb_one tb_other tb_years tb_kind tb_unsure tb_may tb_tried tb_name) H locs → lv_has ls 4 [(0, .ref (ad 0))] → W p l e (xR 2 45) s m args below meth c H locs 0 0 (MQ below (xqI E A (wM E ad R0.2.1 R0.2.2.1 R0.2.2.2 m_rv m_tape m_taped m_size m_spot m_sort m_place m_number m_fault m_wrongAt m_word m_v m_x m_past m_kept m_acts m_images m_matchNow m_slopsNow m_matchesNow m_slopped m_seatBest m_fedBest m_slopsBest m_sawBest m_leastNow m_stableNow m_fitsNow m_someNow m_everyNow m_otherIn m_askLeft tb_seats tb_slack tb_saw tb_quarrel tb_people tb_pairs tb_forks tb_unsures tb_trieds tb_fed tb_seat tb_one tb_other tb_years tb_kind tb_unsure tb_may tb_tried tb_name) (some .int) R0.1) args s 0 0 A) (F0 m 57 ls []) := by
      intro x5 hq H locs ls G hl
      subst hq
      have hf := sm_r hf
      refine lv_aload_n hx hb dX12_rest_57 rfl (lv_at hl 0 rfl) ?_
      refine lv_bipush (v := -2) hx hb dX12_rest_58 (by decide) ?_
      obtain ⟨x6, hc, hf⟩ := bd_go hf
      refine xI_V C G (c_M_good_m_M hc) mX12_good kX12_49 (wM_at0) rfl ⟨Nat.le_of_ble_eq_true rfl, Nat.le_of_ble_eq_true rfl⟩ rfl hl.1 rfl (Nat.le_of_ble_eq_true rfl) ⟨Nat.le_refl _, Nat.le_refl _⟩ dX12_rest_60 (fun hz H locs G => ?_)
      obtain rfl := Option.some.inj hf
      exact xI_ret C G rfl dX12_rest_63
    have Jrx5 : ∀ r, ox5 = .inl r → r = R0 := by
      intro r hq
      subst hq
      exact Option.some.inj hf
    exact w_M_rest_m_M_L23 C Jrx5 Jx5 fu _ _ _ _ G (lv_sub hl [2, 3, 0] rfl) hr
  · have hf := it_f h hf
    refine lv_aload_n hx hb dX12_rest_15 rfl (lv_at hl 1 rfl) ?_
    refine lv_iload_n hx hb dX12_rest_16 rfl (lv_at hl 0 rfl) ?_
    obtain ⟨x7, hc, hf⟩ := bd_go hf
    refine xI_V C G (c_M_refused_m_M hc) mX12_refused kX12_45 (wM_at0) rfl ⟨Nat.le_of_ble_eq_true rfl, Nat.le_of_ble_eq_true rfl⟩ rfl hl.1 rfl (Nat.le_of_ble_eq_true rfl) ⟨Nat.le_refl _, Nat.le_refl _⟩ dX12_rest_17 (fun hz H locs G => ?_)
    obtain rfl := Option.some.inj hf
    exact xI_ret C G rfl dX12_rest_20
set_option maxHeartbeats 4000000 in
set_option maxRecDepth 100000 in
theorem c_M_refusesChance_m_M {l : Launch} {E : xE} {ad : Nat → Nat} {m_thrown m_trouble m_where m_taped m_size m_spot m_sort m_place m_number m_fault m_wrongAt m_acts m_images m_matchNow m_slopsNow m_matchesNow m_fedBest m_slopsBest m_sawBest m_leastNow m_stableNow m_fitsNow m_someNow m_everyNow m_askLeft tb_seats tb_slack tb_saw tb_quarrel tb_people tb_pairs tb_forks tb_unsures tb_trieds tb_fed : Int32} {m_rv : Value} {m_tape m_v m_x m_past m_kept m_slopped m_seatBest m_otherIn tb_seat tb_one tb_other tb_years tb_kind tb_unsure tb_may tb_tried : Nat → Int32} {m_word : Int64} {tb_name : Nat → Int64} {l1 : Int32} {l2 : Int32} {R0 : Int32} (hf : f_M_refusesChance l1 l2 m_v = some R0) : xI l E yX12_refusesChance cX12_refusesChance 3 (some .int) 1 22 [.ref (ad 0), .int l1, .int l2] (wM E ad m_thrown m_trouble m_where m_rv m_tape m_taped m_size m_spot m_sort m_place m_number m_fault m_wrongAt m_word m_v m_x m_past m_kept m_acts m_images m_matchNow m_slopsNow m_matchesNow m_slopped m_seatBest m_fedBest m_slopsBest m_sawBest m_leastNow m_stableNow m_fitsNow m_someNow m_everyNow m_otherIn m_askLeft tb_seats tb_slack tb_saw tb_quarrel tb_people tb_pairs tb_forks tb_unsures tb_trieds tb_fed tb_seat tb_one tb_other tb_years tb_kind tb_unsure tb_may tb_tried tb_name) (wM E ad m_thrown m_trouble m_where m_rv m_tape m_taped m_size m_spot m_sort m_place m_number m_fault m_wrongAt m_word m_v m_x m_past m_kept m_acts m_images m_matchNow m_slopsNow m_matchesNow m_slopped m_seatBest m_fedBest m_slopsBest m_sawBest m_leastNow m_stableNow m_fitsNow m_someNow m_everyNow m_otherIn m_askLeft tb_seats tb_slack tb_saw tb_quarrel tb_people tb_pairs tb_forks tb_unsures tb_trieds tb_fed tb_seat tb_one tb_other tb_years tb_kind tb_unsure tb_may tb_tried tb_name) R0 := by
  refine xI_of (by decide) (Nat.le_of_ble_eq_true rfl) (fun p e s m args below meth c A C ls hl G => ?_)
  have hx := C.1
  have hb := C.2.1
  have hl : lv_has ls 3 [(0, .ref (ad 0)), (1, .int l1), (2, .int l2)] := hl
  unfold f_M_refusesChance at hf
  refine lv_aload_n hx hb dX12_refusesChance_0 rfl (lv_at hl 0 rfl) ?_
  refine lv_iload_n hx hb dX12_refusesChance_1 rfl (lv_at hl 1 rfl) ?_
  obtain ⟨x1, hc, hf⟩ := bd_go hf
  refine xI_V C G (c_M_isPair_m_M hc) mX12_isPair kX12_330 (wM_at0) rfl ⟨Nat.le_of_ble_eq_true rfl, Nat.le_of_ble_eq_true rfl⟩ rfl hl.1 rfl (Nat.le_of_ble_eq_true rfl) ⟨Nat.le_refl _, Nat.le_refl _⟩ dX12_refusesChance_2 (fun hz1 H locs G => ?_)
  refine lv_if_ne (tgt := 12) hx hb dX12_refusesChance_5 (by decide) (fun h => ?_) (fun h => ?_)
  · have hf := it_f h hf
    refine lv_iload_n hx hb dX12_refusesChance_12 rfl (lv_at hl 2 rfl) ?_
    refine lv_iconst (v := 0) hx hb dX12_refusesChance_13 (by decide) ?_
    refine lv_bipush (v := 8) hx hb dX12_refusesChance_14 (by decide) ?_
    obtain ⟨x2, hc, hf⟩ := bd_go hf
    refine xI_S C G (c_M_in_any hc) mX12_in kX12_118 ⟨Nat.le_of_ble_eq_true rfl, Nat.le_of_ble_eq_true rfl⟩ rfl hl.1 rfl (Nat.le_of_ble_eq_true rfl) ⟨Nat.le_refl _, Nat.le_refl _⟩ dX12_refusesChance_16 (fun hz2 H locs G => ?_)
    refine lv_if_eq (tgt := 26) hx hb dX12_refusesChance_19 (by decide) (fun h => ?_) (fun h => ?_)
    · have hf := it_t h hf
      refine lv_iconst (v := 2) hx hb dX12_refusesChance_26 (by decide) ?_
      obtain rfl := Option.some.inj hf
      exact xI_ret C G rfl dX12_refusesChance_27
    · have hf := it_f h hf
      refine lv_iconst (v := 0) hx hb dX12_refusesChance_22 (by decide) ?_
      refine lv_goto (tgt := 27) hx hb dX12_refusesChance_23 (by decide) ?_
      obtain rfl := Option.some.inj hf
      exact xI_ret C G rfl dX12_refusesChance_27
  · have hf := it_t h hf
    refine lv_iconst (v := 1) hx hb dX12_refusesChance_8 (by decide) ?_
    refine lv_goto (tgt := 27) hx hb dX12_refusesChance_9 (by decide) ?_
    obtain rfl := Option.some.inj hf
    exact xI_ret C G rfl dX12_refusesChance_27
set_option maxHeartbeats 4000000 in
set_option maxRecDepth 100000 in
theorem c_M_sawsOff_m_M {l : Launch} {E : xE} {ad : Nat → Nat} {m_thrown m_trouble m_where m_taped m_size m_spot m_sort m_place m_number m_fault m_wrongAt m_acts m_images m_matchNow m_slopsNow m_matchesNow m_fedBest m_slopsBest m_sawBest m_leastNow m_stableNow m_fitsNow m_someNow m_everyNow m_askLeft tb_seats tb_slack tb_saw tb_quarrel tb_people tb_pairs tb_forks tb_unsures tb_trieds tb_fed : Int32} {m_rv : Value} {m_tape m_v m_x m_past m_kept m_slopped m_seatBest m_otherIn tb_seat tb_one tb_other tb_years tb_kind tb_unsure tb_may tb_tried : Nat → Int32} {m_word : Int64} {tb_name : Nat → Int64} {l1 : Int32} {R0 : (Nat → Int32)} (hf : f_M_sawsOff l1 m_x tb_saw = some R0) : xV l E yX12_sawsOff cX12_sawsOff 3 none 1 21 [.ref (ad 0), .int l1] (wM E ad m_thrown m_trouble m_where m_rv m_tape m_taped m_size m_spot m_sort m_place m_number m_fault m_wrongAt m_word m_v m_x m_past m_kept m_acts m_images m_matchNow m_slopsNow m_matchesNow m_slopped m_seatBest m_fedBest m_slopsBest m_sawBest m_leastNow m_stableNow m_fitsNow m_someNow m_everyNow m_otherIn m_askLeft tb_seats tb_slack tb_saw tb_quarrel tb_people tb_pairs tb_forks tb_unsures tb_trieds tb_fed tb_seat tb_one tb_other tb_years tb_kind tb_unsure tb_may tb_tried tb_name) (wM E ad m_thrown m_trouble m_where m_rv m_tape m_taped m_size m_spot m_sort m_place m_number m_fault m_wrongAt m_word m_v R0 m_past m_kept m_acts m_images m_matchNow m_slopsNow m_matchesNow m_slopped m_seatBest m_fedBest m_slopsBest m_sawBest m_leastNow m_stableNow m_fitsNow m_someNow m_everyNow m_otherIn m_askLeft tb_seats tb_slack tb_saw tb_quarrel tb_people tb_pairs tb_forks tb_unsures tb_trieds tb_fed tb_seat tb_one tb_other tb_years tb_kind tb_unsure tb_may tb_tried tb_name) := by
  refine xV_of (by decide) (Nat.le_of_ble_eq_true rfl) (fun p e s m args below meth c A C ls hl G => ?_)
  have hx := C.1
  have hb := C.2.1
  have hl : lv_has ls 3 [(0, .ref (ad 0)), (1, .int l1)] := hl
  unfold f_M_sawsOff at hf
  refine lv_aload_n hx hb dX12_sawsOff_0 rfl (lv_at hl 0 rfl) ?_
  refine lv_iload_n hx hb dX12_sawsOff_1 rfl (lv_at hl 1 rfl) ?_
  obtain ⟨x1, hc, hf⟩ := bd_go hf
  refine xI_V C G (c_M_handleOf_m_M hc) mX12_handleOf kX12_321 (wM_at0) rfl ⟨Nat.le_of_ble_eq_true rfl, Nat.le_of_ble_eq_true rfl⟩ rfl hl.1 rfl (Nat.le_of_ble_eq_true rfl) ⟨Nat.le_refl _, Nat.le_refl _⟩ dX12_sawsOff_2 (fun hz H locs G => ?_)
  refine lv_istore_n (lv' := [(2, .int x1), (0, .ref (ad 0)), (1, .int l1)]) hx hb dX12_sawsOff_5 rfl hl (by decide) rfl (fun ls hl => ?_)
  refine lv_aload_n hx hb dX12_sawsOff_6 rfl (lv_at hl 1 rfl) ?_
  refine x_get C G fX12_21 (wM_at0) rfl dX12_sawsOff_7 ?_
  refine lv_bipush (v := 45) hx hb dX12_sawsOff_10 (by decide) ?_
  refine lv_iload_n hx hb dX12_sawsOff_12 rfl (lv_at hl 2 rfl) ?_
  refine lv_iadd hx hb dX12_sawsOff_13 ?_
  have hi := ck_in hf
  have hf := ck_go hf
  refine x_iald C G (wM_at3) hi dX12_sawsOff_14 ?_
  refine lv_iconst (v := 2) hx hb dX12_sawsOff_15 (by decide) ?_
  refine lv_icmp_eq (tgt := 53) hx hb dX12_sawsOff_16 (by decide) (fun h => ?_) (fun h => ?_)
  · have hf := it_t h hf
    obtain rfl := Option.some.inj hf
    exact xV_ret C G dX12_sawsOff_53
  · have hf := it_f h hf
    refine lv_aload_n hx hb dX12_sawsOff_19 rfl (lv_at hl 1 rfl) ?_
    refine x_get C G fX12_21 (wM_at0) rfl dX12_sawsOff_20 ?_
    refine lv_bipush (v := 35) hx hb dX12_sawsOff_23 (by decide) ?_
    refine lv_iload_n hx hb dX12_sawsOff_25 rfl (lv_at hl 2 rfl) ?_
    refine lv_iadd hx hb dX12_sawsOff_26 ?_
    refine lv_topi (fun x2 ex2 => ?_)
    have hf := lt_go ex2 hf
    refine lv_dup2_11 hx hb dX12_sawsOff_27 rfl rfl ?_
    have hi := ck_in hf
    have hf := ck_go hf
    refine x_iald C G (wM_at3) hi dX12_sawsOff_28 ?_
    refine lv_iload_n hx hb dX12_sawsOff_29 rfl (lv_at hl 0 rfl) ?_
    refine lv_aload_n hx hb dX12_sawsOff_30 rfl (lv_at hl 1 rfl) ?_
    refine x_get C G fX12_298.g (wM_at0) rfl dX12_sawsOff_31 ?_
    refine x_get C G fX12_211.g (wM_at9) rfl dX12_sawsOff_34 ?_
    obtain ⟨x3, hrx3, hf⟩ := bd_go hf
    have Jx3 : ∀ (H : Heap) (locs : List Loc) (ls : Array Slot), xG s E A (wM E ad m_thrown m_trouble m_where m_rv m_tape m_taped m_size m_spot m_sort m_place m_number m_fault m_wrongAt m_word m_v m_x m_past m_kept m_acts m_images m_matchNow m_slopsNow m_matchesNow m_slopped m_seatBest m_fedBest m_slopsBest m_sawBest m_leastNow m_stableNow m_fitsNow m_someNow m_everyNow m_otherIn m_askLeft tb_seats tb_slack tb_saw tb_quarrel tb_people tb_pairs tb_forks tb_unsures tb_trieds tb_fed tb_seat tb_one tb_other tb_years tb_kind tb_unsure tb_may tb_tried tb_name) H locs → lv_has ls 3 [] → W p l e (xR 1 21) s m args below meth c H locs 0 0 (MQ below (xqV E A (wM E ad m_thrown m_trouble m_where m_rv m_tape m_taped m_size m_spot m_sort m_place m_number m_fault m_wrongAt m_word m_v R0 m_past m_kept m_acts m_images m_matchNow m_slopsNow m_matchesNow m_slopped m_seatBest m_fedBest m_slopsBest m_sawBest m_leastNow m_stableNow m_fitsNow m_someNow m_everyNow m_otherIn m_askLeft tb_seats tb_slack tb_saw tb_quarrel tb_people tb_pairs tb_forks tb_unsures tb_trieds tb_fed tb_seat tb_one tb_other tb_years tb_kind tb_unsure tb_may tb_tried tb_name)) args s 0 0 A) (F0 m 51 ls [.int x3, .int (m_x x2.toNatClampNeg), .int x2, .ref (ad 3)]) := by
      intro H locs ls G hl
      refine lv_iadd hx hb dX12_sawsOff_51 ?_
      have hi := ck_in hf
      have hf := ck_go hf
      refine x_iast (ws' := (wM E ad m_thrown m_trouble m_where m_rv m_tape m_taped m_size m_spot m_sort m_place m_number m_fault m_wrongAt m_word m_v (upd m_x x2.toNatClampNeg ((m_x x2.toNatClampNeg) + x3)) m_past m_kept m_acts m_images m_matchNow m_slopsNow m_matchesNow m_slopped m_seatBest m_fedBest m_slopsBest m_sawBest m_leastNow m_stableNow m_fitsNow m_someNow m_everyNow m_otherIn m_askLeft tb_seats tb_slack tb_saw tb_quarrel tb_people tb_pairs tb_forks tb_unsures tb_trieds tb_fed tb_seat tb_one tb_other tb_years tb_kind tb_unsure tb_may tb_tried tb_name)) C G (wM_at3) hi wM_set_m_x dX12_sawsOff_52 (fun H locs G => ?_)
      obtain rfl := Option.some.inj hf
      exact xV_ret C G dX12_sawsOff_53
    have hf := hrx3
    refine lv_icmp_ge (tgt := 44) hx hb dX12_sawsOff_37 (by decide) (fun h => ?_) (fun h => ?_)
    · have hf := it_t h hf
      refine lv_aload_n hx hb dX12_sawsOff_44 rfl (lv_at hl 1 rfl) ?_
      refine x_get C G fX12_298.g (wM_at0) rfl dX12_sawsOff_45 ?_
      refine x_get C G fX12_211.g (wM_at9) rfl dX12_sawsOff_48 ?_
      obtain rfl := Option.some.inj hf
      exact Jx3 _ _ _ G (lv_sub hl [] rfl)
    · have hf := it_f h hf
      refine lv_iload_n hx hb dX12_sawsOff_40 rfl (lv_at hl 0 rfl) ?_
      refine lv_goto (tgt := 51) hx hb dX12_sawsOff_41 (by decide) ?_
      obtain rfl := Option.some.inj hf
      exact Jx3 _ _ _ G (lv_sub hl [] rfl)
set_option maxHeartbeats 4000000 in
set_option maxRecDepth 100000 in
theorem c_M_yearOf_m_M {l : Launch} {E : xE} {ad : Nat → Nat} {m_thrown m_trouble m_where m_taped m_size m_spot m_sort m_place m_number m_fault m_wrongAt m_acts m_images m_matchNow m_slopsNow m_matchesNow m_fedBest m_slopsBest m_sawBest m_leastNow m_stableNow m_fitsNow m_someNow m_everyNow m_askLeft tb_seats tb_slack tb_saw tb_quarrel tb_people tb_pairs tb_forks tb_unsures tb_trieds tb_fed : Int32} {m_rv : Value} {m_tape m_v m_x m_past m_kept m_slopped m_seatBest m_otherIn tb_seat tb_one tb_other tb_years tb_kind tb_unsure tb_may tb_tried : Nat → Int32} {m_word : Int64} {tb_name : Nat → Int64} {l1 : Int32} {l2 : Int32} {R0 : (Nat → Int32)} (hf : f_M_yearOf l1 l2 m_x tb_saw = some R0) : xV l E yX12_yearOf cX12_yearOf 3 none 2 43 [.ref (ad 0), .int l1, .int l2] (wM E ad m_thrown m_trouble m_where m_rv m_tape m_taped m_size m_spot m_sort m_place m_number m_fault m_wrongAt m_word m_v m_x m_past m_kept m_acts m_images m_matchNow m_slopsNow m_matchesNow m_slopped m_seatBest m_fedBest m_slopsBest m_sawBest m_leastNow m_stableNow m_fitsNow m_someNow m_everyNow m_otherIn m_askLeft tb_seats tb_slack tb_saw tb_quarrel tb_people tb_pairs tb_forks tb_unsures tb_trieds tb_fed tb_seat tb_one tb_other tb_years tb_kind tb_unsure tb_may tb_tried tb_name) (wM E ad m_thrown m_trouble m_where m_rv m_tape m_taped m_size m_spot m_sort m_place m_number m_fault m_wrongAt m_word m_v R0 m_past m_kept m_acts m_images m_matchNow m_slopsNow m_matchesNow m_slopped m_seatBest m_fedBest m_slopsBest m_sawBest m_leastNow m_stableNow m_fitsNow m_someNow m_everyNow m_otherIn m_askLeft tb_seats tb_slack tb_saw tb_quarrel tb_people tb_pairs tb_forks tb_unsures tb_trieds tb_fed tb_seat tb_one tb_other tb_years tb_kind tb_unsure tb_may tb_tried tb_name) := by
  refine xV_of (by decide) (Nat.le_of_ble_eq_true rfl) (fun p e s m args below meth c A C ls hl G => ?_)
  have hx := C.1
  have hb := C.2.1
  have hl : lv_has ls 3 [(0, .ref (ad 0)), (1, .int l1), (2, .int l2)] := hl
  unfold f_M_yearOf at hf
  refine lv_aload_n hx hb dX12_yearOf_0 rfl (lv_at hl 0 rfl) ?_
  refine x_get C G fX12_21 (wM_at0) rfl dX12_yearOf_1 ?_
  refine lv_bipush (v := 25) hx hb dX12_yearOf_4 (by decide) ?_
  refine lv_iload_n hx hb dX12_yearOf_6 rfl (lv_at hl 1 rfl) ?_
  refine lv_iadd hx hb dX12_yearOf_7 ?_
  refine lv_topi (fun x1 ex1 => ?_)
  have hf := lt_go ex1 hf
  refine lv_dup2_11 hx hb dX12_yearOf_8 rfl rfl ?_
  have hi := ck_in hf
  have hf := ck_go hf
  refine x_iald C G (wM_at3) hi dX12_yearOf_9 ?_
  refine lv_iconst (v := 1) hx hb dX12_yearOf_10 (by decide) ?_
  refine lv_iadd hx hb dX12_yearOf_11 ?_
  have hi := ck_in hf
  have hf := ck_go hf
  refine x_iast (ws' := (wM E ad m_thrown m_trouble m_where m_rv m_tape m_taped m_size m_spot m_sort m_place m_number m_fault m_wrongAt m_word m_v (upd m_x x1.toNatClampNeg ((m_x x1.toNatClampNeg) + (1 : Int32))) m_past m_kept m_acts m_images m_matchNow m_slopsNow m_matchesNow m_slopped m_seatBest m_fedBest m_slopsBest m_sawBest m_leastNow m_stableNow m_fitsNow m_someNow m_everyNow m_otherIn m_askLeft tb_seats tb_slack tb_saw tb_quarrel tb_people tb_pairs tb_forks tb_unsures tb_trieds tb_fed tb_seat tb_one tb_other tb_years tb_kind tb_unsure tb_may tb_tried tb_name)) C G (wM_at3) hi wM_set_m_x dX12_yearOf_12 (fun H locs G => ?_)
  refine lv_iload_n hx hb dX12_yearOf_13 rfl (lv_at hl 2 rfl) ?_
  refine lv_if_eq (tgt := 22) hx hb dX12_yearOf_14 (by decide) (fun h => ?_) (fun h => ?_)
  · have hf := it_t h hf
    obtain rfl := Option.some.inj hf
    exact xV_ret C G dX12_yearOf_22
  · have hf := it_f h hf
    refine lv_aload_n hx hb dX12_yearOf_17 rfl (lv_at hl 0 rfl) ?_
    refine lv_iload_n hx hb dX12_yearOf_18 rfl (lv_at hl 1 rfl) ?_
    obtain ⟨x2, hc, hf⟩ := bd_go hf
    refine xV_V C G (c_M_sawsOff_m_M hc) mX12_sawsOff kX12_479 (wM_at0) rfl ⟨Nat.le_of_ble_eq_true rfl, Nat.le_of_ble_eq_true rfl⟩ rfl hl.1 rfl (Nat.le_of_ble_eq_true rfl) ⟨Nat.le_refl _, Nat.le_refl _⟩ dX12_yearOf_19 (fun H locs G => ?_)
    obtain rfl := Option.some.inj hf
    exact xV_ret C G dX12_yearOf_22
set_option maxHeartbeats 4000000 in
set_option maxRecDepth 100000 in
theorem w_M_partOf_m_M_L10 {p : Program} {l : Launch} {e : Env} {s : State} {m : MethodId} {args : Array Value} {below : List Frame} {meth : Method} {c : Code} {A : Nat → Prop} {E : xE} {Q : State → Prop} {ad : Nat → Nat} {m_thrown m_trouble m_where m_taped m_size m_spot m_sort m_place m_number m_fault m_wrongAt m_acts m_images m_matchNow m_slopsNow m_matchesNow m_fedBest m_slopsBest m_sawBest m_leastNow m_stableNow m_fitsNow m_someNow m_everyNow m_askLeft tb_seats tb_slack tb_saw tb_quarrel tb_people tb_pairs tb_forks tb_unsures tb_trieds tb_fed : Int32} {m_rv : Value} {m_tape m_v m_past m_kept m_slopped m_seatBest m_otherIn tb_seat tb_one tb_other tb_years tb_kind tb_unsure tb_may tb_tried : Nat → Int32} {m_word : Int64} {tb_name : Nat → Int64} {l1 : Int32} {l2 : Int32} {l3 : Int32} {o : Int64 × (Nat → Int32)} (C : xC p s m args meth c cX12_partOf 7 RX12 E A (some .long)) (J : ∀ (H : Heap) (locs : List Loc) (ls : Array Slot), xG s E A (wM E ad m_thrown m_trouble m_where m_rv m_tape m_taped m_size m_spot m_sort m_place m_number m_fault m_wrongAt m_word m_v o.2 m_past m_kept m_acts m_images m_matchNow m_slopsNow m_matchesNow m_slopped m_seatBest m_fedBest m_slopsBest m_sawBest m_leastNow m_stableNow m_fitsNow m_someNow m_everyNow m_otherIn m_askLeft tb_seats tb_slack tb_saw tb_quarrel tb_people tb_pairs tb_forks tb_unsures tb_trieds tb_fed tb_seat tb_one tb_other tb_years tb_kind tb_unsure tb_may tb_tried tb_name) H locs → lv_has ls 7 [(4, .long o.1)] → W p l e (xR 3 65) s m args below meth c H locs 0 0 Q (F0 m 69 ls [])) :
    ∀ (n : Nat) (l4 : Int64) (l6 : Int32) (m_x : Nat → Int32) (H : Heap) (locs : List Loc) (ls : Array Slot), xG s E A (wM E ad m_thrown m_trouble m_where m_rv m_tape m_taped m_size m_spot m_sort m_place m_number m_fault m_wrongAt m_word m_v m_x m_past m_kept m_acts m_images m_matchNow m_slopsNow m_matchesNow m_slopped m_seatBest m_fedBest m_slopsBest m_sawBest m_leastNow m_stableNow m_fitsNow m_someNow m_everyNow m_otherIn m_askLeft tb_seats tb_slack tb_saw tb_quarrel tb_people tb_pairs tb_forks tb_unsures tb_trieds tb_fed tb_seat tb_one tb_other tb_years tb_kind tb_unsure tb_may tb_tried tb_name) H locs → lv_has ls 7 [(0, .ref (ad 0)), (1, .int l1), (2, .int l2), (3, .int l3), (4, .long l4), (6, .int l6)] → f_M_partOf_L10 l1 l2 l3 tb_saw tb_quarrel n l4 l6 m_x = some o → W p l e (xR 3 65) s m args below meth c H locs 0 0 Q (F0 m 10 ls []) := by
  have hx := C.1
  have hb := C.2.1
  intro n
  induction n with
  | zero =>
    intro l4 l6 m_x H locs ls G hl hf
    exact nomatch (show (none : Option (Int64 × (Nat → Int32))) = some o from hf)
  | succ n ih =>
    intro l4 l6 m_x H locs ls G hl hf
    rw [f_M_partOf_L10] at hf
    refine lv_iload hx hb dX12_partOf_10 (lv_at hl 5 rfl) ?_
    refine lv_iload_n hx hb dX12_partOf_12 rfl (lv_at hl 2 rfl) ?_
    refine lv_icmp_ge (tgt := 69) hx hb dX12_partOf_13 (by decide) (fun h => ?_) (fun h => ?_)
    · have hf := it_t h hf
      obtain rfl := Option.some.inj hf
      exact J _ _ _ G (lv_sub hl [4] rfl)
    · have hf := it_f h hf
      refine lv_aload_n hx hb dX12_partOf_16 rfl (lv_at hl 0 rfl) ?_
      refine lv_iload_n hx hb dX12_partOf_17 rfl (lv_at hl 1 rfl) ?_
      refine lv_iload_n hx hb dX12_partOf_18 rfl (lv_at hl 3 rfl) ?_
      refine lv_iload hx hb dX12_partOf_19 (lv_at hl 5 rfl) ?_
      obtain ⟨x2, hc, hf⟩ := bd_go hf
      refine xI_S C G (c_M_bit_any hc) mX12_bit kX12_237 ⟨Nat.le_of_ble_eq_true rfl, Nat.le_of_ble_eq_true rfl⟩ rfl hl.1 rfl (Nat.le_of_ble_eq_true rfl) ⟨Nat.le_refl _, Nat.le_refl _⟩ dX12_partOf_21 (fun hz2 H locs G => ?_)
      obtain ⟨x3, hc, hf⟩ := bd_go hf
      refine xV_V C G (c_M_yearOf_m_M hc) mX12_yearOf kX12_482 (wM_at0) rfl ⟨Nat.le_of_ble_eq_true rfl, Nat.le_of_ble_eq_true rfl⟩ rfl hl.1 rfl (Nat.le_of_ble_eq_true rfl) ⟨Nat.le_refl _, Nat.le_refl _⟩ dX12_partOf_24 (fun H locs G => ?_)
      refine lv_lload hx hb dX12_partOf_27 (lv_at hl 4 rfl) ?_
      refine lv_iload_n hx hb dX12_partOf_29 rfl (lv_at hl 3 rfl) ?_
      refine lv_iload hx hb dX12_partOf_30 (lv_at hl 5 rfl) ?_
      obtain ⟨x4, hc, hf⟩ := bd_go hf
      refine xI_S C G (c_M_bit_any hc) mX12_bit kX12_237 ⟨Nat.le_of_ble_eq_true rfl, Nat.le_of_ble_eq_true rfl⟩ rfl hl.1 rfl (Nat.le_of_ble_eq_true rfl) ⟨Nat.le_refl _, Nat.le_refl _⟩ dX12_partOf_32 (fun hz4 H locs G => ?_)
      obtain ⟨x5, hrx5, hf⟩ := bd_go hf
      have Jx5 : ∀ (H : Heap) (locs : List Loc) (ls : Array Slot), xG s E A (wM E ad m_thrown m_trouble m_where m_rv m_tape m_taped m_size m_spot m_sort m_place m_number m_fault m_wrongAt m_word m_v x3 m_past m_kept m_acts m_images m_matchNow m_slopsNow m_matchesNow m_slopped m_seatBest m_fedBest m_slopsBest m_sawBest m_leastNow m_stableNow m_fitsNow m_someNow m_everyNow m_otherIn m_askLeft tb_seats tb_slack tb_saw tb_quarrel tb_people tb_pairs tb_forks tb_unsures tb_trieds tb_fed tb_seat tb_one tb_other tb_years tb_kind tb_unsure tb_may tb_tried tb_name) H locs → lv_has ls 7 [(0, .ref (ad 0)), (1, .int l1), (2, .int l2), (3, .int l3), (6, .int l6)] → W p l e (xR 3 65) s m args below meth c H locs 0 0 Q (F0 m 60 ls [.long x5, .long l4]) := by
        intro H locs ls G hl
        refine lv_lmul hx hb dX12_partOf_60 ?_
        refine lv_topl (fun x6 ex6 => ?_)
        have hf := lt_go ex6 hf
        refine lv_lstore (lv' := [(4, .long x6), (0, .ref (ad 0)), (1, .int l1), (2, .int l2), (3, .int l3), (6, .int l6)]) hx hb dX12_partOf_61 hl (by decide) rfl (fun ls hl => ?_)
        obtain ⟨x7, ex7⟩ : ∃ z : Int32, z = l6 + (1 : Int32) := ⟨_, rfl⟩
        have hf := lt_go ex7 hf
        refine lv_iinc (v := x7) (lv' := [(6, .int x7), (4, .long x6), (0, .ref (ad 0)), (1, .int l1), (2, .int l2), (3, .int l3)]) hx hb dX12_partOf_63 hl (k := 5) rfl (by rw [ex7]; rfl) (by decide) rfl (fun ls hl => ?_)
        refine lv_goto (tgt := 10) hx hb dX12_partOf_66 (by decide) ?_
        exact ih x6 x7 x3 _ _ _ G (lv_sub hl [2, 3, 4, 5, 1, 0] rfl) hf
      have hf := hrx5
      refine lv_if_eq (tgt := 49) hx hb dX12_partOf_35 (by decide) (fun h => ?_) (fun h => ?_)
      · have hf := it_t h hf
        refine lv_bipush (v := 100) hx hb dX12_partOf_49 (by decide) ?_
        refine lv_aload_n hx hb dX12_partOf_51 rfl (lv_at hl 0 rfl) ?_
        refine x_get C G fX12_298.g (wM_at0) rfl dX12_partOf_52 ?_
        refine x_get C G fX12_213.g (wM_at9) rfl dX12_partOf_55 ?_
        refine lv_isub hx hb dX12_partOf_58 ?_
        refine lv_i2l hx hb dX12_partOf_59 rfl ?_
        obtain rfl := Option.some.inj hf
        exact Jx5 _ _ _ G (lv_sub hl [0, 1, 2, 3, 5] rfl)
      · have hf := it_f h hf
        refine lv_aload_n hx hb dX12_partOf_38 rfl (lv_at hl 0 rfl) ?_
        refine x_get C G fX12_298.g (wM_at0) rfl dX12_partOf_39 ?_
        refine x_get C G fX12_213.g (wM_at9) rfl dX12_partOf_42 ?_
        refine lv_i2l hx hb dX12_partOf_45 rfl ?_
        refine lv_goto (tgt := 60) hx hb dX12_partOf_46 (by decide) ?_
        obtain rfl := Option.some.inj hf
        exact Jx5 _ _ _ G (lv_sub hl [0, 1, 2, 3, 5] rfl)
set_option maxHeartbeats 4000000 in
set_option maxRecDepth 100000 in
theorem c_M_partOf_m_M {l : Launch} {E : xE} {ad : Nat → Nat} {m_thrown m_trouble m_where m_taped m_size m_spot m_sort m_place m_number m_fault m_wrongAt m_acts m_images m_matchNow m_slopsNow m_matchesNow m_fedBest m_slopsBest m_sawBest m_leastNow m_stableNow m_fitsNow m_someNow m_everyNow m_askLeft tb_seats tb_slack tb_saw tb_quarrel tb_people tb_pairs tb_forks tb_unsures tb_trieds tb_fed : Int32} {m_rv : Value} {m_tape m_v m_x m_past m_kept m_slopped m_seatBest m_otherIn tb_seat tb_one tb_other tb_years tb_kind tb_unsure tb_may tb_tried : Nat → Int32} {m_word : Int64} {tb_name : Nat → Int64} {l1 : Int32} {l2 : Int32} {l3 : Int32} {R0 : Int64 × (Nat → Int32)} (hf : f_M_partOf l1 l2 l3 m_v m_x tb_saw tb_quarrel = some R0) : xL l E yX12_partOf cX12_partOf 7 (some .long) 3 65 [.ref (ad 0), .int l1, .int l2, .int l3] (wM E ad m_thrown m_trouble m_where m_rv m_tape m_taped m_size m_spot m_sort m_place m_number m_fault m_wrongAt m_word m_v m_x m_past m_kept m_acts m_images m_matchNow m_slopsNow m_matchesNow m_slopped m_seatBest m_fedBest m_slopsBest m_sawBest m_leastNow m_stableNow m_fitsNow m_someNow m_everyNow m_otherIn m_askLeft tb_seats tb_slack tb_saw tb_quarrel tb_people tb_pairs tb_forks tb_unsures tb_trieds tb_fed tb_seat tb_one tb_other tb_years tb_kind tb_unsure tb_may tb_tried tb_name) (wM E ad m_thrown m_trouble m_where m_rv m_tape m_taped m_size m_spot m_sort m_place m_number m_fault m_wrongAt m_word m_v R0.2 m_past m_kept m_acts m_images m_matchNow m_slopsNow m_matchesNow m_slopped m_seatBest m_fedBest m_slopsBest m_sawBest m_leastNow m_stableNow m_fitsNow m_someNow m_everyNow m_otherIn m_askLeft tb_seats tb_slack tb_saw tb_quarrel tb_people tb_pairs tb_forks tb_unsures tb_trieds tb_fed tb_seat tb_one tb_other tb_years tb_kind tb_unsure tb_may tb_tried tb_name) R0.1 := by
  refine xL_of (by decide) (Nat.le_of_ble_eq_true rfl) (fun p e s m args below meth c A C ls hl G => ?_)
  have hx := C.1
  have hb := C.2.1
  have hl : lv_has ls 7 [(0, .ref (ad 0)), (1, .int l1), (2, .int l2), (3, .int l3)] := hl
  unfold f_M_partOf at hf
  refine lv_lconst (v := 1) hx hb dX12_partOf_0 (by decide) ?_
  refine lv_lstore (lv' := [(4, .long (1 : Int64)), (0, .ref (ad 0)), (1, .int l1), (2, .int l2), (3, .int l3)]) hx hb dX12_partOf_1 hl (by decide) rfl (fun ls hl => ?_)
  refine lv_aload_n hx hb dX12_partOf_3 rfl (lv_at hl 1 rfl) ?_
  obtain ⟨x1, hc, hf⟩ := bd_go hf
  refine xV_V C G (c_M_works_m_M hc) mX12_works kX12_333 (wM_at0) rfl ⟨Nat.le_of_ble_eq_true rfl, Nat.le_of_ble_eq_true rfl⟩ rfl hl.1 rfl (Nat.le_of_ble_eq_true rfl) ⟨Nat.le_refl _, Nat.le_refl _⟩ dX12_partOf_4 (fun H locs G => ?_)
  refine lv_iconst (v := 0) hx hb dX12_partOf_7 (by decide) ?_
  refine lv_istore (lv' := [(6, .int (0 : Int32)), (4, .long (1 : Int64)), (0, .ref (ad 0)), (1, .int l1), (2, .int l2), (3, .int l3)]) hx hb dX12_partOf_8 hl (by decide) rfl (fun ls hl => ?_)
  obtain ⟨x8, hr, hf⟩ := bd_go hf
  have Jx8 : ∀ (H : Heap) (locs : List Loc) (ls : Array Slot), xG s E A (wM E ad m_thrown m_trouble m_where m_rv m_tape m_taped m_size m_spot m_sort m_place m_number m_fault m_wrongAt m_word m_v x8.2 m_past m_kept m_acts m_images m_matchNow m_slopsNow m_matchesNow m_slopped m_seatBest m_fedBest m_slopsBest m_sawBest m_leastNow m_stableNow m_fitsNow m_someNow m_everyNow m_otherIn m_askLeft tb_seats tb_slack tb_saw tb_quarrel tb_people tb_pairs tb_forks tb_unsures tb_trieds tb_fed tb_seat tb_one tb_other tb_years tb_kind tb_unsure tb_may tb_tried tb_name) H locs → lv_has ls 7 [(4, .long x8.1)] → W p l e (xR 3 65) s m args below meth c H locs 0 0 (MQ below (xqL E A (wM E ad m_thrown m_trouble m_where m_rv m_tape m_taped m_size m_spot m_sort m_place m_number m_fault m_wrongAt m_word m_v R0.2 m_past m_kept m_acts m_images m_matchNow m_slopsNow m_matchesNow m_slopped m_seatBest m_fedBest m_slopsBest m_sawBest m_leastNow m_stableNow m_fitsNow m_someNow m_everyNow m_otherIn m_askLeft tb_seats tb_slack tb_saw tb_quarrel tb_people tb_pairs tb_forks tb_unsures tb_trieds tb_fed tb_seat tb_one tb_other tb_years tb_kind tb_unsure tb_may tb_tried tb_name) R0.1) args s 0 0 A) (F0 m 69 ls []) := by
    intro H locs ls G hl
    refine lv_lload hx hb dX12_partOf_69 (lv_at hl 0 rfl) ?_
    obtain rfl := Option.some.inj hf
    exact xL_ret C G dX12_partOf_71
  exact w_M_partOf_m_M_L10 C Jx8 fu _ _ _ _ _ _ G (lv_sub hl [2, 3, 4, 5, 1, 0] rfl) hr
set_option maxHeartbeats 4000000 in
set_option maxRecDepth 100000 in
theorem w_M_whole_any_L4 {p : Program} {l : Launch} {e : Env} {s : State} {m : MethodId} {args : Array Value} {below : List Frame} {meth : Method} {c : Code} {A : Nat → Prop} {E : xE} {Q : State → Prop} {ws : va_W} {l0 : Int32} {o : Int64} (C : xC p s m args meth c cX12_whole 4 RX12 E A (some .long)) (J : ∀ (H : Heap) (locs : List Loc) (ls : Array Slot), xG s E A ws H locs → lv_has ls 4 [(1, .long o)] → W p l e (xR 0 0) s m args below meth c H locs 0 0 Q (F0 m 21 ls [])) :
    ∀ (n : Nat) (l1 : Int64) (l3 : Int32) (H : Heap) (locs : List Loc) (ls : Array Slot), xG s E A ws H locs → lv_has ls 4 [(0, .int l0), (1, .long l1), (3, .int l3)] → f_M_whole_L4 l0 n l1 l3 = some o → W p l e (xR 0 0) s m args below meth c H locs 0 0 Q (F0 m 4 ls []) := by
  have hx := C.1
  have hb := C.2.1
  intro n
  induction n with
  | zero =>
    intro l1 l3 H locs ls G hl hf
    exact nomatch (show (none : Option (Int64)) = some o from hf)
  | succ n ih =>
    intro l1 l3 H locs ls G hl hf
    rw [f_M_whole_L4] at hf
    refine lv_iload_n hx hb dX12_whole_4 rfl (lv_at hl 2 rfl) ?_
    refine lv_iload_n hx hb dX12_whole_5 rfl (lv_at hl 0 rfl) ?_
    refine lv_icmp_ge (tgt := 21) hx hb dX12_whole_6 (by decide) (fun h => ?_) (fun h => ?_)
    · have hf := it_t h hf
      obtain rfl := Option.some.inj hf
      exact J _ _ _ G (lv_sub hl [1] rfl)
    · have hf := it_f h hf
      refine lv_lload_n hx hb dX12_whole_9 rfl (lv_at hl 1 rfl) ?_
      refine lv_ldc2 hx hb C.2.2.2.1 (C.2.2.2.2.1 _ qX12_486) dX12_whole_10 ?_
      refine lv_lmul hx hb dX12_whole_13 ?_
      refine lv_topl (fun x1 ex1 => ?_)
      have hf := lt_go ex1 hf
      refine lv_lstore_n (lv' := [(1, .long x1), (0, .int l0), (3, .int l3)]) hx hb dX12_whole_14 rfl hl (by decide) rfl (fun ls hl => ?_)
      obtain ⟨x2, ex2⟩ : ∃ z : Int32, z = l3 + (1 : Int32) := ⟨_, rfl⟩
      have hf := lt_go ex2 hf
      refine lv_iinc (v := x2) (lv' := [(3, .int x2), (1, .long x1), (0, .int l0)]) hx hb dX12_whole_15 hl (k := 2) rfl (by rw [ex2]; rfl) (by decide) rfl (fun ls hl => ?_)
      refine lv_goto (tgt := 4) hx hb dX12_whole_18 (by decide) ?_
      exact ih x1 x2 _ _ _ G (lv_sub hl [2, 1, 0] rfl) hf
set_option maxHeartbeats 4000000 in
set_option maxRecDepth 100000 in
theorem c_M_whole_any {l : Launch} {E : xE} {ws : va_W} {l0 : Int32} {R0 : Int64} (hf : f_M_whole l0 = some R0) : xL l E yX12_whole cX12_whole 4 (some .long) 0 0 [.int l0] ws ws R0 := by
  refine xL_of (by decide) (Nat.le_of_ble_eq_true rfl) (fun p e s m args below meth c A C ls hl G => ?_)
  have hx := C.1
  have hb := C.2.1
  have hl : lv_has ls 4 [(0, .int l0)] := hl
  unfold f_M_whole at hf
  refine lv_lconst (v := 1) hx hb dX12_whole_0 (by decide) ?_
  refine lv_lstore_n (lv' := [(1, .long (1 : Int64)), (0, .int l0)]) hx hb dX12_whole_1 rfl hl (by decide) rfl (fun ls hl => ?_)
  refine lv_iconst (v := 0) hx hb dX12_whole_2 (by decide) ?_
  refine lv_istore_n (lv' := [(3, .int (0 : Int32)), (1, .long (1 : Int64)), (0, .int l0)]) hx hb dX12_whole_3 rfl hl (by decide) rfl (fun ls hl => ?_)
  obtain ⟨x3, hr, hf⟩ := bd_go hf
  have Jx3 : ∀ (H : Heap) (locs : List Loc) (ls : Array Slot), xG s E A ws H locs → lv_has ls 4 [(1, .long x3)] → W p l e (xR 0 0) s m args below meth c H locs 0 0 (MQ below (xqL E A ws R0) args s 0 0 A) (F0 m 21 ls []) := by
    intro H locs ls G hl
    refine lv_lload_n hx hb dX12_whole_21 rfl (lv_at hl 0 rfl) ?_
    obtain rfl := Option.some.inj hf
    exact xL_ret C G dX12_whole_22
  exact w_M_whole_any_L4 C Jx3 fu _ _ _ _ _ G (lv_sub hl [2, 1, 0] rfl) hr
set_option maxHeartbeats 4000000 in
set_option maxRecDepth 100000 in
theorem w_M_common_any_L6 {p : Program} {l : Launch} {e : Env} {s : State} {m : MethodId} {args : Array Value} {below : List Frame} {meth : Method} {c : Code} {A : Nat → Prop} {E : xE} {Q : State → Prop} {ws : va_W} {o : Int64} (C : xC p s m args meth c cX12_common 10 RX12 E A (some .long)) (J : ∀ (H : Heap) (locs : List Loc) (ls : Array Slot), xG s E A ws H locs → lv_has ls 10 [(4, .long o)] → W p l e (xR 0 0) s m args below meth c H locs 0 0 Q (F0 m 31 ls [])) :
    ∀ (n : Nat) (l4 : Int64) (l6 : Int64) (H : Heap) (locs : List Loc) (ls : Array Slot), xG s E A ws H locs → lv_has ls 10 [(4, .long l4), (6, .long l6)] → f_M_common_L6 n l4 l6 = some o → W p l e (xR 0 0) s m args below meth c H locs 0 0 Q (F0 m 6 ls []) := by
  have hx := C.1
  have hb := C.2.1
  intro n
  induction n with
  | zero =>
    intro l4 l6 H locs ls G hl hf
    exact nomatch (show (none : Option (Int64)) = some o from hf)
  | succ n ih =>
    intro l4 l6 H locs ls G hl hf
    rw [f_M_common_L6] at hf
    refine lv_lload hx hb dX12_common_6 (lv_at hl 1 rfl) ?_
    refine lv_lconst (v := 0) hx hb dX12_common_8 (by decide) ?_
    refine W.lcmp hx hb dX12_common_9 ?_
    refine lv_if_eq (tgt := 31) hx hb dX12_common_10 (by decide) (fun h => ?_) (fun h => ?_)
    · have hf := it_t h hf
      obtain rfl := Option.some.inj hf
      exact J _ _ _ G (lv_sub hl [0] rfl)
    · have hf := it_f h hf
      refine lv_lload hx hb dX12_common_13 (lv_at hl 0 rfl) ?_
      refine lv_lload hx hb dX12_common_15 (lv_at hl 1 rfl) ?_
      have hi := nzL_ne hf
      have hf := nzL_go hf
      refine lv_lrem hx hb dX12_common_17 hi ?_
      refine lv_topl (fun x1 ex1 => ?_)
      have hf := lt_go ex1 hf
      refine lv_lstore (lv' := [(8, .long x1), (4, .long l4), (6, .long l6)]) hx hb dX12_common_18 hl (by decide) rfl (fun ls hl => ?_)
      refine lv_lload hx hb dX12_common_20 (lv_at hl 2 rfl) ?_
      refine lv_lstore (lv' := [(4, .long l6), (8, .long x1), (6, .long l6)]) hx hb dX12_common_22 hl (by decide) rfl (fun ls hl => ?_)
      refine lv_lload hx hb dX12_common_24 (lv_at hl 1 rfl) ?_
      refine lv_lstore (lv' := [(6, .long x1), (4, .long l6), (8, .long x1)]) hx hb dX12_common_26 hl (by decide) rfl (fun ls hl => ?_)
      refine lv_goto (tgt := 6) hx hb dX12_common_28 (by decide) ?_
      exact ih l6 x1 _ _ _ G (lv_sub hl [1, 0] rfl) hf
set_option maxHeartbeats 4000000 in
set_option maxRecDepth 100000 in
theorem c_M_common_any {l : Launch} {E : xE} {ws : va_W} {l0 : Int64} {l2 : Int64} {R0 : Int64} (hf : f_M_common l0 l2 = some R0) : xL l E yX12_common cX12_common 10 (some .long) 0 0 [.long l0, .long l2] ws ws R0 := by
  refine xL_of (by decide) (Nat.le_of_ble_eq_true rfl) (fun p e s m args below meth c A C ls hl G => ?_)
  have hx := C.1
  have hb := C.2.1
  have hl : lv_has ls 10 [(0, .long l0), (2, .long l2)] := hl
  unfold f_M_common at hf
  refine lv_lload_n hx hb dX12_common_0 rfl (lv_at hl 0 rfl) ?_
  refine lv_lstore (lv' := [(4, .long l0), (0, .long l0), (2, .long l2)]) hx hb dX12_common_1 hl (by decide) rfl (fun ls hl => ?_)
  refine lv_lload_n hx hb dX12_common_3 rfl (lv_at hl 2 rfl) ?_
  refine lv_lstore (lv' := [(6, .long l2), (4, .long l0), (0, .long l0), (2, .long l2)]) hx hb dX12_common_4 hl (by decide) rfl (fun ls hl => ?_)
  obtain ⟨x2, hr, hf⟩ := bd_go hf
  have Jx2 : ∀ (H : Heap) (locs : List Loc) (ls : Array Slot), xG s E A ws H locs → lv_has ls 10 [(4, .long x2)] → W p l e (xR 0 0) s m args below meth c H locs 0 0 (MQ below (xqL E A ws R0) args s 0 0 A) (F0 m 31 ls []) := by
    intro H locs ls G hl
    refine lv_lload hx hb dX12_common_31 (lv_at hl 0 rfl) ?_
    obtain rfl := Option.some.inj hf
    exact xL_ret C G dX12_common_33
  exact w_M_common_any_L6 C Jx2 fu _ _ _ _ _ G (lv_sub hl [1, 0] rfl) hr
set_option maxHeartbeats 4000000 in
set_option maxRecDepth 100000 in
theorem c_M_fraction_m_M {l : Launch} {E : xE} {ad : Nat → Nat} {m_thrown m_trouble m_where m_taped m_size m_spot m_sort m_place m_number m_fault m_wrongAt m_acts m_images m_matchNow m_slopsNow m_matchesNow m_fedBest m_slopsBest m_sawBest m_leastNow m_stableNow m_fitsNow m_someNow m_everyNow m_askLeft tb_seats tb_slack tb_saw tb_quarrel tb_people tb_pairs tb_forks tb_unsures tb_trieds tb_fed : Int32} {m_rv : Value} {m_tape m_v m_x m_past m_kept m_slopped m_seatBest m_otherIn tb_seat tb_one tb_other tb_years tb_kind tb_unsure tb_may tb_tried : Nat → Int32} {m_word : Int64} {tb_name : Nat → Int64} {l1 : Int64} {l3 : Int64} {l5 : Int32} {R0 : Int64 × Int32 × Int32} (hf : f_M_fraction l1 l3 l5 = some R0) : xL l E yX12_fraction cX12_fraction 6 (some .long) 1 29 [.ref (ad 0), .long l1, .long l3, .int l5] (wM E ad m_thrown m_trouble m_where m_rv m_tape m_taped m_size m_spot m_sort m_place m_number m_fault m_wrongAt m_word m_v m_x m_past m_kept m_acts m_images m_matchNow m_slopsNow m_matchesNow m_slopped m_seatBest m_fedBest m_slopsBest m_sawBest m_leastNow m_stableNow m_fitsNow m_someNow m_everyNow m_otherIn m_askLeft tb_seats tb_slack tb_saw tb_quarrel tb_people tb_pairs tb_forks tb_unsures tb_trieds tb_fed tb_seat tb_one tb_other tb_years tb_kind tb_unsure tb_may tb_tried tb_name) (wM E ad m_thrown R0.2.1 R0.2.2 m_rv m_tape m_taped m_size m_spot m_sort m_place m_number m_fault m_wrongAt m_word m_v m_x m_past m_kept m_acts m_images m_matchNow m_slopsNow m_matchesNow m_slopped m_seatBest m_fedBest m_slopsBest m_sawBest m_leastNow m_stableNow m_fitsNow m_someNow m_everyNow m_otherIn m_askLeft tb_seats tb_slack tb_saw tb_quarrel tb_people tb_pairs tb_forks tb_unsures tb_trieds tb_fed tb_seat tb_one tb_other tb_years tb_kind tb_unsure tb_may tb_tried tb_name) R0.1 := by
  refine xL_of (by decide) (Nat.le_of_ble_eq_true rfl) (fun p e s m args below meth c A C ls hl G => ?_)
  have hx := C.1
  have hb := C.2.1
  have hl : lv_has ls 6 [(0, .ref (ad 0)), (1, .long l1), (3, .long l3), (5, .int l5)] := hl
  unfold f_M_fraction at hf
  refine lv_aload_n hx hb dX12_fraction_0 rfl (lv_at hl 0 rfl) ?_
  refine lv_iconst (v := 0) hx hb dX12_fraction_1 (by decide) ?_
  obtain ⟨x1, hc, hf⟩ := bd_go hf
  refine xI_V C G (c_M_good_m_M hc) mX12_good kX12_49 (wM_at0) rfl ⟨Nat.le_of_ble_eq_true rfl, Nat.le_of_ble_eq_true rfl⟩ rfl hl.1 rfl (Nat.le_of_ble_eq_true rfl) ⟨Nat.le_refl _, Nat.le_refl _⟩ dX12_fraction_2 (fun hz H locs G => ?_)
  refine lv_pop hx hb dX12_fraction_5 rfl ?_
  refine lv_iload hx hb dX12_fraction_6 (lv_at hl 3 rfl) ?_
  obtain ⟨x2, hrx2, hf⟩ := bd_go hf
  have Jx2 : ∀ (H : Heap) (locs : List Loc) (ls : Array Slot), xG s E A (wM E ad m_thrown x1.2.1 x1.2.2 m_rv m_tape m_taped m_size m_spot m_sort m_place m_number m_fault m_wrongAt m_word m_v m_x m_past m_kept m_acts m_images m_matchNow m_slopsNow m_matchesNow m_slopped m_seatBest m_fedBest m_slopsBest m_sawBest m_leastNow m_stableNow m_fitsNow m_someNow m_everyNow m_otherIn m_askLeft tb_seats tb_slack tb_saw tb_quarrel tb_people tb_pairs tb_forks tb_unsures tb_trieds tb_fed tb_seat tb_one tb_other tb_years tb_kind tb_unsure tb_may tb_tried tb_name) H locs → lv_has ls 6 [(1, .long l1), (3, .long l3)] → W p l e (xR 1 29) s m args below meth c H locs 0 0 (MQ below (xqL E A (wM E ad m_thrown R0.2.1 R0.2.2 m_rv m_tape m_taped m_size m_spot m_sort m_place m_number m_fault m_wrongAt m_word m_v m_x m_past m_kept m_acts m_images m_matchNow m_slopsNow m_matchesNow m_slopped m_seatBest m_fedBest m_slopsBest m_sawBest m_leastNow m_stableNow m_fitsNow m_someNow m_everyNow m_otherIn m_askLeft tb_seats tb_slack tb_saw tb_quarrel tb_people tb_pairs tb_forks tb_unsures tb_trieds tb_fed tb_seat tb_one tb_other tb_years tb_kind tb_unsure tb_may tb_tried tb_name) R0.1) args s 0 0 A) (F0 m 16 ls [.long x2]) := by
    intro H locs ls G hl
    refine lv_lload_n hx hb dX12_fraction_16 rfl (lv_at hl 0 rfl) ?_
    refine lv_lload_n hx hb dX12_fraction_17 rfl (lv_at hl 1 rfl) ?_
    obtain ⟨x3, hc, hf⟩ := bd_go hf
    refine xL_S C G (c_M_common_any hc) mX12_common kX12_52 ⟨Nat.le_of_ble_eq_true rfl, Nat.le_of_ble_eq_true rfl⟩ rfl hl.1 rfl (Nat.le_of_ble_eq_true rfl) ⟨Nat.le_refl _, Nat.le_refl _⟩ dX12_fraction_18 (fun H locs G => ?_)
    have hi := nzL_ne hf
    have hf := nzL_go hf
    refine lv_ldiv hx hb dX12_fraction_21 hi ?_
    obtain rfl := Option.some.inj hf
    exact xL_ret C G dX12_fraction_22
  have hf := hrx2
  refine lv_if_eq (tgt := 15) hx hb dX12_fraction_8 (by decide) (fun h => ?_) (fun h => ?_)
  · have hf := it_t h hf
    refine lv_lload_n hx hb dX12_fraction_15 rfl (lv_at hl 1 rfl) ?_
    obtain rfl := Option.some.inj hf
    exact Jx2 _ _ _ G (lv_sub hl [1, 2] rfl)
  · have hf := it_f h hf
    refine lv_lload_n hx hb dX12_fraction_11 rfl (lv_at hl 2 rfl) ?_
    refine lv_goto (tgt := 16) hx hb dX12_fraction_12 (by decide) ?_
    obtain rfl := Option.some.inj hf
    exact Jx2 _ _ _ G (lv_sub hl [1, 2] rfl)
set_option maxHeartbeats 4000000 in
set_option maxRecDepth 100000 in
theorem w_M_odds_m_M_L32 {p : Program} {l : Launch} {e : Env} {s : State} {m : MethodId} {args : Array Value} {below : List Frame} {meth : Method} {c : Code} {A : Nat → Prop} {E : xE} {Q : State → Prop} {ad : Nat → Nat} {m_thrown m_trouble m_where m_taped m_size m_spot m_sort m_place m_number m_fault m_wrongAt m_acts m_images m_matchNow m_slopsNow m_matchesNow m_fedBest m_slopsBest m_sawBest m_leastNow m_stableNow m_fitsNow m_someNow m_everyNow m_askLeft tb_seats tb_slack tb_saw tb_quarrel tb_people tb_pairs tb_forks tb_unsures tb_trieds tb_fed : Int32} {m_rv : Value} {m_tape m_v m_past m_kept m_slopped m_seatBest m_otherIn tb_seat tb_one tb_other tb_years tb_kind tb_unsure tb_may tb_tried : Nat → Int32} {m_word : Int64} {tb_name : Nat → Int64} {l1 : Int32} {l2 : Int32} {l3 : Int32} {o : Int64 × (Nat → Int32)} (C : xC p s m args meth c cX12_odds 10 RX12 E A (some .long)) (J : ∀ (H : Heap) (locs : List Loc) (ls : Array Slot), xG s E A (wM E ad m_thrown m_trouble m_where m_rv m_tape m_taped m_size m_spot m_sort m_place m_number m_fault m_wrongAt m_word m_v o.2 m_past m_kept m_acts m_images m_matchNow m_slopsNow m_matchesNow m_slopped m_seatBest m_fedBest m_slopsBest m_sawBest m_leastNow m_stableNow m_fitsNow m_someNow m_everyNow m_otherIn m_askLeft tb_seats tb_slack tb_saw tb_quarrel tb_people tb_pairs tb_forks tb_unsures tb_trieds tb_fed tb_seat tb_one tb_other tb_years tb_kind tb_unsure tb_may tb_tried tb_name) H locs → lv_has ls 10 [(0, .ref (ad 0)), (2, .int l2), (3, .int l3), (5, .long o.1)] → W p l e (xR 4 91) s m args below meth c H locs 0 0 Q (F0 m 75 ls [])) :
    ∀ (n : Nat) (l5 : Int64) (l7 : Int32) (m_x : Nat → Int32) (H : Heap) (locs : List Loc) (ls : Array Slot), xG s E A (wM E ad m_thrown m_trouble m_where m_rv m_tape m_taped m_size m_spot m_sort m_place m_number m_fault m_wrongAt m_word m_v m_x m_past m_kept m_acts m_images m_matchNow m_slopsNow m_matchesNow m_slopped m_seatBest m_fedBest m_slopsBest m_sawBest m_leastNow m_stableNow m_fitsNow m_someNow m_everyNow m_otherIn m_askLeft tb_seats tb_slack tb_saw tb_quarrel tb_people tb_pairs tb_forks tb_unsures tb_trieds tb_fed tb_seat tb_one tb_other tb_years tb_kind tb_unsure tb_may tb_tried tb_name) H locs → lv_has ls 10 [(0, .ref (ad 0)), (1, .int l1), (2, .int l2), (3, .int l3), (5, .long l5), (7, .int l7)] → f_M_odds_L32 l1 l2 m_v tb_slack tb_saw tb_quarrel n l5 l7 m_x = some o → W p l e (xR 4 91) s m args below meth c H locs 0 0 Q (F0 m 32 ls []) := by
  have hx := C.1
  have hb := C.2.1
  intro n
  induction n with
  | zero =>
    intro l5 l7 m_x H locs ls G hl hf
    exact nomatch (show (none : Option (Int64 × (Nat → Int32))) = some o from hf)
  | succ n ih =>
    intro l5 l7 m_x H locs ls G hl hf
    rw [f_M_odds_L32] at hf
    refine lv_iload hx hb dX12_odds_32 (lv_at hl 5 rfl) ?_
    refine lv_iconst (v := 1) hx hb dX12_odds_34 (by decide) ?_
    refine lv_iload_n hx hb dX12_odds_35 rfl (lv_at hl 2 rfl) ?_
    refine lv_ishl hx hb dX12_odds_36 ?_
    refine lv_icmp_ge (tgt := 75) hx hb dX12_odds_37 (by decide) (fun h => ?_) (fun h => ?_)
    · have hf := it_t h hf
      obtain rfl := Option.some.inj hf
      exact J _ _ _ G (lv_sub hl [0, 2, 3, 4] rfl)
    · have hf := it_f h hf
      refine lv_aload_n hx hb dX12_odds_40 rfl (lv_at hl 0 rfl) ?_
      refine lv_iload_n hx hb dX12_odds_41 rfl (lv_at hl 1 rfl) ?_
      refine lv_iload_n hx hb dX12_odds_42 rfl (lv_at hl 2 rfl) ?_
      refine lv_iload hx hb dX12_odds_43 (lv_at hl 5 rfl) ?_
      obtain ⟨x2, hc, hf⟩ := bd_go hf
      refine xL_V C G (c_M_partOf_m_M hc) mX12_partOf kX12_491 (wM_at0) rfl ⟨Nat.le_of_ble_eq_true rfl, Nat.le_of_ble_eq_true rfl⟩ rfl hl.1 rfl (Nat.le_of_ble_eq_true rfl) ⟨Nat.le_refl _, Nat.le_refl _⟩ dX12_odds_45 (fun H locs G => ?_)
      refine lv_lstore (lv' := [(8, .long x2.1), (0, .ref (ad 0)), (1, .int l1), (2, .int l2), (3, .int l3), (5, .long l5), (7, .int l7)]) hx hb dX12_odds_48 hl (by decide) rfl (fun ls hl => ?_)
      refine lv_lload hx hb dX12_odds_50 (lv_at hl 5 rfl) ?_
      refine lv_aload_n hx hb dX12_odds_52 rfl (lv_at hl 1 rfl) ?_
      refine lv_iload_n hx hb dX12_odds_53 rfl (lv_at hl 2 rfl) ?_
      obtain ⟨x3, hc, hf⟩ := bd_go hf
      refine xI_V C G (c_M_isFeeding_m_M hc) mX12_isFeeding kX12_336 (wM_at0) rfl ⟨Nat.le_of_ble_eq_true rfl, Nat.le_of_ble_eq_true rfl⟩ rfl hl.1 rfl (Nat.le_of_ble_eq_true rfl) ⟨Nat.le_refl _, Nat.le_refl _⟩ dX12_odds_54 (fun hz3 H locs G => ?_)
      obtain ⟨x4, hrx4, hf⟩ := bd_go hf
      have Jx4 : ∀ (H : Heap) (locs : List Loc) (ls : Array Slot), xG s E A (wM E ad m_thrown m_trouble m_where m_rv m_tape m_taped m_size m_spot m_sort m_place m_number m_fault m_wrongAt m_word m_v x2.2 m_past m_kept m_acts m_images m_matchNow m_slopsNow m_matchesNow m_slopped m_seatBest m_fedBest m_slopsBest m_sawBest m_leastNow m_stableNow m_fitsNow m_someNow m_everyNow m_otherIn m_askLeft tb_seats tb_slack tb_saw tb_quarrel tb_people tb_pairs tb_forks tb_unsures tb_trieds tb_fed tb_seat tb_one tb_other tb_years tb_kind tb_unsure tb_may tb_tried tb_name) H locs → lv_has ls 10 [(0, .ref (ad 0)), (1, .int l1), (2, .int l2), (3, .int l3), (7, .int l7)] → W p l e (xR 4 91) s m args below meth c H locs 0 0 Q (F0 m 66 ls [.long x4, .long l5]) := by
        intro H locs ls G hl
        refine lv_ladd hx hb dX12_odds_66 ?_
        refine lv_topl (fun x5 ex5 => ?_)
        have hf := lt_go ex5 hf
        refine lv_lstore (lv' := [(5, .long x5), (0, .ref (ad 0)), (1, .int l1), (2, .int l2), (3, .int l3), (7, .int l7)]) hx hb dX12_odds_67 hl (by decide) rfl (fun ls hl => ?_)
        obtain ⟨x6, ex6⟩ : ∃ z : Int32, z = l7 + (1 : Int32) := ⟨_, rfl⟩
        have hf := lt_go ex6 hf
        refine lv_iinc (v := x6) (lv' := [(7, .int x6), (5, .long x5), (0, .ref (ad 0)), (1, .int l1), (2, .int l2), (3, .int l3)]) hx hb dX12_odds_69 hl (k := 5) rfl (by rw [ex6]; rfl) (by decide) rfl (fun ls hl => ?_)
        refine lv_goto (tgt := 32) hx hb dX12_odds_72 (by decide) ?_
        exact ih x5 x6 x2.2 _ _ _ G (lv_sub hl [2, 3, 4, 5, 1, 0] rfl) hf
      have hf := hrx4
      refine lv_if_eq (tgt := 65) hx hb dX12_odds_57 (by decide) (fun h => ?_) (fun h => ?_)
      · have hf := it_t h hf
        refine lv_lconst (v := 0) hx hb dX12_odds_65 (by decide) ?_
        obtain rfl := Option.some.inj hf
        exact Jx4 _ _ _ G (lv_sub hl [1, 2, 3, 4, 6] rfl)
      · have hf := it_f h hf
        refine lv_lload hx hb dX12_odds_60 (lv_at hl 0 rfl) ?_
        refine lv_goto (tgt := 66) hx hb dX12_odds_62 (by decide) ?_
        obtain rfl := Option.some.inj hf
        exact Jx4 _ _ _ G (lv_sub hl [1, 2, 3, 4, 6] rfl)
set_option maxHeartbeats 4000000 in
set_option maxRecDepth 100000 in
theorem c_M_odds_m_M {l : Launch} {E : xE} {ad : Nat → Nat} {m_thrown m_trouble m_where m_taped m_size m_spot m_sort m_place m_number m_fault m_wrongAt m_acts m_images m_matchNow m_slopsNow m_matchesNow m_fedBest m_slopsBest m_sawBest m_leastNow m_stableNow m_fitsNow m_someNow m_everyNow m_askLeft tb_seats tb_slack tb_saw tb_quarrel tb_people tb_pairs tb_forks tb_unsures tb_trieds tb_fed : Int32} {m_rv : Value} {m_tape m_v m_x m_past m_kept m_slopped m_seatBest m_otherIn tb_seat tb_one tb_other tb_years tb_kind tb_unsure tb_may tb_tried : Nat → Int32} {m_word : Int64} {tb_name : Nat → Int64} {l1 : Int32} {l2 : Int32} {l3 : Int32} {R0 : Int64 × Int32 × Int32 × Int32 × (Nat → Int32)} (hf : f_M_odds l1 l2 l3 m_v m_x tb_slack tb_saw tb_quarrel = some R0) : xL l E yX12_odds cX12_odds 10 (some .long) 4 91 [.ref (ad 0), .int l1, .int l2, .int l3] (wM E ad m_thrown m_trouble m_where m_rv m_tape m_taped m_size m_spot m_sort m_place m_number m_fault m_wrongAt m_word m_v m_x m_past m_kept m_acts m_images m_matchNow m_slopsNow m_matchesNow m_slopped m_seatBest m_fedBest m_slopsBest m_sawBest m_leastNow m_stableNow m_fitsNow m_someNow m_everyNow m_otherIn m_askLeft tb_seats tb_slack tb_saw tb_quarrel tb_people tb_pairs tb_forks tb_unsures tb_trieds tb_fed tb_seat tb_one tb_other tb_years tb_kind tb_unsure tb_may tb_tried tb_name) (wM E ad R0.2.1 R0.2.2.1 R0.2.2.2.1 m_rv m_tape m_taped m_size m_spot m_sort m_place m_number m_fault m_wrongAt m_word m_v R0.2.2.2.2 m_past m_kept m_acts m_images m_matchNow m_slopsNow m_matchesNow m_slopped m_seatBest m_fedBest m_slopsBest m_sawBest m_leastNow m_stableNow m_fitsNow m_someNow m_everyNow m_otherIn m_askLeft tb_seats tb_slack tb_saw tb_quarrel tb_people tb_pairs tb_forks tb_unsures tb_trieds tb_fed tb_seat tb_one tb_other tb_years tb_kind tb_unsure tb_may tb_tried tb_name) R0.1 := by
  refine xL_of (by decide) (Nat.le_of_ble_eq_true rfl) (fun p e s m args below meth c A C ls hl G => ?_)
  have hx := C.1
  have hb := C.2.1
  have hl : lv_has ls 10 [(0, .ref (ad 0)), (1, .int l1), (2, .int l2), (3, .int l3)] := hl
  unfold f_M_odds at hf
  refine lv_aload_n hx hb dX12_odds_0 rfl (lv_at hl 0 rfl) ?_
  refine lv_iconst (v := 0) hx hb dX12_odds_1 (by decide) ?_
  refine x_put (ws' := (wM E ad (0 : Int32) m_trouble m_where m_rv m_tape m_taped m_size m_spot m_sort m_place m_number m_fault m_wrongAt m_word m_v m_x m_past m_kept m_acts m_images m_matchNow m_slopsNow m_matchesNow m_slopped m_seatBest m_fedBest m_slopsBest m_sawBest m_leastNow m_stableNow m_fitsNow m_someNow m_everyNow m_otherIn m_askLeft tb_seats tb_slack tb_saw tb_quarrel tb_people tb_pairs tb_forks tb_unsures tb_trieds tb_fed tb_seat tb_one tb_other tb_years tb_kind tb_unsure tb_may tb_tried tb_name)) C G fX12_39 (wM_at0) rfl rfl (Nat.le_of_ble_eq_true rfl) wM_set_m_thrown dX12_odds_2 (fun H locs G => ?_)
  refine lv_aload_n hx hb dX12_odds_5 rfl (lv_at hl 0 rfl) ?_
  refine lv_iload_n hx hb dX12_odds_6 rfl (lv_at hl 1 rfl) ?_
  refine lv_iload_n hx hb dX12_odds_7 rfl (lv_at hl 2 rfl) ?_
  obtain ⟨x1, hc, hf⟩ := bd_go hf
  refine xI_V C G (c_M_refusesChance_m_M hc) mX12_refusesChance kX12_488 (wM_at0) rfl ⟨Nat.le_of_ble_eq_true rfl, Nat.le_of_ble_eq_true rfl⟩ rfl hl.1 rfl (Nat.le_of_ble_eq_true rfl) ⟨Nat.le_refl _, Nat.le_refl _⟩ dX12_odds_8 (fun hz H locs G => ?_)
  refine lv_istore (lv' := [(4, .int x1), (0, .ref (ad 0)), (1, .int l1), (2, .int l2), (3, .int l3)]) hx hb dX12_odds_11 hl (by decide) rfl (fun ls hl => ?_)
  refine lv_iload hx hb dX12_odds_13 (lv_at hl 0 rfl) ?_
  refine lv_if_le (tgt := 26) hx hb dX12_odds_15 (by decide) (fun h => ?_) (fun h => ?_)
  · have hf := it_t h hf
    refine lv_lconst (v := 0) hx hb dX12_odds_26 (by decide) ?_
    refine lv_lstore (lv' := [(5, .long (0 : Int64)), (4, .int x1), (0, .ref (ad 0)), (1, .int l1), (2, .int l2), (3, .int l3)]) hx hb dX12_odds_27 hl (by decide) rfl (fun ls hl => ?_)
    refine lv_iconst (v := 0) hx hb dX12_odds_29 (by decide) ?_
    refine lv_istore (lv' := [(7, .int (0 : Int32)), (5, .long (0 : Int64)), (4, .int x1), (0, .ref (ad 0)), (1, .int l1), (2, .int l2), (3, .int l3)]) hx hb dX12_odds_30 hl (by decide) rfl (fun ls hl => ?_)
    obtain ⟨x7, hr, hf⟩ := bd_go hf
    have Jx7 : ∀ (H : Heap) (locs : List Loc) (ls : Array Slot), xG s E A (wM E ad (0 : Int32) m_trouble m_where m_rv m_tape m_taped m_size m_spot m_sort m_place m_number m_fault m_wrongAt m_word m_v x7.2 m_past m_kept m_acts m_images m_matchNow m_slopsNow m_matchesNow m_slopped m_seatBest m_fedBest m_slopsBest m_sawBest m_leastNow m_stableNow m_fitsNow m_someNow m_everyNow m_otherIn m_askLeft tb_seats tb_slack tb_saw tb_quarrel tb_people tb_pairs tb_forks tb_unsures tb_trieds tb_fed tb_seat tb_one tb_other tb_years tb_kind tb_unsure tb_may tb_tried tb_name) H locs → lv_has ls 10 [(0, .ref (ad 0)), (2, .int l2), (3, .int l3), (5, .long x7.1)] → W p l e (xR 4 91) s m args below meth c H locs 0 0 (MQ below (xqL E A (wM E ad R0.2.1 R0.2.2.1 R0.2.2.2.1 m_rv m_tape m_taped m_size m_spot m_sort m_place m_number m_fault m_wrongAt m_word m_v R0.2.2.2.2 m_past m_kept m_acts m_images m_matchNow m_slopsNow m_matchesNow m_slopped m_seatBest m_fedBest m_slopsBest m_sawBest m_leastNow m_stableNow m_fitsNow m_someNow m_everyNow m_otherIn m_askLeft tb_seats tb_slack tb_saw tb_quarrel tb_people tb_pairs tb_forks tb_unsures tb_trieds tb_fed tb_seat tb_one tb_other tb_years tb_kind tb_unsure tb_may tb_tried tb_name) R0.1) args s 0 0 A) (F0 m 75 ls []) := by
      intro H locs ls G hl
      refine lv_aload_n hx hb dX12_odds_75 rfl (lv_at hl 0 rfl) ?_
      refine lv_lload hx hb dX12_odds_76 (lv_at hl 3 rfl) ?_
      refine lv_iload_n hx hb dX12_odds_78 rfl (lv_at hl 1 rfl) ?_
      obtain ⟨x8, hc, hf⟩ := bd_go hf
      refine xL_S C G (c_M_whole_any hc) mX12_whole kX12_495 ⟨Nat.le_of_ble_eq_true rfl, Nat.le_of_ble_eq_true rfl⟩ rfl hl.1 rfl (Nat.le_of_ble_eq_true rfl) ⟨Nat.le_refl _, Nat.le_refl _⟩ dX12_odds_79 (fun H locs G => ?_)
      refine lv_iload_n hx hb dX12_odds_82 rfl (lv_at hl 2 rfl) ?_
      obtain ⟨x9, hc, hf⟩ := bd_go hf
      refine xL_V C G (c_M_fraction_m_M hc) mX12_fraction kX12_499 (wM_at0) rfl ⟨Nat.le_of_ble_eq_true rfl, Nat.le_of_ble_eq_true rfl⟩ rfl hl.1 rfl (Nat.le_of_ble_eq_true rfl) ⟨Nat.le_refl _, Nat.le_refl _⟩ dX12_odds_83 (fun H locs G => ?_)
      obtain rfl := Option.some.inj hf
      exact xL_ret C G dX12_odds_86
    exact w_M_odds_m_M_L32 C Jx7 fu _ _ _ _ _ _ G (lv_sub hl [3, 4, 5, 6, 1, 0] rfl) hr
  · have hf := it_f h hf
    refine lv_aload_n hx hb dX12_odds_18 rfl (lv_at hl 1 rfl) ?_
    refine lv_iload hx hb dX12_odds_19 (lv_at hl 0 rfl) ?_
    obtain ⟨x10, hc, hf⟩ := bd_go hf
    refine xI_V C G (c_M_refused_m_M hc) mX12_refused kX12_45 (wM_at0) rfl ⟨Nat.le_of_ble_eq_true rfl, Nat.le_of_ble_eq_true rfl⟩ rfl hl.1 rfl (Nat.le_of_ble_eq_true rfl) ⟨Nat.le_refl _, Nat.le_refl _⟩ dX12_odds_21 (fun hz H locs G => ?_)
    refine lv_i2l hx hb dX12_odds_24 rfl ?_
    obtain rfl := Option.some.inj hf
    exact xL_ret C G dX12_odds_25
set_option maxHeartbeats 4000000 in
set_option maxRecDepth 100000 in
theorem w_M_mean_m_M_L54 {p : Program} {l : Launch} {e : Env} {s : State} {m : MethodId} {args : Array Value} {below : List Frame} {meth : Method} {c : Code} {A : Nat → Prop} {E : xE} {Q : State → Prop} {ad : Nat → Nat} {m_thrown m_trouble m_where m_taped m_size m_spot m_sort m_place m_number m_fault m_wrongAt m_acts m_images m_matchNow m_slopsNow m_matchesNow m_fedBest m_slopsBest m_sawBest m_leastNow m_stableNow m_fitsNow m_someNow m_everyNow m_askLeft tb_seats tb_slack tb_saw tb_quarrel tb_people tb_pairs tb_forks tb_unsures tb_trieds tb_fed : Int32} {m_rv : Value} {m_tape m_v m_past m_kept m_slopped m_seatBest m_otherIn tb_seat tb_one tb_other tb_years tb_kind tb_unsure tb_may tb_tried : Nat → Int32} {m_word : Int64} {tb_name : Nat → Int64} {l1 : Int32} {l2 : Int32} {l3 : Int32} {o : Int64 × (Nat → Int32)} (C : xC p s m args meth c cX12_mean 10 RX12 E A (some .long)) (J : ∀ (H : Heap) (locs : List Loc) (ls : Array Slot), xG s E A (wM E ad m_thrown m_trouble m_where m_rv m_tape m_taped m_size m_spot m_sort m_place m_number m_fault m_wrongAt m_word m_v o.2 m_past m_kept m_acts m_images m_matchNow m_slopsNow m_matchesNow m_slopped m_seatBest m_fedBest m_slopsBest m_sawBest m_leastNow m_stableNow m_fitsNow m_someNow m_everyNow m_otherIn m_askLeft tb_seats tb_slack tb_saw tb_quarrel tb_people tb_pairs tb_forks tb_unsures tb_trieds tb_fed tb_seat tb_one tb_other tb_years tb_kind tb_unsure tb_may tb_tried tb_name) H locs → lv_has ls 10 [(0, .ref (ad 0)), (2, .int l2), (3, .int l3), (5, .long o.1)] → W p l e (xR 4 91) s m args below meth c H locs 0 0 Q (F0 m 92 ls [])) :
    ∀ (n : Nat) (l5 : Int64) (l7 : Int32) (m_x : Nat → Int32) (H : Heap) (locs : List Loc) (ls : Array Slot), xG s E A (wM E ad m_thrown m_trouble m_where m_rv m_tape m_taped m_size m_spot m_sort m_place m_number m_fault m_wrongAt m_word m_v m_x m_past m_kept m_acts m_images m_matchNow m_slopsNow m_matchesNow m_slopped m_seatBest m_fedBest m_slopsBest m_sawBest m_leastNow m_stableNow m_fitsNow m_someNow m_everyNow m_otherIn m_askLeft tb_seats tb_slack tb_saw tb_quarrel tb_people tb_pairs tb_forks tb_unsures tb_trieds tb_fed tb_seat tb_one tb_other tb_years tb_kind tb_unsure tb_may tb_tried tb_name) H locs → lv_has ls 10 [(0, .ref (ad 0)), (1, .int l1), (2, .int l2), (3, .int l3), (5, .long l5), (7, .int l7)] → f_M_mean_L54 l1 l2 m_v tb_saw tb_quarrel n l5 l7 m_x = some o → W p l e (xR 4 91) s m args below meth c H locs 0 0 Q (F0 m 54 ls []) := by
  have hx := C.1
  have hb := C.2.1
  intro n
  induction n with
  | zero =>
    intro l5 l7 m_x H locs ls G hl hf
    exact nomatch (show (none : Option (Int64 × (Nat → Int32))) = some o from hf)
  | succ n ih =>
    intro l5 l7 m_x H locs ls G hl hf
    rw [f_M_mean_L54] at hf
    refine lv_iload hx hb dX12_mean_54 (lv_at hl 5 rfl) ?_
    refine lv_iconst (v := 1) hx hb dX12_mean_56 (by decide) ?_
    refine lv_iload_n hx hb dX12_mean_57 rfl (lv_at hl 2 rfl) ?_
    refine lv_ishl hx hb dX12_mean_58 ?_
    refine lv_icmp_ge (tgt := 92) hx hb dX12_mean_59 (by decide) (fun h => ?_) (fun h => ?_)
    · have hf := it_t h hf
      obtain rfl := Option.some.inj hf
      exact J _ _ _ G (lv_sub hl [0, 2, 3, 4] rfl)
    · have hf := it_f h hf
      refine lv_aload_n hx hb dX12_mean_62 rfl (lv_at hl 0 rfl) ?_
      refine lv_iload_n hx hb dX12_mean_63 rfl (lv_at hl 1 rfl) ?_
      refine lv_iload_n hx hb dX12_mean_64 rfl (lv_at hl 2 rfl) ?_
      refine lv_iload hx hb dX12_mean_65 (lv_at hl 5 rfl) ?_
      obtain ⟨x4, hc, hf⟩ := bd_go hf
      refine xL_V C G (c_M_partOf_m_M hc) mX12_partOf kX12_491 (wM_at0) rfl ⟨Nat.le_of_ble_eq_true rfl, Nat.le_of_ble_eq_true rfl⟩ rfl hl.1 rfl (Nat.le_of_ble_eq_true rfl) ⟨Nat.le_refl _, Nat.le_refl _⟩ dX12_mean_67 (fun H locs G => ?_)
      refine lv_lstore (lv' := [(8, .long x4.1), (0, .ref (ad 0)), (1, .int l1), (2, .int l2), (3, .int l3), (5, .long l5), (7, .int l7)]) hx hb dX12_mean_70 hl (by decide) rfl (fun ls hl => ?_)
      refine lv_lload hx hb dX12_mean_72 (lv_at hl 5 rfl) ?_
      refine lv_lload hx hb dX12_mean_74 (lv_at hl 0 rfl) ?_
      refine lv_aload_n hx hb dX12_mean_76 rfl (lv_at hl 1 rfl) ?_
      refine lv_iload_n hx hb dX12_mean_77 rfl (lv_at hl 2 rfl) ?_
      obtain ⟨x5, hc, hf⟩ := bd_go hf
      refine xI_V C G (c_M_handleOf_m_M hc) mX12_handleOf kX12_321 (wM_at0) rfl ⟨Nat.le_of_ble_eq_true rfl, Nat.le_of_ble_eq_true rfl⟩ rfl hl.1 rfl (Nat.le_of_ble_eq_true rfl) ⟨Nat.le_refl _, Nat.le_refl _⟩ dX12_mean_78 (fun hz H locs G => ?_)
      refine lv_i2l hx hb dX12_mean_81 rfl ?_
      refine lv_lmul hx hb dX12_mean_82 ?_
      refine lv_ladd hx hb dX12_mean_83 ?_
      refine lv_topl (fun x6 ex6 => ?_)
      have hf := lt_go ex6 hf
      refine lv_lstore (lv' := [(5, .long x6), (8, .long x4.1), (0, .ref (ad 0)), (1, .int l1), (2, .int l2), (3, .int l3), (7, .int l7)]) hx hb dX12_mean_84 hl (by decide) rfl (fun ls hl => ?_)
      obtain ⟨x7, ex7⟩ : ∃ z : Int32, z = l7 + (1 : Int32) := ⟨_, rfl⟩
      have hf := lt_go ex7 hf
      refine lv_iinc (v := x7) (lv' := [(7, .int x7), (5, .long x6), (8, .long x4.1), (0, .ref (ad 0)), (1, .int l1), (2, .int l2), (3, .int l3)]) hx hb dX12_mean_86 hl (k := 6) rfl (by rw [ex7]; rfl) (by decide) rfl (fun ls hl => ?_)
      refine lv_goto (tgt := 54) hx hb dX12_mean_89 (by decide) ?_
      exact ih x6 x7 x4.2 _ _ _ G (lv_sub hl [3, 4, 5, 6, 1, 0] rfl) hf
set_option maxHeartbeats 4000000 in
set_option maxRecDepth 100000 in
theorem c_M_mean_m_M {l : Launch} {E : xE} {ad : Nat → Nat} {m_thrown m_trouble m_where m_taped m_size m_spot m_sort m_place m_number m_fault m_wrongAt m_acts m_images m_matchNow m_slopsNow m_matchesNow m_fedBest m_slopsBest m_sawBest m_leastNow m_stableNow m_fitsNow m_someNow m_everyNow m_askLeft tb_seats tb_slack tb_saw tb_quarrel tb_people tb_pairs tb_forks tb_unsures tb_trieds tb_fed : Int32} {m_rv : Value} {m_tape m_v m_x m_past m_kept m_slopped m_seatBest m_otherIn tb_seat tb_one tb_other tb_years tb_kind tb_unsure tb_may tb_tried : Nat → Int32} {m_word : Int64} {tb_name : Nat → Int64} {l1 : Int32} {l2 : Int32} {l3 : Int32} {R0 : Int64 × Int32 × Int32 × Int32 × (Nat → Int32)} (hf : f_M_mean l1 l2 l3 m_v m_x tb_saw tb_quarrel = some R0) : xL l E yX12_mean cX12_mean 10 (some .long) 4 91 [.ref (ad 0), .int l1, .int l2, .int l3] (wM E ad m_thrown m_trouble m_where m_rv m_tape m_taped m_size m_spot m_sort m_place m_number m_fault m_wrongAt m_word m_v m_x m_past m_kept m_acts m_images m_matchNow m_slopsNow m_matchesNow m_slopped m_seatBest m_fedBest m_slopsBest m_sawBest m_leastNow m_stableNow m_fitsNow m_someNow m_everyNow m_otherIn m_askLeft tb_seats tb_slack tb_saw tb_quarrel tb_people tb_pairs tb_forks tb_unsures tb_trieds tb_fed tb_seat tb_one tb_other tb_years tb_kind tb_unsure tb_may tb_tried tb_name) (wM E ad R0.2.1 R0.2.2.1 R0.2.2.2.1 m_rv m_tape m_taped m_size m_spot m_sort m_place m_number m_fault m_wrongAt m_word m_v R0.2.2.2.2 m_past m_kept m_acts m_images m_matchNow m_slopsNow m_matchesNow m_slopped m_seatBest m_fedBest m_slopsBest m_sawBest m_leastNow m_stableNow m_fitsNow m_someNow m_everyNow m_otherIn m_askLeft tb_seats tb_slack tb_saw tb_quarrel tb_people tb_pairs tb_forks tb_unsures tb_trieds tb_fed tb_seat tb_one tb_other tb_years tb_kind tb_unsure tb_may tb_tried tb_name) R0.1 := by
  refine xL_of (by decide) (Nat.le_of_ble_eq_true rfl) (fun p e s m args below meth c A C ls hl G => ?_)
  have hx := C.1
  have hb := C.2.1
  have hl : lv_has ls 10 [(0, .ref (ad 0)), (1, .int l1), (2, .int l2), (3, .int l3)] := hl
  unfold f_M_mean at hf
  refine lv_aload_n hx hb dX12_mean_0 rfl (lv_at hl 0 rfl) ?_
  refine lv_iconst (v := 0) hx hb dX12_mean_1 (by decide) ?_
  refine x_put (ws' := (wM E ad (0 : Int32) m_trouble m_where m_rv m_tape m_taped m_size m_spot m_sort m_place m_number m_fault m_wrongAt m_word m_v m_x m_past m_kept m_acts m_images m_matchNow m_slopsNow m_matchesNow m_slopped m_seatBest m_fedBest m_slopsBest m_sawBest m_leastNow m_stableNow m_fitsNow m_someNow m_everyNow m_otherIn m_askLeft tb_seats tb_slack tb_saw tb_quarrel tb_people tb_pairs tb_forks tb_unsures tb_trieds tb_fed tb_seat tb_one tb_other tb_years tb_kind tb_unsure tb_may tb_tried tb_name)) C G fX12_39 (wM_at0) rfl rfl (Nat.le_of_ble_eq_true rfl) wM_set_m_thrown dX12_mean_2 (fun H locs G => ?_)
  refine lv_aload_n hx hb dX12_mean_5 rfl (lv_at hl 0 rfl) ?_
  refine lv_iload_n hx hb dX12_mean_6 rfl (lv_at hl 1 rfl) ?_
  refine lv_iload_n hx hb dX12_mean_7 rfl (lv_at hl 2 rfl) ?_
  obtain ⟨x1, hc, hf⟩ := bd_go hf
  refine xI_V C G (c_M_refusesChance_m_M hc) mX12_refusesChance kX12_488 (wM_at0) rfl ⟨Nat.le_of_ble_eq_true rfl, Nat.le_of_ble_eq_true rfl⟩ rfl hl.1 rfl (Nat.le_of_ble_eq_true rfl) ⟨Nat.le_refl _, Nat.le_refl _⟩ dX12_mean_8 (fun hz H locs G => ?_)
  refine lv_istore (lv' := [(4, .int x1), (0, .ref (ad 0)), (1, .int l1), (2, .int l2), (3, .int l3)]) hx hb dX12_mean_11 hl (by decide) rfl (fun ls hl => ?_)
  refine lv_iload hx hb dX12_mean_13 (lv_at hl 0 rfl) ?_
  refine lv_if_le (tgt := 26) hx hb dX12_mean_15 (by decide) (fun h => ?_) (fun h => ?_)
  · have hf := it_t h hf
    refine lv_aload_n hx hb dX12_mean_26 rfl (lv_at hl 1 rfl) ?_
    obtain ⟨x2, hc, hf⟩ := bd_go hf
    refine xV_V C G (c_M_works_m_M hc) mX12_works kX12_333 (wM_at0) rfl ⟨Nat.le_of_ble_eq_true rfl, Nat.le_of_ble_eq_true rfl⟩ rfl hl.1 rfl (Nat.le_of_ble_eq_true rfl) ⟨Nat.le_refl _, Nat.le_refl _⟩ dX12_mean_27 (fun H locs G => ?_)
    refine lv_aload_n hx hb dX12_mean_30 rfl (lv_at hl 1 rfl) ?_
    refine lv_iload_n hx hb dX12_mean_31 rfl (lv_at hl 2 rfl) ?_
    obtain ⟨x3, hc, hf⟩ := bd_go hf
    refine xI_V C G (c_M_handleOf_m_M hc) mX12_handleOf kX12_321 (wM_at0) rfl ⟨Nat.le_of_ble_eq_true rfl, Nat.le_of_ble_eq_true rfl⟩ rfl hl.1 rfl (Nat.le_of_ble_eq_true rfl) ⟨Nat.le_refl _, Nat.le_refl _⟩ dX12_mean_32 (fun hz H locs G => ?_)
    refine lv_sipush (v := 900) hx hb dX12_mean_35 (by decide) ?_
    refine lv_icmp_le (tgt := 48) hx hb dX12_mean_38 (by decide) (fun h => ?_) (fun h => ?_)
    · have hf := it_t h hf
      refine lv_lconst (v := 0) hx hb dX12_mean_48 (by decide) ?_
      refine lv_lstore (lv' := [(5, .long (0 : Int64)), (4, .int x1), (0, .ref (ad 0)), (1, .int l1), (2, .int l2), (3, .int l3)]) hx hb dX12_mean_49 hl (by decide) rfl (fun ls hl => ?_)
      refine lv_iconst (v := 0) hx hb dX12_mean_51 (by decide) ?_
      refine lv_istore (lv' := [(7, .int (0 : Int32)), (5, .long (0 : Int64)), (4, .int x1), (0, .ref (ad 0)), (1, .int l1), (2, .int l2), (3, .int l3)]) hx hb dX12_mean_52 hl (by decide) rfl (fun ls hl => ?_)
      obtain ⟨x8, hr, hf⟩ := bd_go hf
      have Jx8 : ∀ (H : Heap) (locs : List Loc) (ls : Array Slot), xG s E A (wM E ad (0 : Int32) m_trouble m_where m_rv m_tape m_taped m_size m_spot m_sort m_place m_number m_fault m_wrongAt m_word m_v x8.2 m_past m_kept m_acts m_images m_matchNow m_slopsNow m_matchesNow m_slopped m_seatBest m_fedBest m_slopsBest m_sawBest m_leastNow m_stableNow m_fitsNow m_someNow m_everyNow m_otherIn m_askLeft tb_seats tb_slack tb_saw tb_quarrel tb_people tb_pairs tb_forks tb_unsures tb_trieds tb_fed tb_seat tb_one tb_other tb_years tb_kind tb_unsure tb_may tb_tried tb_name) H locs → lv_has ls 10 [(0, .ref (ad 0)), (2, .int l2), (3, .int l3), (5, .long x8.1)] → W p l e (xR 4 91) s m args below meth c H locs 0 0 (MQ below (xqL E A (wM E ad R0.2.1 R0.2.2.1 R0.2.2.2.1 m_rv m_tape m_taped m_size m_spot m_sort m_place m_number m_fault m_wrongAt m_word m_v R0.2.2.2.2 m_past m_kept m_acts m_images m_matchNow m_slopsNow m_matchesNow m_slopped m_seatBest m_fedBest m_slopsBest m_sawBest m_leastNow m_stableNow m_fitsNow m_someNow m_everyNow m_otherIn m_askLeft tb_seats tb_slack tb_saw tb_quarrel tb_people tb_pairs tb_forks tb_unsures tb_trieds tb_fed tb_seat tb_one tb_other tb_years tb_kind tb_unsure tb_may tb_tried tb_name) R0.1) args s 0 0 A) (F0 m 92 ls []) := by
        intro H locs ls G hl
        refine lv_aload_n hx hb dX12_mean_92 rfl (lv_at hl 0 rfl) ?_
        refine lv_lload hx hb dX12_mean_93 (lv_at hl 3 rfl) ?_
        refine lv_iload_n hx hb dX12_mean_95 rfl (lv_at hl 1 rfl) ?_
        obtain ⟨x9, hc, hf⟩ := bd_go hf
        refine xL_S C G (c_M_whole_any hc) mX12_whole kX12_495 ⟨Nat.le_of_ble_eq_true rfl, Nat.le_of_ble_eq_true rfl⟩ rfl hl.1 rfl (Nat.le_of_ble_eq_true rfl) ⟨Nat.le_refl _, Nat.le_refl _⟩ dX12_mean_96 (fun H locs G => ?_)
        refine lv_iload_n hx hb dX12_mean_99 rfl (lv_at hl 2 rfl) ?_
        obtain ⟨x10, hc, hf⟩ := bd_go hf
        refine xL_V C G (c_M_fraction_m_M hc) mX12_fraction kX12_499 (wM_at0) rfl ⟨Nat.le_of_ble_eq_true rfl, Nat.le_of_ble_eq_true rfl⟩ rfl hl.1 rfl (Nat.le_of_ble_eq_true rfl) ⟨Nat.le_refl _, Nat.le_refl _⟩ dX12_mean_100 (fun H locs G => ?_)
        obtain rfl := Option.some.inj hf
        exact xL_ret C G dX12_mean_103
      exact w_M_mean_m_M_L54 C Jx8 fu _ _ _ _ _ _ G (lv_sub hl [3, 4, 5, 6, 1, 0] rfl) hr
    · have hf := it_f h hf
      refine lv_aload_n hx hb dX12_mean_41 rfl (lv_at hl 1 rfl) ?_
      refine lv_iconst (v := 3) hx hb dX12_mean_42 (by decide) ?_
      obtain ⟨x11, hc, hf⟩ := bd_go hf
      refine xI_V C G (c_M_refused_m_M hc) mX12_refused kX12_45 (wM_at0) rfl ⟨Nat.le_of_ble_eq_true rfl, Nat.le_of_ble_eq_true rfl⟩ rfl hl.1 rfl (Nat.le_of_ble_eq_true rfl) ⟨Nat.le_refl _, Nat.le_refl _⟩ dX12_mean_43 (fun hz H locs G => ?_)
      refine lv_i2l hx hb dX12_mean_46 rfl ?_
      obtain rfl := Option.some.inj hf
      exact xL_ret C G dX12_mean_47
  · have hf := it_f h hf
    refine lv_aload_n hx hb dX12_mean_18 rfl (lv_at hl 1 rfl) ?_
    refine lv_iload hx hb dX12_mean_19 (lv_at hl 0 rfl) ?_
    obtain ⟨x12, hc, hf⟩ := bd_go hf
    refine xI_V C G (c_M_refused_m_M hc) mX12_refused kX12_45 (wM_at0) rfl ⟨Nat.le_of_ble_eq_true rfl, Nat.le_of_ble_eq_true rfl⟩ rfl hl.1 rfl (Nat.le_of_ble_eq_true rfl) ⟨Nat.le_refl _, Nat.le_refl _⟩ dX12_mean_21 (fun hz H locs G => ?_)
    refine lv_i2l hx hb dX12_mean_24 rfl ?_
    obtain rfl := Option.some.inj hf
    exact xL_ret C G dX12_mean_25
set_option maxHeartbeats 4000000 in
set_option maxRecDepth 100000 in
theorem c_M_refusesDraw_m_M {l : Launch} {E : xE} {ad : Nat → Nat} {m_thrown m_trouble m_where m_taped m_size m_spot m_sort m_place m_number m_fault m_wrongAt m_acts m_images m_matchNow m_slopsNow m_matchesNow m_fedBest m_slopsBest m_sawBest m_leastNow m_stableNow m_fitsNow m_someNow m_everyNow m_askLeft tb_seats tb_slack tb_saw tb_quarrel tb_people tb_pairs tb_forks tb_unsures tb_trieds tb_fed : Int32} {m_rv : Value} {m_tape m_v m_x m_past m_kept m_slopped m_seatBest m_otherIn tb_seat tb_one tb_other tb_years tb_kind tb_unsure tb_may tb_tried : Nat → Int32} {m_word : Int64} {tb_name : Nat → Int64} {l1 : Int32} {l2 : Int32} {l3 : Int32} {R0 : Int32} (hf : f_M_refusesDraw l1 l2 l3 = some R0) : xI l E yX12_refusesDraw cX12_refusesDraw 4 (some .int) 1 22 [.ref (ad 0), .int l1, .int l2, .int l3] (wM E ad m_thrown m_trouble m_where m_rv m_tape m_taped m_size m_spot m_sort m_place m_number m_fault m_wrongAt m_word m_v m_x m_past m_kept m_acts m_images m_matchNow m_slopsNow m_matchesNow m_slopped m_seatBest m_fedBest m_slopsBest m_sawBest m_leastNow m_stableNow m_fitsNow m_someNow m_everyNow m_otherIn m_askLeft tb_seats tb_slack tb_saw tb_quarrel tb_people tb_pairs tb_forks tb_unsures tb_trieds tb_fed tb_seat tb_one tb_other tb_years tb_kind tb_unsure tb_may tb_tried tb_name) (wM E ad m_thrown m_trouble m_where m_rv m_tape m_taped m_size m_spot m_sort m_place m_number m_fault m_wrongAt m_word m_v m_x m_past m_kept m_acts m_images m_matchNow m_slopsNow m_matchesNow m_slopped m_seatBest m_fedBest m_slopsBest m_sawBest m_leastNow m_stableNow m_fitsNow m_someNow m_everyNow m_otherIn m_askLeft tb_seats tb_slack tb_saw tb_quarrel tb_people tb_pairs tb_forks tb_unsures tb_trieds tb_fed tb_seat tb_one tb_other tb_years tb_kind tb_unsure tb_may tb_tried tb_name) R0 := by
  refine xI_of (by decide) (Nat.le_of_ble_eq_true rfl) (fun p e s m args below meth c A C ls hl G => ?_)
  have hx := C.1
  have hb := C.2.1
  have hl : lv_has ls 4 [(0, .ref (ad 0)), (1, .int l1), (2, .int l2), (3, .int l3)] := hl
  unfold f_M_refusesDraw at hf
  refine lv_iload_n hx hb dX12_refusesDraw_0 rfl (lv_at hl 1 rfl) ?_
  refine lv_if_ne (tgt := 8) hx hb dX12_refusesDraw_1 (by decide) (fun h => ?_) (fun h => ?_)
  · have hf := it_f h hf
    refine lv_iload_n hx hb dX12_refusesDraw_8 rfl (lv_at hl 2 rfl) ?_
    refine lv_iconst (v := 0) hx hb dX12_refusesDraw_9 (by decide) ?_
    refine lv_ldcw hx hb C.2.2.2.1 (C.2.2.2.2.1 _ qX12_509) dX12_refusesDraw_10 ?_
    obtain ⟨x1, hc, hf⟩ := bd_go hf
    refine xI_S C G (c_M_in_any hc) mX12_in kX12_118 ⟨Nat.le_of_ble_eq_true rfl, Nat.le_of_ble_eq_true rfl⟩ rfl hl.1 rfl (Nat.le_of_ble_eq_true rfl) ⟨Nat.le_refl _, Nat.le_refl _⟩ dX12_refusesDraw_13 (fun hz1 H locs G => ?_)
    obtain ⟨b2, hr, hf⟩ := bd_go hf
    cases b2 with
    | true =>
      have hf := it_t rfl hf
      have J : ∀ (H : Heap) (locs : List Loc), xG s E A (wM E ad m_thrown m_trouble m_where m_rv m_tape m_taped m_size m_spot m_sort m_place m_number m_fault m_wrongAt m_word m_v m_x m_past m_kept m_acts m_images m_matchNow m_slopsNow m_matchesNow m_slopped m_seatBest m_fedBest m_slopsBest m_sawBest m_leastNow m_stableNow m_fitsNow m_someNow m_everyNow m_otherIn m_askLeft tb_seats tb_slack tb_saw tb_quarrel tb_people tb_pairs tb_forks tb_unsures tb_trieds tb_fed tb_seat tb_one tb_other tb_years tb_kind tb_unsure tb_may tb_tried tb_name) H locs → W p l e (xR 1 22) s m args below meth c H locs 0 0 (MQ below (xqI E A (wM E ad m_thrown m_trouble m_where m_rv m_tape m_taped m_size m_spot m_sort m_place m_number m_fault m_wrongAt m_word m_v m_x m_past m_kept m_acts m_images m_matchNow m_slopsNow m_matchesNow m_slopped m_seatBest m_fedBest m_slopsBest m_sawBest m_leastNow m_stableNow m_fitsNow m_someNow m_everyNow m_otherIn m_askLeft tb_seats tb_slack tb_saw tb_quarrel tb_people tb_pairs tb_forks tb_unsures tb_trieds tb_fed tb_seat tb_one tb_other tb_years tb_kind tb_unsure tb_may tb_tried tb_name) (some .int) R0) args s 0 0 A) (F0 m 33 ls []) := by
        intro H locs G
        refine lv_iconst (v := 2) hx hb dX12_refusesDraw_33 (by decide) ?_
        obtain rfl := Option.some.inj hf
        exact xI_ret C G rfl dX12_refusesDraw_34
      have hf := hr
      clear hr
      refine lv_if_eq (tgt := 33) hx hb dX12_refusesDraw_16 (by decide) (fun h => ?_) (fun h => ?_)
      · have hf := it_t h hf
        exact J _ _ G
      · have hf := it_f h hf
        refine lv_iload_n hx hb dX12_refusesDraw_19 rfl (lv_at hl 3 rfl) ?_
        refine lv_iconst (v := 0) hx hb dX12_refusesDraw_20 (by decide) ?_
        refine lv_bipush (v := 60) hx hb dX12_refusesDraw_21 (by decide) ?_
        obtain ⟨x3, hc, hf⟩ := bd_go hf
        refine xI_S C G (c_M_in_any hc) mX12_in kX12_118 ⟨Nat.le_of_ble_eq_true rfl, Nat.le_of_ble_eq_true rfl⟩ rfl hl.1 rfl (Nat.le_of_ble_eq_true rfl) ⟨Nat.le_refl _, Nat.le_refl _⟩ dX12_refusesDraw_23 (fun hz3 H locs G => ?_)
        refine lv_if_eq (tgt := 33) hx hb dX12_refusesDraw_26 (by decide) (fun h => ?_) (fun h => ?_)
        · have hf := it_t h hf
          exact J _ _ G
        · have hf := it_f h hf
          exact absurd (Option.some.inj hf) (by decide)
    | false =>
      have hf := it_f (by decide) hf
      have J : ∀ (H : Heap) (locs : List Loc), xG s E A (wM E ad m_thrown m_trouble m_where m_rv m_tape m_taped m_size m_spot m_sort m_place m_number m_fault m_wrongAt m_word m_v m_x m_past m_kept m_acts m_images m_matchNow m_slopsNow m_matchesNow m_slopped m_seatBest m_fedBest m_slopsBest m_sawBest m_leastNow m_stableNow m_fitsNow m_someNow m_everyNow m_otherIn m_askLeft tb_seats tb_slack tb_saw tb_quarrel tb_people tb_pairs tb_forks tb_unsures tb_trieds tb_fed tb_seat tb_one tb_other tb_years tb_kind tb_unsure tb_may tb_tried tb_name) H locs → W p l e (xR 1 22) s m args below meth c H locs 0 0 (MQ below (xqI E A (wM E ad m_thrown m_trouble m_where m_rv m_tape m_taped m_size m_spot m_sort m_place m_number m_fault m_wrongAt m_word m_v m_x m_past m_kept m_acts m_images m_matchNow m_slopsNow m_matchesNow m_slopped m_seatBest m_fedBest m_slopsBest m_sawBest m_leastNow m_stableNow m_fitsNow m_someNow m_everyNow m_otherIn m_askLeft tb_seats tb_slack tb_saw tb_quarrel tb_people tb_pairs tb_forks tb_unsures tb_trieds tb_fed tb_seat tb_one tb_other tb_years tb_kind tb_unsure tb_may tb_tried tb_name) (some .int) R0) args s 0 0 A) (F0 m 29 ls []) := by
        intro H locs G
        refine lv_iconst (v := 0) hx hb dX12_refusesDraw_29 (by decide) ?_
        refine lv_goto (tgt := 34) hx hb dX12_refusesDraw_30 (by decide) ?_
        obtain rfl := Option.some.inj hf
        exact xI_ret C G rfl dX12_refusesDraw_34
      have hf := hr
      clear hr
      refine lv_if_eq (tgt := 33) hx hb dX12_refusesDraw_16 (by decide) (fun h => ?_) (fun h => ?_)
      · have hf := it_t h hf
        exact absurd (Option.some.inj hf) (by decide)
      · have hf := it_f h hf
        refine lv_iload_n hx hb dX12_refusesDraw_19 rfl (lv_at hl 3 rfl) ?_
        refine lv_iconst (v := 0) hx hb dX12_refusesDraw_20 (by decide) ?_
        refine lv_bipush (v := 60) hx hb dX12_refusesDraw_21 (by decide) ?_
        obtain ⟨x4, hc, hf⟩ := bd_go hf
        refine xI_S C G (c_M_in_any hc) mX12_in kX12_118 ⟨Nat.le_of_ble_eq_true rfl, Nat.le_of_ble_eq_true rfl⟩ rfl hl.1 rfl (Nat.le_of_ble_eq_true rfl) ⟨Nat.le_refl _, Nat.le_refl _⟩ dX12_refusesDraw_23 (fun hz4 H locs G => ?_)
        refine lv_if_eq (tgt := 33) hx hb dX12_refusesDraw_26 (by decide) (fun h => ?_) (fun h => ?_)
        · have hf := it_t h hf
          exact absurd (Option.some.inj hf) (by decide)
        · have hf := it_f h hf
          exact J _ _ G
  · have hf := it_t h hf
    refine lv_iconst (v := 1) hx hb dX12_refusesDraw_4 (by decide) ?_
    refine lv_goto (tgt := 34) hx hb dX12_refusesDraw_5 (by decide) ?_
    obtain rfl := Option.some.inj hf
    exact xI_ret C G rfl dX12_refusesDraw_34
set_option maxHeartbeats 4000000 in
set_option maxRecDepth 100000 in
theorem w_M_draws_m_M_L18 {p : Program} {l : Launch} {e : Env} {s : State} {m : MethodId} {args : Array Value} {below : List Frame} {meth : Method} {c : Code} {A : Nat → Prop} {E : xE} {Q : State → Prop} {ad : Nat → Nat} {m_thrown m_trouble m_where m_taped m_size m_spot m_sort m_place m_number m_fault m_wrongAt m_acts m_images m_matchNow m_slopsNow m_matchesNow m_fedBest m_slopsBest m_sawBest m_leastNow m_stableNow m_fitsNow m_someNow m_everyNow m_askLeft tb_seats tb_slack tb_saw tb_quarrel tb_people tb_pairs tb_forks tb_unsures tb_trieds tb_fed : Int32} {m_rv : Value} {m_tape m_v m_past m_kept m_slopped m_seatBest m_otherIn tb_seat tb_one tb_other tb_years tb_kind tb_unsure tb_may tb_tried : Nat → Int32} {m_word : Int64} {tb_name : Nat → Int64} {l2 : Int32} {l4 : Int32} {o : Int32 × (Nat → Int32)} (C : xC p s m args meth c cX12_draws 6 RX12 E A none) (J : ∀ (H : Heap) (locs : List Loc) (ls : Array Slot), xG s E A (wM E ad m_thrown m_trouble m_where m_rv m_tape m_taped m_size m_spot m_sort m_place m_number m_fault m_wrongAt m_word m_v o.2 m_past m_kept m_acts m_images m_matchNow m_slopsNow m_matchesNow m_slopped m_seatBest m_fedBest m_slopsBest m_sawBest m_leastNow m_stableNow m_fitsNow m_someNow m_everyNow m_otherIn m_askLeft tb_seats tb_slack tb_saw tb_quarrel tb_people tb_pairs tb_forks tb_unsures tb_trieds tb_fed tb_seat tb_one tb_other tb_years tb_kind tb_unsure tb_may tb_tried tb_name) H locs → lv_has ls 6 [(0, .ref (ad 0)), (2, .int l2), (3, .int o.1), (4, .int l4)] → W p l e (xR 3 65) s m args below meth c H locs 0 0 Q (F0 m 77 ls [])) :
    ∀ (n : Nat) (l3 : Int32) (l5 : Int32) (m_x : Nat → Int32) (H : Heap) (locs : List Loc) (ls : Array Slot), xG s E A (wM E ad m_thrown m_trouble m_where m_rv m_tape m_taped m_size m_spot m_sort m_place m_number m_fault m_wrongAt m_word m_v m_x m_past m_kept m_acts m_images m_matchNow m_slopsNow m_matchesNow m_slopped m_seatBest m_fedBest m_slopsBest m_sawBest m_leastNow m_stableNow m_fitsNow m_someNow m_everyNow m_otherIn m_askLeft tb_seats tb_slack tb_saw tb_quarrel tb_people tb_pairs tb_forks tb_unsures tb_trieds tb_fed tb_seat tb_one tb_other tb_years tb_kind tb_unsure tb_may tb_tried tb_name) H locs → lv_has ls 6 [(0, .ref (ad 0)), (2, .int l2), (3, .int l3), (4, .int l4), (5, .int l5)] → f_M_draws_L18 tb_saw tb_quarrel n l3 l5 m_x = some o → W p l e (xR 3 65) s m args below meth c H locs 0 0 Q (F0 m 18 ls []) := by
  have hx := C.1
  have hb := C.2.1
  intro n
  induction n with
  | zero =>
    intro l3 l5 m_x H locs ls G hl hf
    exact nomatch (show (none : Option (Int32 × (Nat → Int32))) = some o from hf)
  | succ n ih =>
    intro l3 l5 m_x H locs ls G hl hf
    rw [f_M_draws_L18] at hf
    refine lv_iload hx hb dX12_draws_18 (lv_at hl 4 rfl) ?_
    refine lv_aload_n hx hb dX12_draws_20 rfl (lv_at hl 0 rfl) ?_
    refine x_get C G fX12_21 (wM_at0) rfl dX12_draws_21 ?_
    refine lv_bipush (v := 55) hx hb dX12_draws_24 (by decide) ?_
    have hi := ck_in hf
    have hf := ck_go hf
    refine x_iald C G (wM_at3) hi dX12_draws_26 ?_
    refine lv_icmp_ge (tgt := 77) hx hb dX12_draws_27 (by decide) (fun h => ?_) (fun h => ?_)
    · have hf := it_t h hf
      obtain rfl := Option.some.inj hf
      exact J _ _ _ G (lv_sub hl [0, 1, 2, 3] rfl)
    · have hf := it_f h hf
      refine lv_ldc2 hx hb C.2.2.2.1 (C.2.2.2.2.1 _ qX12_503) dX12_draws_30 ?_
      refine lv_iload_n hx hb dX12_draws_33 rfl (lv_at hl 2 rfl) ?_
      refine lv_i2l hx hb dX12_draws_34 rfl ?_
      refine lv_lmul hx hb dX12_draws_35 ?_
      refine lv_ldc2 hx hb C.2.2.2.1 (C.2.2.2.2.1 _ qX12_505) dX12_draws_36 ?_
      refine lv_ladd hx hb dX12_draws_39 ?_
      refine lv_ldc2 hx hb C.2.2.2.1 (C.2.2.2.2.1 _ qX12_507) dX12_draws_40 ?_
      have hi := nzL_ne hf
      have hf := nzL_go hf
      refine lv_lrem hx hb dX12_draws_43 hi ?_
      refine lv_l2i hx hb dX12_draws_44 rfl ?_
      refine lv_topi (fun x2 ex2 => ?_)
      have hf := lt_go ex2 hf
      refine lv_istore_n (lv' := [(3, .int x2), (0, .ref (ad 0)), (2, .int l2), (4, .int l4), (5, .int l5)]) hx hb dX12_draws_45 rfl hl (by decide) rfl (fun ls hl => ?_)
      refine lv_aload_n hx hb dX12_draws_46 rfl (lv_at hl 1 rfl) ?_
      refine lv_iload hx hb dX12_draws_47 (lv_at hl 4 rfl) ?_
      refine lv_iload_n hx hb dX12_draws_49 rfl (lv_at hl 0 rfl) ?_
      refine lv_bipush (v := 100) hx hb dX12_draws_50 (by decide) ?_
      refine lv_irem hx hb dX12_draws_52 (by decide) ?_
      refine lv_aload_n hx hb dX12_draws_53 rfl (lv_at hl 1 rfl) ?_
      refine x_get C G fX12_298.g (wM_at0) rfl dX12_draws_54 ?_
      refine x_get C G fX12_213.g (wM_at9) rfl dX12_draws_57 ?_
      obtain ⟨x3, hrx3, hf⟩ := bd_go hf
      have Jx3 : ∀ (H : Heap) (locs : List Loc) (ls : Array Slot), xG s E A (wM E ad m_thrown m_trouble m_where m_rv m_tape m_taped m_size m_spot m_sort m_place m_number m_fault m_wrongAt m_word m_v m_x m_past m_kept m_acts m_images m_matchNow m_slopsNow m_matchesNow m_slopped m_seatBest m_fedBest m_slopsBest m_sawBest m_leastNow m_stableNow m_fitsNow m_someNow m_everyNow m_otherIn m_askLeft tb_seats tb_slack tb_saw tb_quarrel tb_people tb_pairs tb_forks tb_unsures tb_trieds tb_fed tb_seat tb_one tb_other tb_years tb_kind tb_unsure tb_may tb_tried tb_name) H locs → lv_has ls 6 [(0, .ref (ad 0)), (2, .int l2), (3, .int x2), (4, .int l4), (5, .int l5)] → W p l e (xR 3 65) s m args below meth c H locs 0 0 Q (F0 m 68 ls [.int x3, .int l5, .ref (ad 0)]) := by
        intro H locs ls G hl
        obtain ⟨x4, hc, hf⟩ := bd_go hf
        refine xV_V C G (c_M_yearOf_m_M hc) mX12_yearOf kX12_482 (wM_at0) rfl ⟨Nat.le_of_ble_eq_true rfl, Nat.le_of_ble_eq_true rfl⟩ rfl hl.1 rfl (Nat.le_of_ble_eq_true rfl) ⟨Nat.le_refl _, Nat.le_refl _⟩ dX12_draws_68 (fun H locs G => ?_)
        obtain ⟨x5, ex5⟩ : ∃ z : Int32, z = l5 + (1 : Int32) := ⟨_, rfl⟩
        have hf := lt_go ex5 hf
        refine lv_iinc (v := x5) (lv' := [(5, .int x5), (0, .ref (ad 0)), (2, .int l2), (3, .int x2), (4, .int l4)]) hx hb dX12_draws_71 hl (k := 4) rfl (by rw [ex5]; rfl) (by decide) rfl (fun ls hl => ?_)
        refine lv_goto (tgt := 18) hx hb dX12_draws_74 (by decide) ?_
        exact ih x2 x5 x4 _ _ _ G (lv_sub hl [1, 2, 3, 4, 0] rfl) hf
      have hf := hrx3
      refine lv_icmp_ge (tgt := 67) hx hb dX12_draws_60 (by decide) (fun h => ?_) (fun h => ?_)
      · have hf := it_t h hf
        refine lv_iconst (v := 0) hx hb dX12_draws_67 (by decide) ?_
        obtain rfl := Option.some.inj hf
        exact Jx3 _ _ _ G (lv_sub hl [1, 2, 0, 3, 4] rfl)
      · have hf := it_f h hf
        refine lv_iconst (v := 1) hx hb dX12_draws_63 (by decide) ?_
        refine lv_goto (tgt := 68) hx hb dX12_draws_64 (by decide) ?_
        obtain rfl := Option.some.inj hf
        exact Jx3 _ _ _ G (lv_sub hl [1, 2, 0, 3, 4] rfl)
set_option maxHeartbeats 4000000 in
set_option maxRecDepth 100000 in
theorem w_M_draws_m_M_L9 {p : Program} {l : Launch} {e : Env} {s : State} {m : MethodId} {args : Array Value} {below : List Frame} {meth : Method} {c : Code} {A : Nat → Prop} {E : xE} {Q : State → Prop} {ad : Nat → Nat} {m_thrown m_trouble m_where m_taped m_size m_spot m_sort m_place m_number m_fault m_wrongAt m_acts m_images m_matchNow m_slopsNow m_matchesNow m_fedBest m_slopsBest m_sawBest m_leastNow m_stableNow m_fitsNow m_someNow m_everyNow m_askLeft tb_seats tb_slack tb_saw tb_quarrel tb_people tb_pairs tb_forks tb_unsures tb_trieds tb_fed : Int32} {m_rv : Value} {m_tape m_v m_past m_kept m_slopped m_seatBest m_otherIn tb_seat tb_one tb_other tb_years tb_kind tb_unsure tb_may tb_tried : Nat → Int32} {m_word : Int64} {tb_name : Nat → Int64} {l2 : Int32} {o : (Nat → Int32)} (C : xC p s m args meth c cX12_draws 6 RX12 E A none) (J : ∀ (H : Heap) (locs : List Loc) (ls : Array Slot), xG s E A (wM E ad m_thrown m_trouble m_where m_rv m_tape m_taped m_size m_spot m_sort m_place m_number m_fault m_wrongAt m_word m_v o m_past m_kept m_acts m_images m_matchNow m_slopsNow m_matchesNow m_slopped m_seatBest m_fedBest m_slopsBest m_sawBest m_leastNow m_stableNow m_fitsNow m_someNow m_everyNow m_otherIn m_askLeft tb_seats tb_slack tb_saw tb_quarrel tb_people tb_pairs tb_forks tb_unsures tb_trieds tb_fed tb_seat tb_one tb_other tb_years tb_kind tb_unsure tb_may tb_tried tb_name) H locs → lv_has ls 6 [] → W p l e (xR 3 65) s m args below meth c H locs 0 0 Q (F0 m 83 ls [])) :
    ∀ (n : Nat) (l3 : Int32) (l4 : Int32) (m_x : Nat → Int32) (H : Heap) (locs : List Loc) (ls : Array Slot), xG s E A (wM E ad m_thrown m_trouble m_where m_rv m_tape m_taped m_size m_spot m_sort m_place m_number m_fault m_wrongAt m_word m_v m_x m_past m_kept m_acts m_images m_matchNow m_slopsNow m_matchesNow m_slopped m_seatBest m_fedBest m_slopsBest m_sawBest m_leastNow m_stableNow m_fitsNow m_someNow m_everyNow m_otherIn m_askLeft tb_seats tb_slack tb_saw tb_quarrel tb_people tb_pairs tb_forks tb_unsures tb_trieds tb_fed tb_seat tb_one tb_other tb_years tb_kind tb_unsure tb_may tb_tried tb_name) H locs → lv_has ls 6 [(0, .ref (ad 0)), (2, .int l2), (3, .int l3), (4, .int l4)] → f_M_draws_L9 l2 tb_saw tb_quarrel n l3 l4 m_x = some o → W p l e (xR 3 65) s m args below meth c H locs 0 0 Q (F0 m 9 ls []) := by
  have hx := C.1
  have hb := C.2.1
  intro n
  induction n with
  | zero =>
    intro l3 l4 m_x H locs ls G hl hf
    exact nomatch (show (none : Option ((Nat → Int32))) = some o from hf)
  | succ n ih =>
    intro l3 l4 m_x H locs ls G hl hf
    rw [f_M_draws_L9] at hf
    refine lv_iload hx hb dX12_draws_9 (lv_at hl 3 rfl) ?_
    refine lv_iload_n hx hb dX12_draws_11 rfl (lv_at hl 1 rfl) ?_
    refine lv_icmp_ge (tgt := 83) hx hb dX12_draws_12 (by decide) (fun h => ?_) (fun h => ?_)
    · have hf := it_t h hf
      obtain rfl := Option.some.inj hf
      exact J _ _ _ G (lv_sub hl [] rfl)
    · have hf := it_f h hf
      refine lv_iconst (v := 0) hx hb dX12_draws_15 (by decide) ?_
      refine lv_istore (lv' := [(5, .int (0 : Int32)), (0, .ref (ad 0)), (2, .int l2), (3, .int l3), (4, .int l4)]) hx hb dX12_draws_16 hl (by decide) rfl (fun ls hl => ?_)
      obtain ⟨x6, hr, hf⟩ := bd_go hf
      have Jx6 : ∀ (H : Heap) (locs : List Loc) (ls : Array Slot), xG s E A (wM E ad m_thrown m_trouble m_where m_rv m_tape m_taped m_size m_spot m_sort m_place m_number m_fault m_wrongAt m_word m_v x6.2 m_past m_kept m_acts m_images m_matchNow m_slopsNow m_matchesNow m_slopped m_seatBest m_fedBest m_slopsBest m_sawBest m_leastNow m_stableNow m_fitsNow m_someNow m_everyNow m_otherIn m_askLeft tb_seats tb_slack tb_saw tb_quarrel tb_people tb_pairs tb_forks tb_unsures tb_trieds tb_fed tb_seat tb_one tb_other tb_years tb_kind tb_unsure tb_may tb_tried tb_name) H locs → lv_has ls 6 [(0, .ref (ad 0)), (2, .int l2), (3, .int x6.1), (4, .int l4)] → W p l e (xR 3 65) s m args below meth c H locs 0 0 Q (F0 m 77 ls []) := by
        intro H locs ls G hl
        obtain ⟨x7, ex7⟩ : ∃ z : Int32, z = l4 + (1 : Int32) := ⟨_, rfl⟩
        have hf := lt_go ex7 hf
        refine lv_iinc (v := x7) (lv' := [(4, .int x7), (0, .ref (ad 0)), (2, .int l2), (3, .int x6.1)]) hx hb dX12_draws_77 hl (k := 3) rfl (by rw [ex7]; rfl) (by decide) rfl (fun ls hl => ?_)
        refine lv_goto (tgt := 9) hx hb dX12_draws_80 (by decide) ?_
        exact ih x6.1 x7 x6.2 _ _ _ G (lv_sub hl [1, 2, 3, 0] rfl) hf
      exact w_M_draws_m_M_L18 C Jx6 fu _ _ _ _ _ _ G (lv_sub hl [1, 2, 3, 4, 0] rfl) hr
set_option maxHeartbeats 4000000 in
set_option maxRecDepth 100000 in
theorem c_M_draws_m_M {l : Launch} {E : xE} {ad : Nat → Nat} {m_thrown m_trouble m_where m_taped m_size m_spot m_sort m_place m_number m_fault m_wrongAt m_acts m_images m_matchNow m_slopsNow m_matchesNow m_fedBest m_slopsBest m_sawBest m_leastNow m_stableNow m_fitsNow m_someNow m_everyNow m_askLeft tb_seats tb_slack tb_saw tb_quarrel tb_people tb_pairs tb_forks tb_unsures tb_trieds tb_fed : Int32} {m_rv : Value} {m_tape m_v m_x m_past m_kept m_slopped m_seatBest m_otherIn tb_seat tb_one tb_other tb_years tb_kind tb_unsure tb_may tb_tried : Nat → Int32} {m_word : Int64} {tb_name : Nat → Int64} {l1 : Int32} {l2 : Int32} {R0 : (Nat → Int32)} (hf : f_M_draws l1 l2 m_v m_x tb_saw tb_quarrel = some R0) : xV l E yX12_draws cX12_draws 6 none 3 65 [.ref (ad 0), .int l1, .int l2] (wM E ad m_thrown m_trouble m_where m_rv m_tape m_taped m_size m_spot m_sort m_place m_number m_fault m_wrongAt m_word m_v m_x m_past m_kept m_acts m_images m_matchNow m_slopsNow m_matchesNow m_slopped m_seatBest m_fedBest m_slopsBest m_sawBest m_leastNow m_stableNow m_fitsNow m_someNow m_everyNow m_otherIn m_askLeft tb_seats tb_slack tb_saw tb_quarrel tb_people tb_pairs tb_forks tb_unsures tb_trieds tb_fed tb_seat tb_one tb_other tb_years tb_kind tb_unsure tb_may tb_tried tb_name) (wM E ad m_thrown m_trouble m_where m_rv m_tape m_taped m_size m_spot m_sort m_place m_number m_fault m_wrongAt m_word m_v R0 m_past m_kept m_acts m_images m_matchNow m_slopsNow m_matchesNow m_slopped m_seatBest m_fedBest m_slopsBest m_sawBest m_leastNow m_stableNow m_fitsNow m_someNow m_everyNow m_otherIn m_askLeft tb_seats tb_slack tb_saw tb_quarrel tb_people tb_pairs tb_forks tb_unsures tb_trieds tb_fed tb_seat tb_one tb_other tb_years tb_kind tb_unsure tb_may tb_tried tb_name) := by
  refine xV_of (by decide) (Nat.le_of_ble_eq_true rfl) (fun p e s m args below meth c A C ls hl G => ?_)
  have hx := C.1
  have hb := C.2.1
  have hl : lv_has ls 6 [(0, .ref (ad 0)), (1, .int l1), (2, .int l2)] := hl
  unfold f_M_draws at hf
  refine lv_iload_n hx hb dX12_draws_0 rfl (lv_at hl 1 rfl) ?_
  refine lv_istore_n (lv' := [(3, .int l1), (0, .ref (ad 0)), (1, .int l1), (2, .int l2)]) hx hb dX12_draws_1 rfl hl (by decide) rfl (fun ls hl => ?_)
  refine lv_aload_n hx hb dX12_draws_2 rfl (lv_at hl 1 rfl) ?_
  obtain ⟨x1, hc, hf⟩ := bd_go hf
  refine xV_V C G (c_M_works_m_M hc) mX12_works kX12_333 (wM_at0) rfl ⟨Nat.le_of_ble_eq_true rfl, Nat.le_of_ble_eq_true rfl⟩ rfl hl.1 rfl (Nat.le_of_ble_eq_true rfl) ⟨Nat.le_refl _, Nat.le_refl _⟩ dX12_draws_3 (fun H locs G => ?_)
  refine lv_iconst (v := 0) hx hb dX12_draws_6 (by decide) ?_
  refine lv_istore (lv' := [(4, .int (0 : Int32)), (3, .int l1), (0, .ref (ad 0)), (1, .int l1), (2, .int l2)]) hx hb dX12_draws_7 hl (by decide) rfl (fun ls hl => ?_)
  obtain ⟨x8, hr, hf⟩ := bd_go hf
  have Jx8 : ∀ (H : Heap) (locs : List Loc) (ls : Array Slot), xG s E A (wM E ad m_thrown m_trouble m_where m_rv m_tape m_taped m_size m_spot m_sort m_place m_number m_fault m_wrongAt m_word m_v x8 m_past m_kept m_acts m_images m_matchNow m_slopsNow m_matchesNow m_slopped m_seatBest m_fedBest m_slopsBest m_sawBest m_leastNow m_stableNow m_fitsNow m_someNow m_everyNow m_otherIn m_askLeft tb_seats tb_slack tb_saw tb_quarrel tb_people tb_pairs tb_forks tb_unsures tb_trieds tb_fed tb_seat tb_one tb_other tb_years tb_kind tb_unsure tb_may tb_tried tb_name) H locs → lv_has ls 6 [] → W p l e (xR 3 65) s m args below meth c H locs 0 0 (MQ below (xqV E A (wM E ad m_thrown m_trouble m_where m_rv m_tape m_taped m_size m_spot m_sort m_place m_number m_fault m_wrongAt m_word m_v R0 m_past m_kept m_acts m_images m_matchNow m_slopsNow m_matchesNow m_slopped m_seatBest m_fedBest m_slopsBest m_sawBest m_leastNow m_stableNow m_fitsNow m_someNow m_everyNow m_otherIn m_askLeft tb_seats tb_slack tb_saw tb_quarrel tb_people tb_pairs tb_forks tb_unsures tb_trieds tb_fed tb_seat tb_one tb_other tb_years tb_kind tb_unsure tb_may tb_tried tb_name)) args s 0 0 A) (F0 m 83 ls []) := by
    intro H locs ls G hl
    obtain rfl := Option.some.inj hf
    exact xV_ret C G dX12_draws_83
  exact w_M_draws_m_M_L9 C Jx8 fu _ _ _ _ _ _ G (lv_sub hl [2, 4, 1, 0] rfl) hr
set_option maxHeartbeats 4000000 in
set_option maxRecDepth 100000 in
theorem c_M_drawnHandle_m_M {l : Launch} {E : xE} {ad : Nat → Nat} {m_thrown m_trouble m_where m_taped m_size m_spot m_sort m_place m_number m_fault m_wrongAt m_acts m_images m_matchNow m_slopsNow m_matchesNow m_fedBest m_slopsBest m_sawBest m_leastNow m_stableNow m_fitsNow m_someNow m_everyNow m_askLeft tb_seats tb_slack tb_saw tb_quarrel tb_people tb_pairs tb_forks tb_unsures tb_trieds tb_fed : Int32} {m_rv : Value} {m_tape m_v m_x m_past m_kept m_slopped m_seatBest m_otherIn tb_seat tb_one tb_other tb_years tb_kind tb_unsure tb_may tb_tried : Nat → Int32} {m_word : Int64} {tb_name : Nat → Int64} {l1 : Int32} {l2 : Int32} {l3 : Int32} {R0 : Int32 × Int32 × Int32 × Int32 × (Nat → Int32)} (hf : f_M_drawnHandle l1 l2 l3 m_v m_x tb_saw tb_quarrel = some R0) : xI l E yX12_drawnHandle cX12_drawnHandle 5 (some .int) 4 90 [.ref (ad 0), .int l1, .int l2, .int l3] (wM E ad m_thrown m_trouble m_where m_rv m_tape m_taped m_size m_spot m_sort m_place m_number m_fault m_wrongAt m_word m_v m_x m_past m_kept m_acts m_images m_matchNow m_slopsNow m_matchesNow m_slopped m_seatBest m_fedBest m_slopsBest m_sawBest m_leastNow m_stableNow m_fitsNow m_someNow m_everyNow m_otherIn m_askLeft tb_seats tb_slack tb_saw tb_quarrel tb_people tb_pairs tb_forks tb_unsures tb_trieds tb_fed tb_seat tb_one tb_other tb_years tb_kind tb_unsure tb_may tb_tried tb_name) (wM E ad R0.2.1 R0.2.2.1 R0.2.2.2.1 m_rv m_tape m_taped m_size m_spot m_sort m_place m_number m_fault m_wrongAt m_word m_v R0.2.2.2.2 m_past m_kept m_acts m_images m_matchNow m_slopsNow m_matchesNow m_slopped m_seatBest m_fedBest m_slopsBest m_sawBest m_leastNow m_stableNow m_fitsNow m_someNow m_everyNow m_otherIn m_askLeft tb_seats tb_slack tb_saw tb_quarrel tb_people tb_pairs tb_forks tb_unsures tb_trieds tb_fed tb_seat tb_one tb_other tb_years tb_kind tb_unsure tb_may tb_tried tb_name) R0.1 := by
  refine xI_of (by decide) (Nat.le_of_ble_eq_true rfl) (fun p e s m args below meth c A C ls hl G => ?_)
  have hx := C.1
  have hb := C.2.1
  have hl : lv_has ls 5 [(0, .ref (ad 0)), (1, .int l1), (2, .int l2), (3, .int l3)] := hl
  unfold f_M_drawnHandle at hf
  refine lv_aload_n hx hb dX12_drawnHandle_0 rfl (lv_at hl 0 rfl) ?_
  refine lv_iconst (v := 0) hx hb dX12_drawnHandle_1 (by decide) ?_
  refine x_put (ws' := (wM E ad (0 : Int32) m_trouble m_where m_rv m_tape m_taped m_size m_spot m_sort m_place m_number m_fault m_wrongAt m_word m_v m_x m_past m_kept m_acts m_images m_matchNow m_slopsNow m_matchesNow m_slopped m_seatBest m_fedBest m_slopsBest m_sawBest m_leastNow m_stableNow m_fitsNow m_someNow m_everyNow m_otherIn m_askLeft tb_seats tb_slack tb_saw tb_quarrel tb_people tb_pairs tb_forks tb_unsures tb_trieds tb_fed tb_seat tb_one tb_other tb_years tb_kind tb_unsure tb_may tb_tried tb_name)) C G fX12_39 (wM_at0) rfl rfl (Nat.le_of_ble_eq_true rfl) wM_set_m_thrown dX12_drawnHandle_2 (fun H locs G => ?_)
  refine lv_aload_n hx hb dX12_drawnHandle_5 rfl (lv_at hl 0 rfl) ?_
  refine lv_aload_n hx hb dX12_drawnHandle_6 rfl (lv_at hl 0 rfl) ?_
  refine lv_iload_n hx hb dX12_drawnHandle_7 rfl (lv_at hl 1 rfl) ?_
  obtain ⟨x1, hc, hf⟩ := bd_go hf
  refine xI_V C G (c_M_isPair_m_M hc) mX12_isPair kX12_330 (wM_at0) rfl ⟨Nat.le_of_ble_eq_true rfl, Nat.le_of_ble_eq_true rfl⟩ rfl hl.1 rfl (Nat.le_of_ble_eq_true rfl) ⟨Nat.le_refl _, Nat.le_refl _⟩ dX12_drawnHandle_8 (fun hz1 H locs G => ?_)
  refine lv_iload_n hx hb dX12_drawnHandle_11 rfl (lv_at hl 2 rfl) ?_
  refine lv_iload_n hx hb dX12_drawnHandle_12 rfl (lv_at hl 3 rfl) ?_
  obtain ⟨x2, hc, hf⟩ := bd_go hf
  refine xI_V C G (c_M_refusesDraw_m_M hc) mX12_refusesDraw kX12_510 (wM_at0) rfl ⟨Nat.le_of_ble_eq_true rfl, Nat.le_of_ble_eq_true rfl⟩ rfl hl.1 rfl (Nat.le_of_ble_eq_true rfl) ⟨Nat.le_refl _, Nat.le_refl _⟩ dX12_drawnHandle_13 (fun hz H locs G => ?_)
  refine lv_istore (lv' := [(4, .int x2), (0, .ref (ad 0)), (1, .int l1), (2, .int l2), (3, .int l3)]) hx hb dX12_drawnHandle_16 hl (by decide) rfl (fun ls hl => ?_)
  refine lv_iload hx hb dX12_drawnHandle_18 (lv_at hl 0 rfl) ?_
  refine lv_if_le (tgt := 30) hx hb dX12_drawnHandle_20 (by decide) (fun h => ?_) (fun h => ?_)
  · have hf := it_t h hf
    refine lv_aload_n hx hb dX12_drawnHandle_30 rfl (lv_at hl 1 rfl) ?_
    refine lv_iload_n hx hb dX12_drawnHandle_31 rfl (lv_at hl 3 rfl) ?_
    refine lv_iload_n hx hb dX12_drawnHandle_32 rfl (lv_at hl 4 rfl) ?_
    obtain ⟨x3, hc, hf⟩ := bd_go hf
    refine xV_V C G (c_M_draws_m_M hc) mX12_draws kX12_514 (wM_at0) rfl ⟨Nat.le_of_ble_eq_true rfl, Nat.le_of_ble_eq_true rfl⟩ rfl hl.1 rfl (Nat.le_of_ble_eq_true rfl) ⟨Nat.le_refl _, Nat.le_refl _⟩ dX12_drawnHandle_33 (fun H locs G => ?_)
    refine lv_aload_n hx hb dX12_drawnHandle_36 rfl (lv_at hl 1 rfl) ?_
    refine lv_aload_n hx hb dX12_drawnHandle_37 rfl (lv_at hl 1 rfl) ?_
    refine lv_iload_n hx hb dX12_drawnHandle_38 rfl (lv_at hl 2 rfl) ?_
    obtain ⟨x4, hc, hf⟩ := bd_go hf
    refine xI_V C G (c_M_handleOf_m_M hc) mX12_handleOf kX12_321 (wM_at0) rfl ⟨Nat.le_of_ble_eq_true rfl, Nat.le_of_ble_eq_true rfl⟩ rfl hl.1 rfl (Nat.le_of_ble_eq_true rfl) ⟨Nat.le_refl _, Nat.le_refl _⟩ dX12_drawnHandle_39 (fun hz H locs G => ?_)
    obtain ⟨x5, hc, hf⟩ := bd_go hf
    refine xI_V C G (c_M_good_m_M hc) mX12_good kX12_49 (wM_at0) rfl ⟨Nat.le_of_ble_eq_true rfl, Nat.le_of_ble_eq_true rfl⟩ rfl hl.1 rfl (Nat.le_of_ble_eq_true rfl) ⟨Nat.le_refl _, Nat.le_refl _⟩ dX12_drawnHandle_42 (fun hz H locs G => ?_)
    obtain rfl := Option.some.inj hf
    exact xI_ret C G rfl dX12_drawnHandle_45
  · have hf := it_f h hf
    refine lv_aload_n hx hb dX12_drawnHandle_23 rfl (lv_at hl 1 rfl) ?_
    refine lv_iload hx hb dX12_drawnHandle_24 (lv_at hl 0 rfl) ?_
    obtain ⟨x6, hc, hf⟩ := bd_go hf
    refine xI_V C G (c_M_refused_m_M hc) mX12_refused kX12_45 (wM_at0) rfl ⟨Nat.le_of_ble_eq_true rfl, Nat.le_of_ble_eq_true rfl⟩ rfl hl.1 rfl (Nat.le_of_ble_eq_true rfl) ⟨Nat.le_refl _, Nat.le_refl _⟩ dX12_drawnHandle_26 (fun hz H locs G => ?_)
    obtain rfl := Option.some.inj hf
    exact xI_ret C G rfl dX12_drawnHandle_29
set_option maxHeartbeats 4000000 in
set_option maxRecDepth 100000 in
theorem c_M_drawnFed_m_M {l : Launch} {E : xE} {ad : Nat → Nat} {m_thrown m_trouble m_where m_taped m_size m_spot m_sort m_place m_number m_fault m_wrongAt m_acts m_images m_matchNow m_slopsNow m_matchesNow m_fedBest m_slopsBest m_sawBest m_leastNow m_stableNow m_fitsNow m_someNow m_everyNow m_askLeft tb_seats tb_slack tb_saw tb_quarrel tb_people tb_pairs tb_forks tb_unsures tb_trieds tb_fed : Int32} {m_rv : Value} {m_tape m_v m_x m_past m_kept m_slopped m_seatBest m_otherIn tb_seat tb_one tb_other tb_years tb_kind tb_unsure tb_may tb_tried : Nat → Int32} {m_word : Int64} {tb_name : Nat → Int64} {l1 : Int32} {l2 : Int32} {R0 : Int32 × Int32 × Int32 × Int32 × (Nat → Int32) × Int32 × Int32 × Int32 × (Nat → Int32)} (hf : f_M_drawnFed l1 l2 m_v m_x m_matchNow m_slopsNow m_matchesNow m_slopped tb_seats tb_slack tb_saw tb_quarrel = some R0) : xI l E yX12_drawnFed cX12_drawnFed 4 (some .int) 5 109 [.ref (ad 0), .int l1, .int l2] (wM E ad m_thrown m_trouble m_where m_rv m_tape m_taped m_size m_spot m_sort m_place m_number m_fault m_wrongAt m_word m_v m_x m_past m_kept m_acts m_images m_matchNow m_slopsNow m_matchesNow m_slopped m_seatBest m_fedBest m_slopsBest m_sawBest m_leastNow m_stableNow m_fitsNow m_someNow m_everyNow m_otherIn m_askLeft tb_seats tb_slack tb_saw tb_quarrel tb_people tb_pairs tb_forks tb_unsures tb_trieds tb_fed tb_seat tb_one tb_other tb_years tb_kind tb_unsure tb_may tb_tried tb_name) (wM E ad R0.2.1 R0.2.2.1 R0.2.2.2.1 m_rv m_tape m_taped m_size m_spot m_sort m_place m_number m_fault m_wrongAt m_word m_v R0.2.2.2.2.1 m_past m_kept m_acts m_images R0.2.2.2.2.2.1 R0.2.2.2.2.2.2.1 R0.2.2.2.2.2.2.2.1 R0.2.2.2.2.2.2.2.2 m_seatBest m_fedBest m_slopsBest m_sawBest m_leastNow m_stableNow m_fitsNow m_someNow m_everyNow m_otherIn m_askLeft tb_seats tb_slack tb_saw tb_quarrel tb_people tb_pairs tb_forks tb_unsures tb_trieds tb_fed tb_seat tb_one tb_other tb_years tb_kind tb_unsure tb_may tb_tried tb_name) R0.1 := by
  refine xI_of (by decide) (Nat.le_of_ble_eq_true rfl) (fun p e s m args below meth c A C ls hl G => ?_)
  have hx := C.1
  have hb := C.2.1
  have hl : lv_has ls 4 [(0, .ref (ad 0)), (1, .int l1), (2, .int l2)] := hl
  unfold f_M_drawnFed at hf
  refine lv_aload_n hx hb dX12_drawnFed_0 rfl (lv_at hl 0 rfl) ?_
  refine lv_iconst (v := 0) hx hb dX12_drawnFed_1 (by decide) ?_
  refine x_put (ws' := (wM E ad (0 : Int32) m_trouble m_where m_rv m_tape m_taped m_size m_spot m_sort m_place m_number m_fault m_wrongAt m_word m_v m_x m_past m_kept m_acts m_images m_matchNow m_slopsNow m_matchesNow m_slopped m_seatBest m_fedBest m_slopsBest m_sawBest m_leastNow m_stableNow m_fitsNow m_someNow m_everyNow m_otherIn m_askLeft tb_seats tb_slack tb_saw tb_quarrel tb_people tb_pairs tb_forks tb_unsures tb_trieds tb_fed tb_seat tb_one tb_other tb_years tb_kind tb_unsure tb_may tb_tried tb_name)) C G fX12_39 (wM_at0) rfl rfl (Nat.le_of_ble_eq_true rfl) wM_set_m_thrown dX12_drawnFed_2 (fun H locs G => ?_)
  refine lv_aload_n hx hb dX12_drawnFed_5 rfl (lv_at hl 0 rfl) ?_
  refine lv_aload_n hx hb dX12_drawnFed_6 rfl (lv_at hl 0 rfl) ?_
  refine x_get C G fX12_298.g (wM_at0) rfl dX12_drawnFed_7 ?_
  refine lv_ifnull hx hb dX12_drawnFed_10 ?_
  refine lv_iconst (v := 1) hx hb dX12_drawnFed_13 (by decide) ?_
  refine lv_goto (tgt := 18) hx hb dX12_drawnFed_14 (by decide) ?_
  refine lv_iload_n hx hb dX12_drawnFed_18 rfl (lv_at hl 1 rfl) ?_
  refine lv_iload_n hx hb dX12_drawnFed_19 rfl (lv_at hl 2 rfl) ?_
  obtain ⟨x1, hc, hf⟩ := bd_go hf
  refine xI_V C G (c_M_refusesDraw_m_M hc) mX12_refusesDraw kX12_510 (wM_at0) rfl ⟨Nat.le_of_ble_eq_true rfl, Nat.le_of_ble_eq_true rfl⟩ rfl hl.1 rfl (Nat.le_of_ble_eq_true rfl) ⟨Nat.le_refl _, Nat.le_refl _⟩ dX12_drawnFed_20 (fun hz H locs G => ?_)
  refine lv_istore_n (lv' := [(3, .int x1), (0, .ref (ad 0)), (1, .int l1), (2, .int l2)]) hx hb dX12_drawnFed_23 rfl hl (by decide) rfl (fun ls hl => ?_)
  refine lv_iload_n hx hb dX12_drawnFed_24 rfl (lv_at hl 0 rfl) ?_
  refine lv_if_le (tgt := 34) hx hb dX12_drawnFed_25 (by decide) (fun h => ?_) (fun h => ?_)
  · have hf := it_t h hf
    refine lv_aload_n hx hb dX12_drawnFed_34 rfl (lv_at hl 1 rfl) ?_
    refine lv_iload_n hx hb dX12_drawnFed_35 rfl (lv_at hl 2 rfl) ?_
    refine lv_iload_n hx hb dX12_drawnFed_36 rfl (lv_at hl 3 rfl) ?_
    obtain ⟨x2, hc, hf⟩ := bd_go hf
    refine xV_V C G (c_M_draws_m_M hc) mX12_draws kX12_514 (wM_at0) rfl ⟨Nat.le_of_ble_eq_true rfl, Nat.le_of_ble_eq_true rfl⟩ rfl hl.1 rfl (Nat.le_of_ble_eq_true rfl) ⟨Nat.le_refl _, Nat.le_refl _⟩ dX12_drawnFed_37 (fun H locs G => ?_)
    refine lv_aload_n hx hb dX12_drawnFed_40 rfl (lv_at hl 1 rfl) ?_
    refine lv_aload_n hx hb dX12_drawnFed_41 rfl (lv_at hl 1 rfl) ?_
    obtain ⟨x3, hc, hf⟩ := bd_go hf
    refine xI_V C G (c_M_matching_m_M hc) mX12_matching kX12_366 (wM_at0) rfl ⟨Nat.le_of_ble_eq_true rfl, Nat.le_of_ble_eq_true rfl⟩ rfl hl.1 rfl (Nat.le_of_ble_eq_true rfl) ⟨Nat.le_refl _, Nat.le_refl _⟩ dX12_drawnFed_42 (fun hz H locs G => ?_)
    obtain ⟨x4, hc, hf⟩ := bd_go hf
    refine xI_V C G (c_M_good_m_M hc) mX12_good kX12_49 (wM_at0) rfl ⟨Nat.le_of_ble_eq_true rfl, Nat.le_of_ble_eq_true rfl⟩ rfl hl.1 rfl (Nat.le_of_ble_eq_true rfl) ⟨Nat.le_refl _, Nat.le_refl _⟩ dX12_drawnFed_45 (fun hz H locs G => ?_)
    obtain rfl := Option.some.inj hf
    exact xI_ret C G rfl dX12_drawnFed_48
  · have hf := it_f h hf
    refine lv_aload_n hx hb dX12_drawnFed_28 rfl (lv_at hl 1 rfl) ?_
    refine lv_iload_n hx hb dX12_drawnFed_29 rfl (lv_at hl 0 rfl) ?_
    obtain ⟨x5, hc, hf⟩ := bd_go hf
    refine xI_V C G (c_M_refused_m_M hc) mX12_refused kX12_45 (wM_at0) rfl ⟨Nat.le_of_ble_eq_true rfl, Nat.le_of_ble_eq_true rfl⟩ rfl hl.1 rfl (Nat.le_of_ble_eq_true rfl) ⟨Nat.le_refl _, Nat.le_refl _⟩ dX12_drawnFed_30 (fun hz H locs G => ?_)
    obtain rfl := Option.some.inj hf
    exact xI_ret C G rfl dX12_drawnFed_33
set_option maxHeartbeats 4000000 in
set_option maxRecDepth 100000 in
theorem w_M_remembers_m_M_L51 {p : Program} {l : Launch} {e : Env} {s : State} {m : MethodId} {args : Array Value} {below : List Frame} {meth : Method} {c : Code} {A : Nat → Prop} {E : xE} {Q : State → Prop} {ad : Nat → Nat} {m_thrown m_trouble m_where m_taped m_size m_spot m_sort m_place m_number m_fault m_wrongAt m_acts m_images m_matchNow m_slopsNow m_matchesNow m_fedBest m_slopsBest m_sawBest m_leastNow m_stableNow m_fitsNow m_someNow m_everyNow m_askLeft tb_seats tb_slack tb_saw tb_quarrel tb_people tb_pairs tb_forks tb_unsures tb_trieds tb_fed : Int32} {m_rv : Value} {m_tape m_v m_x m_kept m_slopped m_seatBest m_otherIn tb_seat tb_one tb_other tb_years tb_kind tb_unsure tb_may tb_tried : Nat → Int32} {m_word : Int64} {tb_name : Nat → Int64} {o : (Nat → Int32)} (C : xC p s m args meth c cX12_remembers 2 RX12 E A none) (J : ∀ (H : Heap) (locs : List Loc) (ls : Array Slot), xG s E A (wM E ad m_thrown m_trouble m_where m_rv m_tape m_taped m_size m_spot m_sort m_place m_number m_fault m_wrongAt m_word m_v m_x o m_kept m_acts m_images m_matchNow m_slopsNow m_matchesNow m_slopped m_seatBest m_fedBest m_slopsBest m_sawBest m_leastNow m_stableNow m_fitsNow m_someNow m_everyNow m_otherIn m_askLeft tb_seats tb_slack tb_saw tb_quarrel tb_people tb_pairs tb_forks tb_unsures tb_trieds tb_fed tb_seat tb_one tb_other tb_years tb_kind tb_unsure tb_may tb_tried tb_name) H locs → lv_has ls 2 [(0, .ref (ad 0))] → W p l e (xR 0 0) s m args below meth c H locs 0 0 Q (F0 m 83 ls [])) :
    ∀ (n : Nat) (l1 : Int32) (m_past : Nat → Int32) (H : Heap) (locs : List Loc) (ls : Array Slot), xG s E A (wM E ad m_thrown m_trouble m_where m_rv m_tape m_taped m_size m_spot m_sort m_place m_number m_fault m_wrongAt m_word m_v m_x m_past m_kept m_acts m_images m_matchNow m_slopsNow m_matchesNow m_slopped m_seatBest m_fedBest m_slopsBest m_sawBest m_leastNow m_stableNow m_fitsNow m_someNow m_everyNow m_otherIn m_askLeft tb_seats tb_slack tb_saw tb_quarrel tb_people tb_pairs tb_forks tb_unsures tb_trieds tb_fed tb_seat tb_one tb_other tb_years tb_kind tb_unsure tb_may tb_tried tb_name) H locs → lv_has ls 2 [(0, .ref (ad 0)), (1, .int l1)] → f_M_remembers_L51 m_v m_acts n l1 m_past = some o → W p l e (xR 0 0) s m args below meth c H locs 0 0 Q (F0 m 51 ls []) := by
  have hx := C.1
  have hb := C.2.1
  intro n
  induction n with
  | zero =>
    intro l1 m_past H locs ls G hl hf
    exact nomatch (show (none : Option ((Nat → Int32))) = some o from hf)
  | succ n ih =>
    intro l1 m_past H locs ls G hl hf
    rw [f_M_remembers_L51] at hf
    refine lv_iload_n hx hb dX12_remembers_51 rfl (lv_at hl 1 rfl) ?_
    refine lv_bipush (v := 58) hx hb dX12_remembers_52 (by decide) ?_
    refine lv_icmp_ge (tgt := 83) hx hb dX12_remembers_54 (by decide) (fun h => ?_) (fun h => ?_)
    · have hf := it_t h hf
      obtain rfl := Option.some.inj hf
      exact J _ _ _ G (lv_sub hl [0] rfl)
    · have hf := it_f h hf
      refine lv_aload_n hx hb dX12_remembers_57 rfl (lv_at hl 0 rfl) ?_
      refine x_get C G fX12_24 (wM_at0) rfl dX12_remembers_58 ?_
      refine lv_bipush (v := 58) hx hb dX12_remembers_61 (by decide) ?_
      refine lv_aload_n hx hb dX12_remembers_63 rfl (lv_at hl 0 rfl) ?_
      refine x_get C G fX12_303.g (wM_at0) rfl dX12_remembers_64 ?_
      refine lv_imul hx hb dX12_remembers_67 ?_
      refine lv_iload_n hx hb dX12_remembers_68 rfl (lv_at hl 1 rfl) ?_
      refine lv_iadd hx hb dX12_remembers_69 ?_
      refine lv_aload_n hx hb dX12_remembers_70 rfl (lv_at hl 0 rfl) ?_
      refine x_get C G fX12_17 (wM_at0) rfl dX12_remembers_71 ?_
      refine lv_iload_n hx hb dX12_remembers_74 rfl (lv_at hl 1 rfl) ?_
      have hi := ck_in hf
      have hf := ck_go hf
      refine x_iald C G (wM_at2) hi dX12_remembers_75 ?_
      have hi := ck_in hf
      have hf := ck_go hf
      refine x_iast (ws' := (wM E ad m_thrown m_trouble m_where m_rv m_tape m_taped m_size m_spot m_sort m_place m_number m_fault m_wrongAt m_word m_v m_x (upd m_past (((58 : Int32) * m_acts) + l1).toNatClampNeg (m_v l1.toNatClampNeg)) m_kept m_acts m_images m_matchNow m_slopsNow m_matchesNow m_slopped m_seatBest m_fedBest m_slopsBest m_sawBest m_leastNow m_stableNow m_fitsNow m_someNow m_everyNow m_otherIn m_askLeft tb_seats tb_slack tb_saw tb_quarrel tb_people tb_pairs tb_forks tb_unsures tb_trieds tb_fed tb_seat tb_one tb_other tb_years tb_kind tb_unsure tb_may tb_tried tb_name)) C G (wM_at4) hi wM_set_m_past dX12_remembers_76 (fun H locs G => ?_)
      obtain ⟨x2, ex2⟩ : ∃ z : Int32, z = l1 + (1 : Int32) := ⟨_, rfl⟩
      have hf := lt_go ex2 hf
      refine lv_iinc (v := x2) (lv' := [(1, .int x2), (0, .ref (ad 0))]) hx hb dX12_remembers_77 hl (k := 1) rfl (by rw [ex2]; rfl) (by decide) rfl (fun ls hl => ?_)
      refine lv_goto (tgt := 51) hx hb dX12_remembers_80 (by decide) ?_
      exact ih x2 (upd m_past (((58 : Int32) * m_acts) + l1).toNatClampNeg (m_v l1.toNatClampNeg)) _ _ _ G (lv_sub hl [1, 0] rfl) hf
set_option maxHeartbeats 4000000 in
set_option maxRecDepth 100000 in
theorem w_M_remembers_m_M_L11 {p : Program} {l : Launch} {e : Env} {s : State} {m : MethodId} {args : Array Value} {below : List Frame} {meth : Method} {c : Code} {A : Nat → Prop} {E : xE} {Q : State → Prop} {ad : Nat → Nat} {m_thrown m_trouble m_where m_taped m_size m_spot m_sort m_place m_number m_fault m_wrongAt m_acts m_images m_matchNow m_slopsNow m_matchesNow m_fedBest m_slopsBest m_sawBest m_leastNow m_stableNow m_fitsNow m_someNow m_everyNow m_askLeft tb_seats tb_slack tb_saw tb_quarrel tb_people tb_pairs tb_forks tb_unsures tb_trieds tb_fed : Int32} {m_rv : Value} {m_tape m_v m_x m_kept m_slopped m_seatBest m_otherIn tb_seat tb_one tb_other tb_years tb_kind tb_unsure tb_may tb_tried : Nat → Int32} {m_word : Int64} {tb_name : Nat → Int64} {o : (Nat → Int32)} (C : xC p s m args meth c cX12_remembers 2 RX12 E A none) (J : ∀ (H : Heap) (locs : List Loc) (ls : Array Slot), xG s E A (wM E ad m_thrown m_trouble m_where m_rv m_tape m_taped m_size m_spot m_sort m_place m_number m_fault m_wrongAt m_word m_v m_x o m_kept m_acts m_images m_matchNow m_slopsNow m_matchesNow m_slopped m_seatBest m_fedBest m_slopsBest m_sawBest m_leastNow m_stableNow m_fitsNow m_someNow m_everyNow m_otherIn m_askLeft tb_seats tb_slack tb_saw tb_quarrel tb_people tb_pairs tb_forks tb_unsures tb_trieds tb_fed tb_seat tb_one tb_other tb_years tb_kind tb_unsure tb_may tb_tried tb_name) H locs → lv_has ls 2 [(0, .ref (ad 0))] → W p l e (xR 0 0) s m args below meth c H locs 0 0 Q (F0 m 39 ls [])) :
    ∀ (n : Nat) (l1 : Int32) (m_past : Nat → Int32) (H : Heap) (locs : List Loc) (ls : Array Slot), xG s E A (wM E ad m_thrown m_trouble m_where m_rv m_tape m_taped m_size m_spot m_sort m_place m_number m_fault m_wrongAt m_word m_v m_x m_past m_kept m_acts m_images m_matchNow m_slopsNow m_matchesNow m_slopped m_seatBest m_fedBest m_slopsBest m_sawBest m_leastNow m_stableNow m_fitsNow m_someNow m_everyNow m_otherIn m_askLeft tb_seats tb_slack tb_saw tb_quarrel tb_people tb_pairs tb_forks tb_unsures tb_trieds tb_fed tb_seat tb_one tb_other tb_years tb_kind tb_unsure tb_may tb_tried tb_name) H locs → lv_has ls 2 [(0, .ref (ad 0)), (1, .int l1)] → f_M_remembers_L11 n l1 m_past = some o → W p l e (xR 0 0) s m args below meth c H locs 0 0 Q (F0 m 11 ls []) := by
  have hx := C.1
  have hb := C.2.1
  intro n
  induction n with
  | zero =>
    intro l1 m_past H locs ls G hl hf
    exact nomatch (show (none : Option ((Nat → Int32))) = some o from hf)
  | succ n ih =>
    intro l1 m_past H locs ls G hl hf
    rw [f_M_remembers_L11] at hf
    refine lv_iload_n hx hb dX12_remembers_11 rfl (lv_at hl 1 rfl) ?_
    refine lv_sipush (v := 870) hx hb dX12_remembers_12 (by decide) ?_
    refine lv_icmp_ge (tgt := 39) hx hb dX12_remembers_15 (by decide) (fun h => ?_) (fun h => ?_)
    · have hf := it_t h hf
      obtain rfl := Option.some.inj hf
      exact J _ _ _ G (lv_sub hl [0] rfl)
    · have hf := it_f h hf
      refine lv_aload_n hx hb dX12_remembers_18 rfl (lv_at hl 0 rfl) ?_
      refine x_get C G fX12_24 (wM_at0) rfl dX12_remembers_19 ?_
      refine lv_iload_n hx hb dX12_remembers_22 rfl (lv_at hl 1 rfl) ?_
      refine lv_aload_n hx hb dX12_remembers_23 rfl (lv_at hl 0 rfl) ?_
      refine x_get C G fX12_24 (wM_at0) rfl dX12_remembers_24 ?_
      refine lv_iload_n hx hb dX12_remembers_27 rfl (lv_at hl 1 rfl) ?_
      refine lv_bipush (v := 58) hx hb dX12_remembers_28 (by decide) ?_
      refine lv_iadd hx hb dX12_remembers_30 ?_
      have hi := ck_in hf
      have hf := ck_go hf
      refine x_iald C G (wM_at4) hi dX12_remembers_31 ?_
      have hi := ck_in hf
      have hf := ck_go hf
      refine x_iast (ws' := (wM E ad m_thrown m_trouble m_where m_rv m_tape m_taped m_size m_spot m_sort m_place m_number m_fault m_wrongAt m_word m_v m_x (upd m_past l1.toNatClampNeg (m_past (l1 + (58 : Int32)).toNatClampNeg)) m_kept m_acts m_images m_matchNow m_slopsNow m_matchesNow m_slopped m_seatBest m_fedBest m_slopsBest m_sawBest m_leastNow m_stableNow m_fitsNow m_someNow m_everyNow m_otherIn m_askLeft tb_seats tb_slack tb_saw tb_quarrel tb_people tb_pairs tb_forks tb_unsures tb_trieds tb_fed tb_seat tb_one tb_other tb_years tb_kind tb_unsure tb_may tb_tried tb_name)) C G (wM_at4) hi wM_set_m_past dX12_remembers_32 (fun H locs G => ?_)
      obtain ⟨x5, ex5⟩ : ∃ z : Int32, z = l1 + (1 : Int32) := ⟨_, rfl⟩
      have hf := lt_go ex5 hf
      refine lv_iinc (v := x5) (lv' := [(1, .int x5), (0, .ref (ad 0))]) hx hb dX12_remembers_33 hl (k := 1) rfl (by rw [ex5]; rfl) (by decide) rfl (fun ls hl => ?_)
      refine lv_goto (tgt := 11) hx hb dX12_remembers_36 (by decide) ?_
      exact ih x5 (upd m_past l1.toNatClampNeg (m_past (l1 + (58 : Int32)).toNatClampNeg)) _ _ _ G (lv_sub hl [1, 0] rfl) hf
set_option maxHeartbeats 4000000 in
set_option maxRecDepth 100000 in
theorem c_M_remembers_m_M {l : Launch} {E : xE} {ad : Nat → Nat} {m_thrown m_trouble m_where m_taped m_size m_spot m_sort m_place m_number m_fault m_wrongAt m_acts m_images m_matchNow m_slopsNow m_matchesNow m_fedBest m_slopsBest m_sawBest m_leastNow m_stableNow m_fitsNow m_someNow m_everyNow m_askLeft tb_seats tb_slack tb_saw tb_quarrel tb_people tb_pairs tb_forks tb_unsures tb_trieds tb_fed : Int32} {m_rv : Value} {m_tape m_v m_x m_past m_kept m_slopped m_seatBest m_otherIn tb_seat tb_one tb_other tb_years tb_kind tb_unsure tb_may tb_tried : Nat → Int32} {m_word : Int64} {tb_name : Nat → Int64} {R0 : (Nat → Int32) × Int32} (hf : f_M_remembers m_v m_past m_acts = some R0) : xV l E yX12_remembers cX12_remembers 2 none 0 0 [.ref (ad 0)] (wM E ad m_thrown m_trouble m_where m_rv m_tape m_taped m_size m_spot m_sort m_place m_number m_fault m_wrongAt m_word m_v m_x m_past m_kept m_acts m_images m_matchNow m_slopsNow m_matchesNow m_slopped m_seatBest m_fedBest m_slopsBest m_sawBest m_leastNow m_stableNow m_fitsNow m_someNow m_everyNow m_otherIn m_askLeft tb_seats tb_slack tb_saw tb_quarrel tb_people tb_pairs tb_forks tb_unsures tb_trieds tb_fed tb_seat tb_one tb_other tb_years tb_kind tb_unsure tb_may tb_tried tb_name) (wM E ad m_thrown m_trouble m_where m_rv m_tape m_taped m_size m_spot m_sort m_place m_number m_fault m_wrongAt m_word m_v m_x R0.1 m_kept R0.2 m_images m_matchNow m_slopsNow m_matchesNow m_slopped m_seatBest m_fedBest m_slopsBest m_sawBest m_leastNow m_stableNow m_fitsNow m_someNow m_everyNow m_otherIn m_askLeft tb_seats tb_slack tb_saw tb_quarrel tb_people tb_pairs tb_forks tb_unsures tb_trieds tb_fed tb_seat tb_one tb_other tb_years tb_kind tb_unsure tb_may tb_tried tb_name) := by
  refine xV_of (by decide) (Nat.le_of_ble_eq_true rfl) (fun p e s m args below meth c A C ls hl G => ?_)
  have hx := C.1
  have hb := C.2.1
  have hl : lv_has ls 2 [(0, .ref (ad 0))] := hl
  unfold f_M_remembers at hf
  refine lv_aload_n hx hb dX12_remembers_0 rfl (lv_at hl 0 rfl) ?_
  refine x_get C G fX12_303.g (wM_at0) rfl dX12_remembers_1 ?_
  refine lv_bipush (v := 16) hx hb dX12_remembers_4 (by decide) ?_
  obtain ⟨x1, hrx1, hf⟩ := bd_go hf
  have Jx1 : ∀ (H : Heap) (locs : List Loc) (ls : Array Slot), xG s E A (wM E ad m_thrown m_trouble m_where m_rv m_tape m_taped m_size m_spot m_sort m_place m_number m_fault m_wrongAt m_word m_v m_x x1.1 m_kept x1.2 m_images m_matchNow m_slopsNow m_matchesNow m_slopped m_seatBest m_fedBest m_slopsBest m_sawBest m_leastNow m_stableNow m_fitsNow m_someNow m_everyNow m_otherIn m_askLeft tb_seats tb_slack tb_saw tb_quarrel tb_people tb_pairs tb_forks tb_unsures tb_trieds tb_fed tb_seat tb_one tb_other tb_years tb_kind tb_unsure tb_may tb_tried tb_name) H locs → lv_has ls 2 [(0, .ref (ad 0))] → W p l e (xR 0 0) s m args below meth c H locs 0 0 (MQ below (xqV E A (wM E ad m_thrown m_trouble m_where m_rv m_tape m_taped m_size m_spot m_sort m_place m_number m_fault m_wrongAt m_word m_v m_x R0.1 m_kept R0.2 m_images m_matchNow m_slopsNow m_matchesNow m_slopped m_seatBest m_fedBest m_slopsBest m_sawBest m_leastNow m_stableNow m_fitsNow m_someNow m_everyNow m_otherIn m_askLeft tb_seats tb_slack tb_saw tb_quarrel tb_people tb_pairs tb_forks tb_unsures tb_trieds tb_fed tb_seat tb_one tb_other tb_years tb_kind tb_unsure tb_may tb_tried tb_name)) args s 0 0 A) (F0 m 49 ls []) := by
    intro H locs ls G hl
    refine lv_iconst (v := 0) hx hb dX12_remembers_49 (by decide) ?_
    refine lv_istore_n (lv' := [(1, .int (0 : Int32)), (0, .ref (ad 0))]) hx hb dX12_remembers_50 rfl hl (by decide) rfl (fun ls hl => ?_)
    obtain ⟨x3, hr, hf⟩ := bd_go hf
    have Jx3 : ∀ (H : Heap) (locs : List Loc) (ls : Array Slot), xG s E A (wM E ad m_thrown m_trouble m_where m_rv m_tape m_taped m_size m_spot m_sort m_place m_number m_fault m_wrongAt m_word m_v m_x x3 m_kept x1.2 m_images m_matchNow m_slopsNow m_matchesNow m_slopped m_seatBest m_fedBest m_slopsBest m_sawBest m_leastNow m_stableNow m_fitsNow m_someNow m_everyNow m_otherIn m_askLeft tb_seats tb_slack tb_saw tb_quarrel tb_people tb_pairs tb_forks tb_unsures tb_trieds tb_fed tb_seat tb_one tb_other tb_years tb_kind tb_unsure tb_may tb_tried tb_name) H locs → lv_has ls 2 [(0, .ref (ad 0))] → W p l e (xR 0 0) s m args below meth c H locs 0 0 (MQ below (xqV E A (wM E ad m_thrown m_trouble m_where m_rv m_tape m_taped m_size m_spot m_sort m_place m_number m_fault m_wrongAt m_word m_v m_x R0.1 m_kept R0.2 m_images m_matchNow m_slopsNow m_matchesNow m_slopped m_seatBest m_fedBest m_slopsBest m_sawBest m_leastNow m_stableNow m_fitsNow m_someNow m_everyNow m_otherIn m_askLeft tb_seats tb_slack tb_saw tb_quarrel tb_people tb_pairs tb_forks tb_unsures tb_trieds tb_fed tb_seat tb_one tb_other tb_years tb_kind tb_unsure tb_may tb_tried tb_name)) args s 0 0 A) (F0 m 83 ls []) := by
      intro H locs ls G hl
      refine lv_aload_n hx hb dX12_remembers_83 rfl (lv_at hl 0 rfl) ?_
      refine lv_dup hx hb dX12_remembers_84 rfl ?_
      refine x_get C G fX12_303.g (wM_at0) rfl dX12_remembers_85 ?_
      refine lv_iconst (v := 1) hx hb dX12_remembers_88 (by decide) ?_
      refine lv_iadd hx hb dX12_remembers_89 ?_
      refine lv_topi (fun x4 ex4 => ?_)
      have hf := lt_go ex4 hf
      refine x_put (ws' := (wM E ad m_thrown m_trouble m_where m_rv m_tape m_taped m_size m_spot m_sort m_place m_number m_fault m_wrongAt m_word m_v m_x x3 m_kept x4 m_images m_matchNow m_slopsNow m_matchesNow m_slopped m_seatBest m_fedBest m_slopsBest m_sawBest m_leastNow m_stableNow m_fitsNow m_someNow m_everyNow m_otherIn m_askLeft tb_seats tb_slack tb_saw tb_quarrel tb_people tb_pairs tb_forks tb_unsures tb_trieds tb_fed tb_seat tb_one tb_other tb_years tb_kind tb_unsure tb_may tb_tried tb_name)) C G fX12_303 (wM_at0) rfl rfl (Nat.le_of_ble_eq_true rfl) wM_set_m_acts dX12_remembers_90 (fun H locs G => ?_)
      obtain rfl := Option.some.inj hf
      exact xV_ret C G dX12_remembers_93
    exact w_M_remembers_m_M_L51 C Jx3 fu _ _ _ _ _ G (lv_sub hl [1, 0] rfl) hr
  have hf := hrx1
  refine lv_icmp_ne (tgt := 49) hx hb dX12_remembers_6 (by decide) (fun h => ?_) (fun h => ?_)
  · have hf := it_f h hf
    obtain rfl := Option.some.inj hf
    exact Jx1 _ _ _ G (lv_sub hl [0] rfl)
  · have hf := it_t h hf
    refine lv_iconst (v := 0) hx hb dX12_remembers_9 (by decide) ?_
    refine lv_istore_n (lv' := [(1, .int (0 : Int32)), (0, .ref (ad 0))]) hx hb dX12_remembers_10 rfl hl (by decide) rfl (fun ls hl => ?_)
    obtain ⟨x6, hr, hf⟩ := bd_go hf
    have Jx6 : ∀ (H : Heap) (locs : List Loc) (ls : Array Slot), xG s E A (wM E ad m_thrown m_trouble m_where m_rv m_tape m_taped m_size m_spot m_sort m_place m_number m_fault m_wrongAt m_word m_v m_x x6 m_kept m_acts m_images m_matchNow m_slopsNow m_matchesNow m_slopped m_seatBest m_fedBest m_slopsBest m_sawBest m_leastNow m_stableNow m_fitsNow m_someNow m_everyNow m_otherIn m_askLeft tb_seats tb_slack tb_saw tb_quarrel tb_people tb_pairs tb_forks tb_unsures tb_trieds tb_fed tb_seat tb_one tb_other tb_years tb_kind tb_unsure tb_may tb_tried tb_name) H locs → lv_has ls 2 [(0, .ref (ad 0))] → W p l e (xR 0 0) s m args below meth c H locs 0 0 (MQ below (xqV E A (wM E ad m_thrown m_trouble m_where m_rv m_tape m_taped m_size m_spot m_sort m_place m_number m_fault m_wrongAt m_word m_v m_x R0.1 m_kept R0.2 m_images m_matchNow m_slopsNow m_matchesNow m_slopped m_seatBest m_fedBest m_slopsBest m_sawBest m_leastNow m_stableNow m_fitsNow m_someNow m_everyNow m_otherIn m_askLeft tb_seats tb_slack tb_saw tb_quarrel tb_people tb_pairs tb_forks tb_unsures tb_trieds tb_fed tb_seat tb_one tb_other tb_years tb_kind tb_unsure tb_may tb_tried tb_name)) args s 0 0 A) (F0 m 39 ls []) := by
      intro H locs ls G hl
      refine lv_aload_n hx hb dX12_remembers_39 rfl (lv_at hl 0 rfl) ?_
      refine lv_dup hx hb dX12_remembers_40 rfl ?_
      refine x_get C G fX12_303.g (wM_at0) rfl dX12_remembers_41 ?_
      refine lv_iconst (v := 1) hx hb dX12_remembers_44 (by decide) ?_
      refine lv_isub hx hb dX12_remembers_45 ?_
      refine lv_topi (fun x7 ex7 => ?_)
      have hf := lt_go ex7 hf
      refine x_put (ws' := (wM E ad m_thrown m_trouble m_where m_rv m_tape m_taped m_size m_spot m_sort m_place m_number m_fault m_wrongAt m_word m_v m_x x6 m_kept x7 m_images m_matchNow m_slopsNow m_matchesNow m_slopped m_seatBest m_fedBest m_slopsBest m_sawBest m_leastNow m_stableNow m_fitsNow m_someNow m_everyNow m_otherIn m_askLeft tb_seats tb_slack tb_saw tb_quarrel tb_people tb_pairs tb_forks tb_unsures tb_trieds tb_fed tb_seat tb_one tb_other tb_years tb_kind tb_unsure tb_may tb_tried tb_name)) C G fX12_303 (wM_at0) rfl rfl (Nat.le_of_ble_eq_true rfl) wM_set_m_acts dX12_remembers_46 (fun H locs G => ?_)
      obtain rfl := Option.some.inj hf
      exact Jx1 _ _ _ G (lv_sub hl [0] rfl)
    exact w_M_remembers_m_M_L11 C Jx6 fu _ _ _ _ _ G (lv_sub hl [1, 0] rfl) hr
set_option maxHeartbeats 4000000 in
set_option maxRecDepth 100000 in
theorem w_M_remains_m_M_L2 {p : Program} {l : Launch} {e : Env} {s : State} {m : MethodId} {args : Array Value} {below : List Frame} {meth : Method} {c : Code} {A : Nat → Prop} {E : xE} {Q : State → Prop} {ad : Nat → Nat} {m_thrown m_trouble m_where m_taped m_size m_spot m_sort m_place m_number m_fault m_wrongAt m_acts m_images m_matchNow m_slopsNow m_matchesNow m_fedBest m_slopsBest m_sawBest m_leastNow m_stableNow m_fitsNow m_someNow m_everyNow m_askLeft tb_seats tb_slack tb_saw tb_quarrel tb_people tb_pairs tb_forks tb_unsures tb_trieds tb_fed : Int32} {m_rv : Value} {m_tape m_x m_past m_kept m_slopped m_seatBest m_otherIn tb_seat tb_one tb_other tb_years tb_kind tb_unsure tb_may tb_tried : Nat → Int32} {m_word : Int64} {tb_name : Nat → Int64} {o : (Nat → Int32)} (C : xC p s m args meth c cX12_remains 2 RX12 E A none) (J : ∀ (H : Heap) (locs : List Loc) (ls : Array Slot), xG s E A (wM E ad m_thrown m_trouble m_where m_rv m_tape m_taped m_size m_spot m_sort m_place m_number m_fault m_wrongAt m_word o m_x m_past m_kept m_acts m_images m_matchNow m_slopsNow m_matchesNow m_slopped m_seatBest m_fedBest m_slopsBest m_sawBest m_leastNow m_stableNow m_fitsNow m_someNow m_everyNow m_otherIn m_askLeft tb_seats tb_slack tb_saw tb_quarrel tb_people tb_pairs tb_forks tb_unsures tb_trieds tb_fed tb_seat tb_one tb_other tb_years tb_kind tb_unsure tb_may tb_tried tb_name) H locs → lv_has ls 2 [] → W p l e (xR 0 0) s m args below meth c H locs 0 0 Q (F0 m 26 ls [])) :
    ∀ (n : Nat) (l1 : Int32) (m_v : Nat → Int32) (H : Heap) (locs : List Loc) (ls : Array Slot), xG s E A (wM E ad m_thrown m_trouble m_where m_rv m_tape m_taped m_size m_spot m_sort m_place m_number m_fault m_wrongAt m_word m_v m_x m_past m_kept m_acts m_images m_matchNow m_slopsNow m_matchesNow m_slopped m_seatBest m_fedBest m_slopsBest m_sawBest m_leastNow m_stableNow m_fitsNow m_someNow m_everyNow m_otherIn m_askLeft tb_seats tb_slack tb_saw tb_quarrel tb_people tb_pairs tb_forks tb_unsures tb_trieds tb_fed tb_seat tb_one tb_other tb_years tb_kind tb_unsure tb_may tb_tried tb_name) H locs → lv_has ls 2 [(0, .ref (ad 0)), (1, .int l1)] → f_M_remains_L2 m_x n l1 m_v = some o → W p l e (xR 0 0) s m args below meth c H locs 0 0 Q (F0 m 2 ls []) := by
  have hx := C.1
  have hb := C.2.1
  intro n
  induction n with
  | zero =>
    intro l1 m_v H locs ls G hl hf
    exact nomatch (show (none : Option ((Nat → Int32))) = some o from hf)
  | succ n ih =>
    intro l1 m_v H locs ls G hl hf
    rw [f_M_remains_L2] at hf
    refine lv_iload_n hx hb dX12_remains_2 rfl (lv_at hl 1 rfl) ?_
    refine lv_bipush (v := 58) hx hb dX12_remains_3 (by decide) ?_
    refine lv_icmp_ge (tgt := 26) hx hb dX12_remains_5 (by decide) (fun h => ?_) (fun h => ?_)
    · have hf := it_t h hf
      obtain rfl := Option.some.inj hf
      exact J _ _ _ G (lv_sub hl [] rfl)
    · have hf := it_f h hf
      refine lv_aload_n hx hb dX12_remains_8 rfl (lv_at hl 0 rfl) ?_
      refine x_get C G fX12_17 (wM_at0) rfl dX12_remains_9 ?_
      refine lv_iload_n hx hb dX12_remains_12 rfl (lv_at hl 1 rfl) ?_
      refine lv_aload_n hx hb dX12_remains_13 rfl (lv_at hl 0 rfl) ?_
      refine x_get C G fX12_21 (wM_at0) rfl dX12_remains_14 ?_
      refine lv_iload_n hx hb dX12_remains_17 rfl (lv_at hl 1 rfl) ?_
      have hi := ck_in hf
      have hf := ck_go hf
      refine x_iald C G (wM_at3) hi dX12_remains_18 ?_
      have hi := ck_in hf
      have hf := ck_go hf
      refine x_iast (ws' := (wM E ad m_thrown m_trouble m_where m_rv m_tape m_taped m_size m_spot m_sort m_place m_number m_fault m_wrongAt m_word (upd m_v l1.toNatClampNeg (m_x l1.toNatClampNeg)) m_x m_past m_kept m_acts m_images m_matchNow m_slopsNow m_matchesNow m_slopped m_seatBest m_fedBest m_slopsBest m_sawBest m_leastNow m_stableNow m_fitsNow m_someNow m_everyNow m_otherIn m_askLeft tb_seats tb_slack tb_saw tb_quarrel tb_people tb_pairs tb_forks tb_unsures tb_trieds tb_fed tb_seat tb_one tb_other tb_years tb_kind tb_unsure tb_may tb_tried tb_name)) C G (wM_at2) hi wM_set_m_v dX12_remains_19 (fun H locs G => ?_)
      obtain ⟨x1, ex1⟩ : ∃ z : Int32, z = l1 + (1 : Int32) := ⟨_, rfl⟩
      have hf := lt_go ex1 hf
      refine lv_iinc (v := x1) (lv' := [(1, .int x1), (0, .ref (ad 0))]) hx hb dX12_remains_20 hl (k := 1) rfl (by rw [ex1]; rfl) (by decide) rfl (fun ls hl => ?_)
      refine lv_goto (tgt := 2) hx hb dX12_remains_23 (by decide) ?_
      exact ih x1 (upd m_v l1.toNatClampNeg (m_x l1.toNatClampNeg)) _ _ _ G (lv_sub hl [1, 0] rfl) hf
set_option maxHeartbeats 4000000 in
set_option maxRecDepth 100000 in
theorem c_M_remains_m_M {l : Launch} {E : xE} {ad : Nat → Nat} {m_thrown m_trouble m_where m_taped m_size m_spot m_sort m_place m_number m_fault m_wrongAt m_acts m_images m_matchNow m_slopsNow m_matchesNow m_fedBest m_slopsBest m_sawBest m_leastNow m_stableNow m_fitsNow m_someNow m_everyNow m_askLeft tb_seats tb_slack tb_saw tb_quarrel tb_people tb_pairs tb_forks tb_unsures tb_trieds tb_fed : Int32} {m_rv : Value} {m_tape m_v m_x m_past m_kept m_slopped m_seatBest m_otherIn tb_seat tb_one tb_other tb_years tb_kind tb_unsure tb_may tb_tried : Nat → Int32} {m_word : Int64} {tb_name : Nat → Int64} {R0 : (Nat → Int32)} (hf : f_M_remains m_v m_x = some R0) : xV l E yX12_remains cX12_remains 2 none 0 0 [.ref (ad 0)] (wM E ad m_thrown m_trouble m_where m_rv m_tape m_taped m_size m_spot m_sort m_place m_number m_fault m_wrongAt m_word m_v m_x m_past m_kept m_acts m_images m_matchNow m_slopsNow m_matchesNow m_slopped m_seatBest m_fedBest m_slopsBest m_sawBest m_leastNow m_stableNow m_fitsNow m_someNow m_everyNow m_otherIn m_askLeft tb_seats tb_slack tb_saw tb_quarrel tb_people tb_pairs tb_forks tb_unsures tb_trieds tb_fed tb_seat tb_one tb_other tb_years tb_kind tb_unsure tb_may tb_tried tb_name) (wM E ad m_thrown m_trouble m_where m_rv m_tape m_taped m_size m_spot m_sort m_place m_number m_fault m_wrongAt m_word R0 m_x m_past m_kept m_acts m_images m_matchNow m_slopsNow m_matchesNow m_slopped m_seatBest m_fedBest m_slopsBest m_sawBest m_leastNow m_stableNow m_fitsNow m_someNow m_everyNow m_otherIn m_askLeft tb_seats tb_slack tb_saw tb_quarrel tb_people tb_pairs tb_forks tb_unsures tb_trieds tb_fed tb_seat tb_one tb_other tb_years tb_kind tb_unsure tb_may tb_tried tb_name) := by
  refine xV_of (by decide) (Nat.le_of_ble_eq_true rfl) (fun p e s m args below meth c A C ls hl G => ?_)
  have hx := C.1
  have hb := C.2.1
  have hl : lv_has ls 2 [(0, .ref (ad 0))] := hl
  unfold f_M_remains at hf
  refine lv_iconst (v := 0) hx hb dX12_remains_0 (by decide) ?_
  refine lv_istore_n (lv' := [(1, .int (0 : Int32)), (0, .ref (ad 0))]) hx hb dX12_remains_1 rfl hl (by decide) rfl (fun ls hl => ?_)
  obtain ⟨x2, hr, hf⟩ := bd_go hf
  have Jx2 : ∀ (H : Heap) (locs : List Loc) (ls : Array Slot), xG s E A (wM E ad m_thrown m_trouble m_where m_rv m_tape m_taped m_size m_spot m_sort m_place m_number m_fault m_wrongAt m_word x2 m_x m_past m_kept m_acts m_images m_matchNow m_slopsNow m_matchesNow m_slopped m_seatBest m_fedBest m_slopsBest m_sawBest m_leastNow m_stableNow m_fitsNow m_someNow m_everyNow m_otherIn m_askLeft tb_seats tb_slack tb_saw tb_quarrel tb_people tb_pairs tb_forks tb_unsures tb_trieds tb_fed tb_seat tb_one tb_other tb_years tb_kind tb_unsure tb_may tb_tried tb_name) H locs → lv_has ls 2 [] → W p l e (xR 0 0) s m args below meth c H locs 0 0 (MQ below (xqV E A (wM E ad m_thrown m_trouble m_where m_rv m_tape m_taped m_size m_spot m_sort m_place m_number m_fault m_wrongAt m_word R0 m_x m_past m_kept m_acts m_images m_matchNow m_slopsNow m_matchesNow m_slopped m_seatBest m_fedBest m_slopsBest m_sawBest m_leastNow m_stableNow m_fitsNow m_someNow m_everyNow m_otherIn m_askLeft tb_seats tb_slack tb_saw tb_quarrel tb_people tb_pairs tb_forks tb_unsures tb_trieds tb_fed tb_seat tb_one tb_other tb_years tb_kind tb_unsure tb_may tb_tried tb_name)) args s 0 0 A) (F0 m 26 ls []) := by
    intro H locs ls G hl
    obtain rfl := Option.some.inj hf
    exact xV_ret C G dX12_remains_26
  exact w_M_remains_m_M_L2 C Jx2 fu _ _ _ _ _ G (lv_sub hl [1, 0] rfl) hr
set_option maxHeartbeats 4000000 in
set_option maxRecDepth 100000 in
theorem c_M_year_m_M {l : Launch} {E : xE} {ad : Nat → Nat} {m_thrown m_trouble m_where m_taped m_size m_spot m_sort m_place m_number m_fault m_wrongAt m_acts m_images m_matchNow m_slopsNow m_matchesNow m_fedBest m_slopsBest m_sawBest m_leastNow m_stableNow m_fitsNow m_someNow m_everyNow m_askLeft tb_seats tb_slack tb_saw tb_quarrel tb_people tb_pairs tb_forks tb_unsures tb_trieds tb_fed : Int32} {m_rv : Value} {m_tape m_v m_x m_past m_kept m_slopped m_seatBest m_otherIn tb_seat tb_one tb_other tb_years tb_kind tb_unsure tb_may tb_tried : Nat → Int32} {m_word : Int64} {tb_name : Nat → Int64} {R0 : Int32 × Int32 × Int32 × Int32 × (Nat → Int32) × (Nat → Int32) × (Nat → Int32) × Int32 × Int32 × Int32 × Int32 × (Nat → Int32)} (hf : f_M_year m_v m_x m_past m_acts m_matchNow m_slopsNow m_matchesNow m_slopped tb_seats tb_slack = some R0) : xI l E yX12_year cX12_year 1 (some .int) 5 109 [.ref (ad 0)] (wM E ad m_thrown m_trouble m_where m_rv m_tape m_taped m_size m_spot m_sort m_place m_number m_fault m_wrongAt m_word m_v m_x m_past m_kept m_acts m_images m_matchNow m_slopsNow m_matchesNow m_slopped m_seatBest m_fedBest m_slopsBest m_sawBest m_leastNow m_stableNow m_fitsNow m_someNow m_everyNow m_otherIn m_askLeft tb_seats tb_slack tb_saw tb_quarrel tb_people tb_pairs tb_forks tb_unsures tb_trieds tb_fed tb_seat tb_one tb_other tb_years tb_kind tb_unsure tb_may tb_tried tb_name) (wM E ad R0.2.1 R0.2.2.1 R0.2.2.2.1 m_rv m_tape m_taped m_size m_spot m_sort m_place m_number m_fault m_wrongAt m_word R0.2.2.2.2.1 R0.2.2.2.2.2.1 R0.2.2.2.2.2.2.1 m_kept R0.2.2.2.2.2.2.2.1 m_images R0.2.2.2.2.2.2.2.2.1 R0.2.2.2.2.2.2.2.2.2.1 R0.2.2.2.2.2.2.2.2.2.2.1 R0.2.2.2.2.2.2.2.2.2.2.2 m_seatBest m_fedBest m_slopsBest m_sawBest m_leastNow m_stableNow m_fitsNow m_someNow m_everyNow m_otherIn m_askLeft tb_seats tb_slack tb_saw tb_quarrel tb_people tb_pairs tb_forks tb_unsures tb_trieds tb_fed tb_seat tb_one tb_other tb_years tb_kind tb_unsure tb_may tb_tried tb_name) R0.1 := by
  refine xI_of (by decide) (Nat.le_of_ble_eq_true rfl) (fun p e s m args below meth c A C ls hl G => ?_)
  have hx := C.1
  have hb := C.2.1
  have hl : lv_has ls 1 [(0, .ref (ad 0))] := hl
  unfold f_M_year at hf
  refine lv_aload_n hx hb dX12_year_0 rfl (lv_at hl 0 rfl) ?_
  refine lv_iconst (v := 0) hx hb dX12_year_1 (by decide) ?_
  refine x_put (ws' := (wM E ad (0 : Int32) m_trouble m_where m_rv m_tape m_taped m_size m_spot m_sort m_place m_number m_fault m_wrongAt m_word m_v m_x m_past m_kept m_acts m_images m_matchNow m_slopsNow m_matchesNow m_slopped m_seatBest m_fedBest m_slopsBest m_sawBest m_leastNow m_stableNow m_fitsNow m_someNow m_everyNow m_otherIn m_askLeft tb_seats tb_slack tb_saw tb_quarrel tb_people tb_pairs tb_forks tb_unsures tb_trieds tb_fed tb_seat tb_one tb_other tb_years tb_kind tb_unsure tb_may tb_tried tb_name)) C G fX12_39 (wM_at0) rfl rfl (Nat.le_of_ble_eq_true rfl) wM_set_m_thrown dX12_year_2 (fun H locs G => ?_)
  refine lv_aload_n hx hb dX12_year_5 rfl (lv_at hl 0 rfl) ?_
  refine x_get C G fX12_298.g (wM_at0) rfl dX12_year_6 ?_
  refine lv_ifnonnull (tgt := 18) hx hb dX12_year_9 (by decide) ?_
  refine lv_aload_n hx hb dX12_year_18 rfl (lv_at hl 0 rfl) ?_
  refine x_get C G fX12_17 (wM_at0) rfl dX12_year_19 ?_
  refine lv_bipush (v := 57) hx hb dX12_year_22 (by decide) ?_
  have hi := ck_in hf
  have hf := ck_go hf
  refine x_iald C G (wM_at2) hi dX12_year_24 ?_
  refine lv_sipush (v := 999) hx hb dX12_year_25 (by decide) ?_
  refine lv_icmp_ne (tgt := 37) hx hb dX12_year_28 (by decide) (fun h => ?_) (fun h => ?_)
  · have hf := it_f h hf
    refine lv_aload_n hx hb dX12_year_37 rfl (lv_at hl 0 rfl) ?_
    obtain ⟨x1, hc, hf⟩ := bd_go hf
    refine xV_V C G (c_M_remembers_m_M hc) mX12_remembers kX12_517 (wM_at0) rfl ⟨Nat.le_of_ble_eq_true rfl, Nat.le_of_ble_eq_true rfl⟩ rfl hl.1 rfl (Nat.le_of_ble_eq_true rfl) ⟨Nat.le_refl _, Nat.le_refl _⟩ dX12_year_38 (fun H locs G => ?_)
    refine lv_aload_n hx hb dX12_year_41 rfl (lv_at hl 0 rfl) ?_
    refine lv_iconst (v := 1) hx hb dX12_year_42 (by decide) ?_
    obtain ⟨x2, hc, hf⟩ := bd_go hf
    refine xV_V C G (c_M_worksIn_m_M hc) mX12_worksIn kX12_376 (wM_at0) rfl ⟨Nat.le_of_ble_eq_true rfl, Nat.le_of_ble_eq_true rfl⟩ rfl hl.1 rfl (Nat.le_of_ble_eq_true rfl) ⟨Nat.le_refl _, Nat.le_refl _⟩ dX12_year_43 (fun H locs G => ?_)
    refine lv_aload_n hx hb dX12_year_46 rfl (lv_at hl 0 rfl) ?_
    refine x_get C G fX12_21 (wM_at0) rfl dX12_year_47 ?_
    refine lv_bipush (v := 57) hx hb dX12_year_50 (by decide) ?_
    refine lv_dup2_11 hx hb dX12_year_52 rfl rfl ?_
    have hi := ck_in hf
    have hf := ck_go hf
    refine x_iald C G (wM_at3) hi dX12_year_53 ?_
    refine lv_iconst (v := 1) hx hb dX12_year_54 (by decide) ?_
    refine lv_iadd hx hb dX12_year_55 ?_
    have hi := ck_in hf
    have hf := ck_go hf
    refine x_iast (ws' := (wM E ad (0 : Int32) m_trouble m_where m_rv m_tape m_taped m_size m_spot m_sort m_place m_number m_fault m_wrongAt m_word m_v (upd x2 (57 : Int32).toNatClampNeg ((x2 (57 : Int32).toNatClampNeg) + (1 : Int32))) x1.1 m_kept x1.2 m_images m_matchNow m_slopsNow m_matchesNow m_slopped m_seatBest m_fedBest m_slopsBest m_sawBest m_leastNow m_stableNow m_fitsNow m_someNow m_everyNow m_otherIn m_askLeft tb_seats tb_slack tb_saw tb_quarrel tb_people tb_pairs tb_forks tb_unsures tb_trieds tb_fed tb_seat tb_one tb_other tb_years tb_kind tb_unsure tb_may tb_tried tb_name)) C G (wM_at3) hi wM_set_m_x dX12_year_56 (fun H locs G => ?_)
    refine lv_aload_n hx hb dX12_year_57 rfl (lv_at hl 0 rfl) ?_
    obtain ⟨x3, hc, hf⟩ := bd_go hf
    refine xV_V C G (c_M_remains_m_M hc) mX12_remains kX12_520 (wM_at0) rfl ⟨Nat.le_of_ble_eq_true rfl, Nat.le_of_ble_eq_true rfl⟩ rfl hl.1 rfl (Nat.le_of_ble_eq_true rfl) ⟨Nat.le_refl _, Nat.le_refl _⟩ dX12_year_58 (fun H locs G => ?_)
    refine lv_aload_n hx hb dX12_year_61 rfl (lv_at hl 0 rfl) ?_
    refine lv_aload_n hx hb dX12_year_62 rfl (lv_at hl 0 rfl) ?_
    obtain ⟨x4, hc, hf⟩ := bd_go hf
    refine xI_V C G (c_M_matching_m_M hc) mX12_matching kX12_366 (wM_at0) rfl ⟨Nat.le_of_ble_eq_true rfl, Nat.le_of_ble_eq_true rfl⟩ rfl hl.1 rfl (Nat.le_of_ble_eq_true rfl) ⟨Nat.le_refl _, Nat.le_refl _⟩ dX12_year_63 (fun hz H locs G => ?_)
    obtain ⟨x5, hc, hf⟩ := bd_go hf
    refine xI_V C G (c_M_good_m_M hc) mX12_good kX12_49 (wM_at0) rfl ⟨Nat.le_of_ble_eq_true rfl, Nat.le_of_ble_eq_true rfl⟩ rfl hl.1 rfl (Nat.le_of_ble_eq_true rfl) ⟨Nat.le_refl _, Nat.le_refl _⟩ dX12_year_66 (fun hz H locs G => ?_)
    obtain rfl := Option.some.inj hf
    exact xI_ret C G rfl dX12_year_69
  · have hf := it_t h hf
    refine lv_aload_n hx hb dX12_year_31 rfl (lv_at hl 0 rfl) ?_
    refine lv_iconst (v := 3) hx hb dX12_year_32 (by decide) ?_
    obtain ⟨x6, hc, hf⟩ := bd_go hf
    refine xI_V C G (c_M_refused_m_M hc) mX12_refused kX12_45 (wM_at0) rfl ⟨Nat.le_of_ble_eq_true rfl, Nat.le_of_ble_eq_true rfl⟩ rfl hl.1 rfl (Nat.le_of_ble_eq_true rfl) ⟨Nat.le_refl _, Nat.le_refl _⟩ dX12_year_33 (fun hz H locs G => ?_)
    obtain rfl := Option.some.inj hf
    exact xI_ret C G rfl dX12_year_36
set_option maxHeartbeats 4000000 in
set_option maxRecDepth 100000 in
theorem c_M_quarrel_m_M {l : Launch} {E : xE} {ad : Nat → Nat} {m_thrown m_trouble m_where m_taped m_size m_spot m_sort m_place m_number m_fault m_wrongAt m_acts m_images m_matchNow m_slopsNow m_matchesNow m_fedBest m_slopsBest m_sawBest m_leastNow m_stableNow m_fitsNow m_someNow m_everyNow m_askLeft tb_seats tb_slack tb_saw tb_quarrel tb_people tb_pairs tb_forks tb_unsures tb_trieds tb_fed : Int32} {m_rv : Value} {m_tape m_v m_x m_past m_kept m_slopped m_seatBest m_otherIn tb_seat tb_one tb_other tb_years tb_kind tb_unsure tb_may tb_tried : Nat → Int32} {m_word : Int64} {tb_name : Nat → Int64} {l1 : Int32} {R0 : Int32 × Int32 × Int32 × Int32 × (Nat → Int32) × (Nat → Int32) × (Nat → Int32) × Int32} (hf : f_M_quarrel l1 m_v m_x m_past m_acts tb_saw = some R0) : xI l E yX12_quarrel cX12_quarrel 2 (some .int) 2 43 [.ref (ad 0), .int l1] (wM E ad m_thrown m_trouble m_where m_rv m_tape m_taped m_size m_spot m_sort m_place m_number m_fault m_wrongAt m_word m_v m_x m_past m_kept m_acts m_images m_matchNow m_slopsNow m_matchesNow m_slopped m_seatBest m_fedBest m_slopsBest m_sawBest m_leastNow m_stableNow m_fitsNow m_someNow m_everyNow m_otherIn m_askLeft tb_seats tb_slack tb_saw tb_quarrel tb_people tb_pairs tb_forks tb_unsures tb_trieds tb_fed tb_seat tb_one tb_other tb_years tb_kind tb_unsure tb_may tb_tried tb_name) (wM E ad R0.2.1 R0.2.2.1 R0.2.2.2.1 m_rv m_tape m_taped m_size m_spot m_sort m_place m_number m_fault m_wrongAt m_word R0.2.2.2.2.1 R0.2.2.2.2.2.1 R0.2.2.2.2.2.2.1 m_kept R0.2.2.2.2.2.2.2 m_images m_matchNow m_slopsNow m_matchesNow m_slopped m_seatBest m_fedBest m_slopsBest m_sawBest m_leastNow m_stableNow m_fitsNow m_someNow m_everyNow m_otherIn m_askLeft tb_seats tb_slack tb_saw tb_quarrel tb_people tb_pairs tb_forks tb_unsures tb_trieds tb_fed tb_seat tb_one tb_other tb_years tb_kind tb_unsure tb_may tb_tried tb_name) R0.1 := by
  refine xI_of (by decide) (Nat.le_of_ble_eq_true rfl) (fun p e s m args below meth c A C ls hl G => ?_)
  have hx := C.1
  have hb := C.2.1
  have hl : lv_has ls 2 [(0, .ref (ad 0)), (1, .int l1)] := hl
  unfold f_M_quarrel at hf
  refine lv_aload_n hx hb dX12_quarrel_0 rfl (lv_at hl 0 rfl) ?_
  refine lv_iconst (v := 0) hx hb dX12_quarrel_1 (by decide) ?_
  refine x_put (ws' := (wM E ad (0 : Int32) m_trouble m_where m_rv m_tape m_taped m_size m_spot m_sort m_place m_number m_fault m_wrongAt m_word m_v m_x m_past m_kept m_acts m_images m_matchNow m_slopsNow m_matchesNow m_slopped m_seatBest m_fedBest m_slopsBest m_sawBest m_leastNow m_stableNow m_fitsNow m_someNow m_everyNow m_otherIn m_askLeft tb_seats tb_slack tb_saw tb_quarrel tb_people tb_pairs tb_forks tb_unsures tb_trieds tb_fed tb_seat tb_one tb_other tb_years tb_kind tb_unsure tb_may tb_tried tb_name)) C G fX12_39 (wM_at0) rfl rfl (Nat.le_of_ble_eq_true rfl) wM_set_m_thrown dX12_quarrel_2 (fun H locs G => ?_)
  refine lv_aload_n hx hb dX12_quarrel_5 rfl (lv_at hl 0 rfl) ?_
  refine lv_iload_n hx hb dX12_quarrel_6 rfl (lv_at hl 1 rfl) ?_
  obtain ⟨x1, hc, hf⟩ := bd_go hf
  refine xI_V C G (c_M_isPair_m_M hc) mX12_isPair kX12_330 (wM_at0) rfl ⟨Nat.le_of_ble_eq_true rfl, Nat.le_of_ble_eq_true rfl⟩ rfl hl.1 rfl (Nat.le_of_ble_eq_true rfl) ⟨Nat.le_refl _, Nat.le_refl _⟩ dX12_quarrel_7 (fun hz1 H locs G => ?_)
  refine lv_if_ne (tgt := 19) hx hb dX12_quarrel_10 (by decide) (fun h => ?_) (fun h => ?_)
  · have hf := it_f h hf
    refine lv_aload_n hx hb dX12_quarrel_19 rfl (lv_at hl 0 rfl) ?_
    obtain ⟨x2, hc, hf⟩ := bd_go hf
    refine xV_V C G (c_M_works_m_M hc) mX12_works kX12_333 (wM_at0) rfl ⟨Nat.le_of_ble_eq_true rfl, Nat.le_of_ble_eq_true rfl⟩ rfl hl.1 rfl (Nat.le_of_ble_eq_true rfl) ⟨Nat.le_refl _, Nat.le_refl _⟩ dX12_quarrel_20 (fun H locs G => ?_)
    refine lv_aload_n hx hb dX12_quarrel_23 rfl (lv_at hl 0 rfl) ?_
    refine x_get C G fX12_21 (wM_at0) rfl dX12_quarrel_24 ?_
    refine lv_bipush (v := 45) hx hb dX12_quarrel_27 (by decide) ?_
    refine lv_iload_n hx hb dX12_quarrel_29 rfl (lv_at hl 1 rfl) ?_
    refine lv_iadd hx hb dX12_quarrel_30 ?_
    have hi := ck_in hf
    have hf := ck_go hf
    refine x_iald C G (wM_at3) hi dX12_quarrel_31 ?_
    refine lv_iconst (v := 2) hx hb dX12_quarrel_32 (by decide) ?_
    obtain ⟨b3, hr, hf⟩ := bd_go hf
    cases b3 with
    | true =>
      have hf := it_t rfl hf
      have J : ∀ (H : Heap) (locs : List Loc), xG s E A (wM E ad (0 : Int32) m_trouble m_where m_rv m_tape m_taped m_size m_spot m_sort m_place m_number m_fault m_wrongAt m_word m_v x2 m_past m_kept m_acts m_images m_matchNow m_slopsNow m_matchesNow m_slopped m_seatBest m_fedBest m_slopsBest m_sawBest m_leastNow m_stableNow m_fitsNow m_someNow m_everyNow m_otherIn m_askLeft tb_seats tb_slack tb_saw tb_quarrel tb_people tb_pairs tb_forks tb_unsures tb_trieds tb_fed tb_seat tb_one tb_other tb_years tb_kind tb_unsure tb_may tb_tried tb_name) H locs → W p l e (xR 2 43) s m args below meth c H locs 0 0 (MQ below (xqI E A (wM E ad R0.2.1 R0.2.2.1 R0.2.2.2.1 m_rv m_tape m_taped m_size m_spot m_sort m_place m_number m_fault m_wrongAt m_word R0.2.2.2.2.1 R0.2.2.2.2.2.1 R0.2.2.2.2.2.2.1 m_kept R0.2.2.2.2.2.2.2 m_images m_matchNow m_slopsNow m_matchesNow m_slopped m_seatBest m_fedBest m_slopsBest m_sawBest m_leastNow m_stableNow m_fitsNow m_someNow m_everyNow m_otherIn m_askLeft tb_seats tb_slack tb_saw tb_quarrel tb_people tb_pairs tb_forks tb_unsures tb_trieds tb_fed tb_seat tb_one tb_other tb_years tb_kind tb_unsure tb_may tb_tried tb_name) (some .int) R0.1) args s 0 0 A) (F0 m 44 ls []) := by
        intro H locs G
        refine lv_aload_n hx hb dX12_quarrel_44 rfl (lv_at hl 0 rfl) ?_
        refine lv_iconst (v := 5) hx hb dX12_quarrel_45 (by decide) ?_
        obtain ⟨x4, hc, hf⟩ := bd_go hf
        refine xI_V C G (c_M_refused_m_M hc) mX12_refused kX12_45 (wM_at0) rfl ⟨Nat.le_of_ble_eq_true rfl, Nat.le_of_ble_eq_true rfl⟩ rfl hl.1 rfl (Nat.le_of_ble_eq_true rfl) ⟨Nat.le_refl _, Nat.le_refl _⟩ dX12_quarrel_46 (fun hz H locs G => ?_)
        obtain rfl := Option.some.inj hf
        exact xI_ret C G rfl dX12_quarrel_49
      have hf := hr
      clear hr
      refine lv_icmp_eq (tgt := 44) hx hb dX12_quarrel_33 (by decide) (fun h => ?_) (fun h => ?_)
      · have hf := it_t h hf
        exact J _ _ G
      · have hf := it_f h hf
        refine lv_aload_n hx hb dX12_quarrel_36 rfl (lv_at hl 0 rfl) ?_
        refine lv_iload_n hx hb dX12_quarrel_37 rfl (lv_at hl 1 rfl) ?_
        obtain ⟨x5, hc, hf⟩ := bd_go hf
        refine xI_V C G (c_M_handleOf_m_M hc) mX12_handleOf kX12_321 (wM_at0) rfl ⟨Nat.le_of_ble_eq_true rfl, Nat.le_of_ble_eq_true rfl⟩ rfl hl.1 rfl (Nat.le_of_ble_eq_true rfl) ⟨Nat.le_refl _, Nat.le_refl _⟩ dX12_quarrel_38 (fun hz H locs G => ?_)
        refine lv_if_ne (tgt := 50) hx hb dX12_quarrel_41 (by decide) (fun h => ?_) (fun h => ?_)
        · have hf := it_f h hf
          exact absurd (Option.some.inj hf) (by decide)
        · have hf := it_t h hf
          exact J _ _ G
    | false =>
      have hf := it_f (by decide) hf
      have J : ∀ (H : Heap) (locs : List Loc), xG s E A (wM E ad (0 : Int32) m_trouble m_where m_rv m_tape m_taped m_size m_spot m_sort m_place m_number m_fault m_wrongAt m_word m_v x2 m_past m_kept m_acts m_images m_matchNow m_slopsNow m_matchesNow m_slopped m_seatBest m_fedBest m_slopsBest m_sawBest m_leastNow m_stableNow m_fitsNow m_someNow m_everyNow m_otherIn m_askLeft tb_seats tb_slack tb_saw tb_quarrel tb_people tb_pairs tb_forks tb_unsures tb_trieds tb_fed tb_seat tb_one tb_other tb_years tb_kind tb_unsure tb_may tb_tried tb_name) H locs → W p l e (xR 2 43) s m args below meth c H locs 0 0 (MQ below (xqI E A (wM E ad R0.2.1 R0.2.2.1 R0.2.2.2.1 m_rv m_tape m_taped m_size m_spot m_sort m_place m_number m_fault m_wrongAt m_word R0.2.2.2.2.1 R0.2.2.2.2.2.1 R0.2.2.2.2.2.2.1 m_kept R0.2.2.2.2.2.2.2 m_images m_matchNow m_slopsNow m_matchesNow m_slopped m_seatBest m_fedBest m_slopsBest m_sawBest m_leastNow m_stableNow m_fitsNow m_someNow m_everyNow m_otherIn m_askLeft tb_seats tb_slack tb_saw tb_quarrel tb_people tb_pairs tb_forks tb_unsures tb_trieds tb_fed tb_seat tb_one tb_other tb_years tb_kind tb_unsure tb_may tb_tried tb_name) (some .int) R0.1) args s 0 0 A) (F0 m 50 ls []) := by
        intro H locs G
        refine lv_aload_n hx hb dX12_quarrel_50 rfl (lv_at hl 0 rfl) ?_
        obtain ⟨x6, hc, hf⟩ := bd_go hf
        refine xV_V C G (c_M_remembers_m_M hc) mX12_remembers kX12_517 (wM_at0) rfl ⟨Nat.le_of_ble_eq_true rfl, Nat.le_of_ble_eq_true rfl⟩ rfl hl.1 rfl (Nat.le_of_ble_eq_true rfl) ⟨Nat.le_refl _, Nat.le_refl _⟩ dX12_quarrel_51 (fun H locs G => ?_)
        refine lv_aload_n hx hb dX12_quarrel_54 rfl (lv_at hl 0 rfl) ?_
        refine lv_iload_n hx hb dX12_quarrel_55 rfl (lv_at hl 1 rfl) ?_
        obtain ⟨x7, hc, hf⟩ := bd_go hf
        refine xV_V C G (c_M_sawsOff_m_M hc) mX12_sawsOff kX12_479 (wM_at0) rfl ⟨Nat.le_of_ble_eq_true rfl, Nat.le_of_ble_eq_true rfl⟩ rfl hl.1 rfl (Nat.le_of_ble_eq_true rfl) ⟨Nat.le_refl _, Nat.le_refl _⟩ dX12_quarrel_56 (fun H locs G => ?_)
        refine lv_aload_n hx hb dX12_quarrel_59 rfl (lv_at hl 0 rfl) ?_
        obtain ⟨x8, hc, hf⟩ := bd_go hf
        refine xV_V C G (c_M_remains_m_M hc) mX12_remains kX12_520 (wM_at0) rfl ⟨Nat.le_of_ble_eq_true rfl, Nat.le_of_ble_eq_true rfl⟩ rfl hl.1 rfl (Nat.le_of_ble_eq_true rfl) ⟨Nat.le_refl _, Nat.le_refl _⟩ dX12_quarrel_60 (fun H locs G => ?_)
        refine lv_aload_n hx hb dX12_quarrel_63 rfl (lv_at hl 0 rfl) ?_
        refine lv_aload_n hx hb dX12_quarrel_64 rfl (lv_at hl 0 rfl) ?_
        refine lv_iload_n hx hb dX12_quarrel_65 rfl (lv_at hl 1 rfl) ?_
        obtain ⟨x9, hc, hf⟩ := bd_go hf
        refine xI_V C G (c_M_handleOf_m_M hc) mX12_handleOf kX12_321 (wM_at0) rfl ⟨Nat.le_of_ble_eq_true rfl, Nat.le_of_ble_eq_true rfl⟩ rfl hl.1 rfl (Nat.le_of_ble_eq_true rfl) ⟨Nat.le_refl _, Nat.le_refl _⟩ dX12_quarrel_66 (fun hz H locs G => ?_)
        obtain ⟨x10, hc, hf⟩ := bd_go hf
        refine xI_V C G (c_M_good_m_M hc) mX12_good kX12_49 (wM_at0) rfl ⟨Nat.le_of_ble_eq_true rfl, Nat.le_of_ble_eq_true rfl⟩ rfl hl.1 rfl (Nat.le_of_ble_eq_true rfl) ⟨Nat.le_refl _, Nat.le_refl _⟩ dX12_quarrel_69 (fun hz H locs G => ?_)
        obtain rfl := Option.some.inj hf
        exact xI_ret C G rfl dX12_quarrel_72
      have hf := hr
      clear hr
      refine lv_icmp_eq (tgt := 44) hx hb dX12_quarrel_33 (by decide) (fun h => ?_) (fun h => ?_)
      · have hf := it_t h hf
        exact absurd (Option.some.inj hf) (by decide)
      · have hf := it_f h hf
        refine lv_aload_n hx hb dX12_quarrel_36 rfl (lv_at hl 0 rfl) ?_
        refine lv_iload_n hx hb dX12_quarrel_37 rfl (lv_at hl 1 rfl) ?_
        obtain ⟨x11, hc, hf⟩ := bd_go hf
        refine xI_V C G (c_M_handleOf_m_M hc) mX12_handleOf kX12_321 (wM_at0) rfl ⟨Nat.le_of_ble_eq_true rfl, Nat.le_of_ble_eq_true rfl⟩ rfl hl.1 rfl (Nat.le_of_ble_eq_true rfl) ⟨Nat.le_refl _, Nat.le_refl _⟩ dX12_quarrel_38 (fun hz H locs G => ?_)
        refine lv_if_ne (tgt := 50) hx hb dX12_quarrel_41 (by decide) (fun h => ?_) (fun h => ?_)
        · have hf := it_f h hf
          exact J _ _ G
        · have hf := it_t h hf
          exact absurd (Option.some.inj hf) (by decide)
  · have hf := it_t h hf
    refine lv_aload_n hx hb dX12_quarrel_13 rfl (lv_at hl 0 rfl) ?_
    refine lv_iconst (v := 1) hx hb dX12_quarrel_14 (by decide) ?_
    obtain ⟨x12, hc, hf⟩ := bd_go hf
    refine xI_V C G (c_M_refused_m_M hc) mX12_refused kX12_45 (wM_at0) rfl ⟨Nat.le_of_ble_eq_true rfl, Nat.le_of_ble_eq_true rfl⟩ rfl hl.1 rfl (Nat.le_of_ble_eq_true rfl) ⟨Nat.le_refl _, Nat.le_refl _⟩ dX12_quarrel_15 (fun hz H locs G => ?_)
    obtain rfl := Option.some.inj hf
    exact xI_ret C G rfl dX12_quarrel_18
set_option maxHeartbeats 4000000 in
set_option maxRecDepth 100000 in
theorem c_M_sit_m_M {l : Launch} {E : xE} {ad : Nat → Nat} {m_thrown m_trouble m_where m_taped m_size m_spot m_sort m_place m_number m_fault m_wrongAt m_acts m_images m_matchNow m_slopsNow m_matchesNow m_fedBest m_slopsBest m_sawBest m_leastNow m_stableNow m_fitsNow m_someNow m_everyNow m_askLeft tb_seats tb_slack tb_saw tb_quarrel tb_people tb_pairs tb_forks tb_unsures tb_trieds tb_fed : Int32} {m_rv : Value} {m_tape m_v m_x m_past m_kept m_slopped m_seatBest m_otherIn tb_seat tb_one tb_other tb_years tb_kind tb_unsure tb_may tb_tried : Nat → Int32} {m_word : Int64} {tb_name : Nat → Int64} {l1 : Int32} {l2 : Int32} {R0 : Int32 × Int32 × Int32 × Int32 × (Nat → Int32) × (Nat → Int32) × Int32} (hf : f_M_sit l1 l2 m_v m_past m_acts tb_seats tb_people = some R0) : xI l E yX12_sit cX12_sit 4 (some .int) 1 22 [.ref (ad 0), .int l1, .int l2] (wM E ad m_thrown m_trouble m_where m_rv m_tape m_taped m_size m_spot m_sort m_place m_number m_fault m_wrongAt m_word m_v m_x m_past m_kept m_acts m_images m_matchNow m_slopsNow m_matchesNow m_slopped m_seatBest m_fedBest m_slopsBest m_sawBest m_leastNow m_stableNow m_fitsNow m_someNow m_everyNow m_otherIn m_askLeft tb_seats tb_slack tb_saw tb_quarrel tb_people tb_pairs tb_forks tb_unsures tb_trieds tb_fed tb_seat tb_one tb_other tb_years tb_kind tb_unsure tb_may tb_tried tb_name) (wM E ad R0.2.1 R0.2.2.1 R0.2.2.2.1 m_rv m_tape m_taped m_size m_spot m_sort m_place m_number m_fault m_wrongAt m_word R0.2.2.2.2.1 m_x R0.2.2.2.2.2.1 m_kept R0.2.2.2.2.2.2 m_images m_matchNow m_slopsNow m_matchesNow m_slopped m_seatBest m_fedBest m_slopsBest m_sawBest m_leastNow m_stableNow m_fitsNow m_someNow m_everyNow m_otherIn m_askLeft tb_seats tb_slack tb_saw tb_quarrel tb_people tb_pairs tb_forks tb_unsures tb_trieds tb_fed tb_seat tb_one tb_other tb_years tb_kind tb_unsure tb_may tb_tried tb_name) R0.1 := by
  refine xI_of (by decide) (Nat.le_of_ble_eq_true rfl) (fun p e s m args below meth c A C ls hl G => ?_)
  have hx := C.1
  have hb := C.2.1
  have hl : lv_has ls 4 [(0, .ref (ad 0)), (1, .int l1), (2, .int l2)] := hl
  unfold f_M_sit at hf
  refine lv_aload_n hx hb dX12_sit_0 rfl (lv_at hl 0 rfl) ?_
  refine lv_iconst (v := 0) hx hb dX12_sit_1 (by decide) ?_
  refine x_put (ws' := (wM E ad (0 : Int32) m_trouble m_where m_rv m_tape m_taped m_size m_spot m_sort m_place m_number m_fault m_wrongAt m_word m_v m_x m_past m_kept m_acts m_images m_matchNow m_slopsNow m_matchesNow m_slopped m_seatBest m_fedBest m_slopsBest m_sawBest m_leastNow m_stableNow m_fitsNow m_someNow m_everyNow m_otherIn m_askLeft tb_seats tb_slack tb_saw tb_quarrel tb_people tb_pairs tb_forks tb_unsures tb_trieds tb_fed tb_seat tb_one tb_other tb_years tb_kind tb_unsure tb_may tb_tried tb_name)) C G fX12_39 (wM_at0) rfl rfl (Nat.le_of_ble_eq_true rfl) wM_set_m_thrown dX12_sit_2 (fun H locs G => ?_)
  refine lv_aload_n hx hb dX12_sit_5 rfl (lv_at hl 0 rfl) ?_
  refine lv_iload_n hx hb dX12_sit_6 rfl (lv_at hl 1 rfl) ?_
  obtain ⟨x1, hc, hf⟩ := bd_go hf
  refine xI_V C G (c_M_isPerson_m_M hc) mX12_isPerson kX12_309 (wM_at0) rfl ⟨Nat.le_of_ble_eq_true rfl, Nat.le_of_ble_eq_true rfl⟩ rfl hl.1 rfl (Nat.le_of_ble_eq_true rfl) ⟨Nat.le_refl _, Nat.le_refl _⟩ dX12_sit_7 (fun hz1 H locs G => ?_)
  refine lv_if_ne (tgt := 19) hx hb dX12_sit_10 (by decide) (fun h => ?_) (fun h => ?_)
  · have hf := it_f h hf
    refine lv_iload_n hx hb dX12_sit_19 rfl (lv_at hl 2 rfl) ?_
    refine lv_iconst (v := 0) hx hb dX12_sit_20 (by decide) ?_
    refine lv_aload_n hx hb dX12_sit_21 rfl (lv_at hl 0 rfl) ?_
    refine x_get C G fX12_298.g (wM_at0) rfl dX12_sit_22 ?_
    refine x_get C G fX12_149.g (wM_at9) rfl dX12_sit_25 ?_
    refine lv_iconst (v := 1) hx hb dX12_sit_28 (by decide) ?_
    refine lv_isub hx hb dX12_sit_29 ?_
    obtain ⟨x2, hc, hf⟩ := bd_go hf
    refine xI_S C G (c_M_in_any hc) mX12_in kX12_118 ⟨Nat.le_of_ble_eq_true rfl, Nat.le_of_ble_eq_true rfl⟩ rfl hl.1 rfl (Nat.le_of_ble_eq_true rfl) ⟨Nat.le_refl _, Nat.le_refl _⟩ dX12_sit_30 (fun hz2 H locs G => ?_)
    refine lv_if_ne (tgt := 42) hx hb dX12_sit_33 (by decide) (fun h => ?_) (fun h => ?_)
    · have hf := it_f h hf
      refine lv_aload_n hx hb dX12_sit_42 rfl (lv_at hl 0 rfl) ?_
      refine lv_iload_n hx hb dX12_sit_43 rfl (lv_at hl 2 rfl) ?_
      obtain ⟨x3, hc, hf⟩ := bd_go hf
      refine xI_V C G (c_M_isSat_m_M hc) mX12_isSat kX12_400 (wM_at0) rfl ⟨Nat.le_of_ble_eq_true rfl, Nat.le_of_ble_eq_true rfl⟩ rfl hl.1 rfl (Nat.le_of_ble_eq_true rfl) ⟨Nat.le_refl _, Nat.le_refl _⟩ dX12_sit_44 (fun hz3 H locs G => ?_)
      refine lv_if_eq (tgt := 56) hx hb dX12_sit_47 (by decide) (fun h => ?_) (fun h => ?_)
      · have hf := it_t h hf
        refine lv_aload_n hx hb dX12_sit_56 rfl (lv_at hl 0 rfl) ?_
        obtain ⟨x4, hc, hf⟩ := bd_go hf
        refine xV_V C G (c_M_remembers_m_M hc) mX12_remembers kX12_517 (wM_at0) rfl ⟨Nat.le_of_ble_eq_true rfl, Nat.le_of_ble_eq_true rfl⟩ rfl hl.1 rfl (Nat.le_of_ble_eq_true rfl) ⟨Nat.le_refl _, Nat.le_refl _⟩ dX12_sit_57 (fun H locs G => ?_)
        refine lv_aload_n hx hb dX12_sit_60 rfl (lv_at hl 0 rfl) ?_
        refine x_get C G fX12_17 (wM_at0) rfl dX12_sit_61 ?_
        refine lv_iload_n hx hb dX12_sit_64 rfl (lv_at hl 1 rfl) ?_
        have hi := ck_in hf
        have hf := ck_go hf
        refine x_iald C G (wM_at2) hi dX12_sit_65 ?_
        refine lv_topi (fun x5 ex5 => ?_)
        have hf := lt_go ex5 hf
        refine lv_istore_n (lv' := [(3, .int x5), (0, .ref (ad 0)), (1, .int l1), (2, .int l2)]) hx hb dX12_sit_66 rfl hl (by decide) rfl (fun ls hl => ?_)
        refine lv_aload_n hx hb dX12_sit_67 rfl (lv_at hl 1 rfl) ?_
        refine x_get C G fX12_17 (wM_at0) rfl dX12_sit_68 ?_
        refine lv_iload_n hx hb dX12_sit_71 rfl (lv_at hl 2 rfl) ?_
        refine lv_iload_n hx hb dX12_sit_72 rfl (lv_at hl 3 rfl) ?_
        have hi := ck_in hf
        have hf := ck_go hf
        refine x_iast (ws' := (wM E ad (0 : Int32) m_trouble m_where m_rv m_tape m_taped m_size m_spot m_sort m_place m_number m_fault m_wrongAt m_word (upd m_v l1.toNatClampNeg l2) m_x x4.1 m_kept x4.2 m_images m_matchNow m_slopsNow m_matchesNow m_slopped m_seatBest m_fedBest m_slopsBest m_sawBest m_leastNow m_stableNow m_fitsNow m_someNow m_everyNow m_otherIn m_askLeft tb_seats tb_slack tb_saw tb_quarrel tb_people tb_pairs tb_forks tb_unsures tb_trieds tb_fed tb_seat tb_one tb_other tb_years tb_kind tb_unsure tb_may tb_tried tb_name)) C G (wM_at2) hi wM_set_m_v dX12_sit_73 (fun H locs G => ?_)
        refine lv_aload_n hx hb dX12_sit_74 rfl (lv_at hl 1 rfl) ?_
        refine lv_iload_n hx hb dX12_sit_75 rfl (lv_at hl 0 rfl) ?_
        obtain ⟨x6, hc, hf⟩ := bd_go hf
        refine xI_V C G (c_M_good_m_M hc) mX12_good kX12_49 (wM_at0) rfl ⟨Nat.le_of_ble_eq_true rfl, Nat.le_of_ble_eq_true rfl⟩ rfl hl.1 rfl (Nat.le_of_ble_eq_true rfl) ⟨Nat.le_refl _, Nat.le_refl _⟩ dX12_sit_76 (fun hz H locs G => ?_)
        obtain rfl := Option.some.inj hf
        exact xI_ret C G rfl dX12_sit_79
      · have hf := it_f h hf
        refine lv_aload_n hx hb dX12_sit_50 rfl (lv_at hl 0 rfl) ?_
        refine lv_iconst (v := 5) hx hb dX12_sit_51 (by decide) ?_
        obtain ⟨x7, hc, hf⟩ := bd_go hf
        refine xI_V C G (c_M_refused_m_M hc) mX12_refused kX12_45 (wM_at0) rfl ⟨Nat.le_of_ble_eq_true rfl, Nat.le_of_ble_eq_true rfl⟩ rfl hl.1 rfl (Nat.le_of_ble_eq_true rfl) ⟨Nat.le_refl _, Nat.le_refl _⟩ dX12_sit_52 (fun hz H locs G => ?_)
        obtain rfl := Option.some.inj hf
        exact xI_ret C G rfl dX12_sit_55
    · have hf := it_t h hf
      refine lv_aload_n hx hb dX12_sit_36 rfl (lv_at hl 0 rfl) ?_
      refine lv_iconst (v := 2) hx hb dX12_sit_37 (by decide) ?_
      obtain ⟨x8, hc, hf⟩ := bd_go hf
      refine xI_V C G (c_M_refused_m_M hc) mX12_refused kX12_45 (wM_at0) rfl ⟨Nat.le_of_ble_eq_true rfl, Nat.le_of_ble_eq_true rfl⟩ rfl hl.1 rfl (Nat.le_of_ble_eq_true rfl) ⟨Nat.le_refl _, Nat.le_refl _⟩ dX12_sit_38 (fun hz H locs G => ?_)
      obtain rfl := Option.some.inj hf
      exact xI_ret C G rfl dX12_sit_41
  · have hf := it_t h hf
    refine lv_aload_n hx hb dX12_sit_13 rfl (lv_at hl 0 rfl) ?_
    refine lv_iconst (v := 1) hx hb dX12_sit_14 (by decide) ?_
    obtain ⟨x9, hc, hf⟩ := bd_go hf
    refine xI_V C G (c_M_refused_m_M hc) mX12_refused kX12_45 (wM_at0) rfl ⟨Nat.le_of_ble_eq_true rfl, Nat.le_of_ble_eq_true rfl⟩ rfl hl.1 rfl (Nat.le_of_ble_eq_true rfl) ⟨Nat.le_refl _, Nat.le_refl _⟩ dX12_sit_15 (fun hz H locs G => ?_)
    obtain rfl := Option.some.inj hf
    exact xI_ret C G rfl dX12_sit_18
set_option maxHeartbeats 4000000 in
set_option maxRecDepth 100000 in
theorem c_M_know_m_M {l : Launch} {E : xE} {ad : Nat → Nat} {m_thrown m_trouble m_where m_taped m_size m_spot m_sort m_place m_number m_fault m_wrongAt m_acts m_images m_matchNow m_slopsNow m_matchesNow m_fedBest m_slopsBest m_sawBest m_leastNow m_stableNow m_fitsNow m_someNow m_everyNow m_askLeft tb_seats tb_slack tb_saw tb_quarrel tb_people tb_pairs tb_forks tb_unsures tb_trieds tb_fed : Int32} {m_rv : Value} {m_tape m_v m_x m_past m_kept m_slopped m_seatBest m_otherIn tb_seat tb_one tb_other tb_years tb_kind tb_unsure tb_may tb_tried : Nat → Int32} {m_word : Int64} {tb_name : Nat → Int64} {l1 : Int32} {l2 : Int32} {R0 : Int32 × Int32 × Int32 × Int32 × (Nat → Int32) × (Nat → Int32) × (Nat → Int32) × Int32} (hf : f_M_know l1 l2 m_v m_x m_past m_acts tb_people = some R0) : xI l E yX12_know cX12_know 3 (some .int) 2 45 [.ref (ad 0), .int l1, .int l2] (wM E ad m_thrown m_trouble m_where m_rv m_tape m_taped m_size m_spot m_sort m_place m_number m_fault m_wrongAt m_word m_v m_x m_past m_kept m_acts m_images m_matchNow m_slopsNow m_matchesNow m_slopped m_seatBest m_fedBest m_slopsBest m_sawBest m_leastNow m_stableNow m_fitsNow m_someNow m_everyNow m_otherIn m_askLeft tb_seats tb_slack tb_saw tb_quarrel tb_people tb_pairs tb_forks tb_unsures tb_trieds tb_fed tb_seat tb_one tb_other tb_years tb_kind tb_unsure tb_may tb_tried tb_name) (wM E ad R0.2.1 R0.2.2.1 R0.2.2.2.1 m_rv m_tape m_taped m_size m_spot m_sort m_place m_number m_fault m_wrongAt m_word R0.2.2.2.2.1 R0.2.2.2.2.2.1 R0.2.2.2.2.2.2.1 m_kept R0.2.2.2.2.2.2.2 m_images m_matchNow m_slopsNow m_matchesNow m_slopped m_seatBest m_fedBest m_slopsBest m_sawBest m_leastNow m_stableNow m_fitsNow m_someNow m_everyNow m_otherIn m_askLeft tb_seats tb_slack tb_saw tb_quarrel tb_people tb_pairs tb_forks tb_unsures tb_trieds tb_fed tb_seat tb_one tb_other tb_years tb_kind tb_unsure tb_may tb_tried tb_name) R0.1 := by
  refine xI_of (by decide) (Nat.le_of_ble_eq_true rfl) (fun p e s m args below meth c A C ls hl G => ?_)
  have hx := C.1
  have hb := C.2.1
  have hl : lv_has ls 3 [(0, .ref (ad 0)), (1, .int l1), (2, .int l2)] := hl
  unfold f_M_know at hf
  refine lv_aload_n hx hb dX12_know_0 rfl (lv_at hl 0 rfl) ?_
  refine lv_iconst (v := 0) hx hb dX12_know_1 (by decide) ?_
  refine x_put (ws' := (wM E ad (0 : Int32) m_trouble m_where m_rv m_tape m_taped m_size m_spot m_sort m_place m_number m_fault m_wrongAt m_word m_v m_x m_past m_kept m_acts m_images m_matchNow m_slopsNow m_matchesNow m_slopped m_seatBest m_fedBest m_slopsBest m_sawBest m_leastNow m_stableNow m_fitsNow m_someNow m_everyNow m_otherIn m_askLeft tb_seats tb_slack tb_saw tb_quarrel tb_people tb_pairs tb_forks tb_unsures tb_trieds tb_fed tb_seat tb_one tb_other tb_years tb_kind tb_unsure tb_may tb_tried tb_name)) C G fX12_39 (wM_at0) rfl rfl (Nat.le_of_ble_eq_true rfl) wM_set_m_thrown dX12_know_2 (fun H locs G => ?_)
  refine lv_aload_n hx hb dX12_know_5 rfl (lv_at hl 0 rfl) ?_
  refine lv_iload_n hx hb dX12_know_6 rfl (lv_at hl 1 rfl) ?_
  refine lv_iload_n hx hb dX12_know_7 rfl (lv_at hl 2 rfl) ?_
  obtain ⟨x1, hc, hf⟩ := bd_go hf
  refine xI_V C G (c_M_areTwo_m_M hc) mX12_areTwo kX12_342 (wM_at0) rfl ⟨Nat.le_of_ble_eq_true rfl, Nat.le_of_ble_eq_true rfl⟩ rfl hl.1 rfl (Nat.le_of_ble_eq_true rfl) ⟨Nat.le_refl _, Nat.le_refl _⟩ dX12_know_8 (fun hz1 H locs G => ?_)
  refine lv_if_ne (tgt := 20) hx hb dX12_know_11 (by decide) (fun h => ?_) (fun h => ?_)
  · have hf := it_f h hf
    refine lv_aload_n hx hb dX12_know_20 rfl (lv_at hl 0 rfl) ?_
    obtain ⟨x2, hc, hf⟩ := bd_go hf
    refine xV_V C G (c_M_works_m_M hc) mX12_works kX12_333 (wM_at0) rfl ⟨Nat.le_of_ble_eq_true rfl, Nat.le_of_ble_eq_true rfl⟩ rfl hl.1 rfl (Nat.le_of_ble_eq_true rfl) ⟨Nat.le_refl _, Nat.le_refl _⟩ dX12_know_21 (fun H locs G => ?_)
    refine lv_aload_n hx hb dX12_know_24 rfl (lv_at hl 0 rfl) ?_
    refine lv_iload_n hx hb dX12_know_25 rfl (lv_at hl 1 rfl) ?_
    refine lv_iload_n hx hb dX12_know_26 rfl (lv_at hl 2 rfl) ?_
    obtain ⟨x3, hc, hf⟩ := bd_go hf
    refine xI_V C G (c_M_pairBy_m_M hc) mX12_pairBy kX12_345 (wM_at0) rfl ⟨Nat.le_of_ble_eq_true rfl, Nat.le_of_ble_eq_true rfl⟩ rfl hl.1 rfl (Nat.le_of_ble_eq_true rfl) ⟨Nat.le_refl _, Nat.le_refl _⟩ dX12_know_27 (fun hz H locs G => ?_)
    refine lv_bipush (v := -2) hx hb dX12_know_30 (by decide) ?_
    refine lv_icmp_eq (tgt := 41) hx hb dX12_know_32 (by decide) (fun h => ?_) (fun h => ?_)
    · have hf := it_t h hf
      refine lv_aload_n hx hb dX12_know_41 rfl (lv_at hl 0 rfl) ?_
      obtain ⟨x4, hc, hf⟩ := bd_go hf
      refine xV_V C G (c_M_remembers_m_M hc) mX12_remembers kX12_517 (wM_at0) rfl ⟨Nat.le_of_ble_eq_true rfl, Nat.le_of_ble_eq_true rfl⟩ rfl hl.1 rfl (Nat.le_of_ble_eq_true rfl) ⟨Nat.le_refl _, Nat.le_refl _⟩ dX12_know_42 (fun H locs G => ?_)
      refine lv_aload_n hx hb dX12_know_45 rfl (lv_at hl 0 rfl) ?_
      refine lv_iload_n hx hb dX12_know_46 rfl (lv_at hl 1 rfl) ?_
      refine lv_iload_n hx hb dX12_know_47 rfl (lv_at hl 2 rfl) ?_
      obtain ⟨x5, hc, hf⟩ := bd_go hf
      refine xV_V C G (c_M_knows_m_M hc) mX12_knows kX12_421 (wM_at0) rfl ⟨Nat.le_of_ble_eq_true rfl, Nat.le_of_ble_eq_true rfl⟩ rfl hl.1 rfl (Nat.le_of_ble_eq_true rfl) ⟨Nat.le_refl _, Nat.le_refl _⟩ dX12_know_48 (fun H locs G => ?_)
      refine lv_aload_n hx hb dX12_know_51 rfl (lv_at hl 0 rfl) ?_
      obtain ⟨x6, hc, hf⟩ := bd_go hf
      refine xV_V C G (c_M_remains_m_M hc) mX12_remains kX12_520 (wM_at0) rfl ⟨Nat.le_of_ble_eq_true rfl, Nat.le_of_ble_eq_true rfl⟩ rfl hl.1 rfl (Nat.le_of_ble_eq_true rfl) ⟨Nat.le_refl _, Nat.le_refl _⟩ dX12_know_52 (fun H locs G => ?_)
      refine lv_aload_n hx hb dX12_know_55 rfl (lv_at hl 0 rfl) ?_
      refine lv_aload_n hx hb dX12_know_56 rfl (lv_at hl 0 rfl) ?_
      refine x_get C G fX12_17 (wM_at0) rfl dX12_know_57 ?_
      refine lv_bipush (v := 55) hx hb dX12_know_60 (by decide) ?_
      have hi := ck_in hf
      have hf := ck_go hf
      refine x_iald C G (wM_at2) hi dX12_know_62 ?_
      refine lv_iconst (v := 1) hx hb dX12_know_63 (by decide) ?_
      refine lv_isub hx hb dX12_know_64 ?_
      obtain ⟨x7, hc, hf⟩ := bd_go hf
      refine xI_V C G (c_M_good_m_M hc) mX12_good kX12_49 (wM_at0) rfl ⟨Nat.le_of_ble_eq_true rfl, Nat.le_of_ble_eq_true rfl⟩ rfl hl.1 rfl (Nat.le_of_ble_eq_true rfl) ⟨Nat.le_refl _, Nat.le_refl _⟩ dX12_know_65 (fun hz H locs G => ?_)
      obtain rfl := Option.some.inj hf
      exact xI_ret C G rfl dX12_know_68
    · have hf := it_f h hf
      refine lv_aload_n hx hb dX12_know_35 rfl (lv_at hl 0 rfl) ?_
      refine lv_iconst (v := 5) hx hb dX12_know_36 (by decide) ?_
      obtain ⟨x8, hc, hf⟩ := bd_go hf
      refine xI_V C G (c_M_refused_m_M hc) mX12_refused kX12_45 (wM_at0) rfl ⟨Nat.le_of_ble_eq_true rfl, Nat.le_of_ble_eq_true rfl⟩ rfl hl.1 rfl (Nat.le_of_ble_eq_true rfl) ⟨Nat.le_refl _, Nat.le_refl _⟩ dX12_know_37 (fun hz H locs G => ?_)
      obtain rfl := Option.some.inj hf
      exact xI_ret C G rfl dX12_know_40
  · have hf := it_t h hf
    refine lv_aload_n hx hb dX12_know_14 rfl (lv_at hl 0 rfl) ?_
    refine lv_iconst (v := 1) hx hb dX12_know_15 (by decide) ?_
    obtain ⟨x9, hc, hf⟩ := bd_go hf
    refine xI_V C G (c_M_refused_m_M hc) mX12_refused kX12_45 (wM_at0) rfl ⟨Nat.le_of_ble_eq_true rfl, Nat.le_of_ble_eq_true rfl⟩ rfl hl.1 rfl (Nat.le_of_ble_eq_true rfl) ⟨Nat.le_refl _, Nat.le_refl _⟩ dX12_know_16 (fun hz H locs G => ?_)
    obtain rfl := Option.some.inj hf
    exact xI_ret C G rfl dX12_know_19
set_option maxHeartbeats 4000000 in
set_option maxRecDepth 100000 in
theorem c_M_granted_m_M {l : Launch} {E : xE} {ad : Nat → Nat} {m_thrown m_trouble m_where m_taped m_size m_spot m_sort m_place m_number m_fault m_wrongAt m_acts m_images m_matchNow m_slopsNow m_matchesNow m_fedBest m_slopsBest m_sawBest m_leastNow m_stableNow m_fitsNow m_someNow m_everyNow m_askLeft tb_seats tb_slack tb_saw tb_quarrel tb_people tb_pairs tb_forks tb_unsures tb_trieds tb_fed : Int32} {m_rv : Value} {m_tape m_v m_x m_past m_kept m_slopped m_seatBest m_otherIn tb_seat tb_one tb_other tb_years tb_kind tb_unsure tb_may tb_tried : Nat → Int32} {m_word : Int64} {tb_name : Nat → Int64} {R0 : Int32 × Int32 × Int32} (hf : f_M_granted = some R0) : xI l E yX12_granted cX12_granted 1 (some .boolean) 1 21 [.ref (ad 0)] (wM E ad m_thrown m_trouble m_where m_rv m_tape m_taped m_size m_spot m_sort m_place m_number m_fault m_wrongAt m_word m_v m_x m_past m_kept m_acts m_images m_matchNow m_slopsNow m_matchesNow m_slopped m_seatBest m_fedBest m_slopsBest m_sawBest m_leastNow m_stableNow m_fitsNow m_someNow m_everyNow m_otherIn m_askLeft tb_seats tb_slack tb_saw tb_quarrel tb_people tb_pairs tb_forks tb_unsures tb_trieds tb_fed tb_seat tb_one tb_other tb_years tb_kind tb_unsure tb_may tb_tried tb_name) (wM E ad m_thrown R0.2.1 R0.2.2 m_rv m_tape m_taped m_size m_spot m_sort m_place m_number m_fault m_wrongAt m_word m_v m_x m_past m_kept m_acts m_images m_matchNow m_slopsNow m_matchesNow m_slopped m_seatBest m_fedBest m_slopsBest m_sawBest m_leastNow m_stableNow m_fitsNow m_someNow m_everyNow m_otherIn m_askLeft tb_seats tb_slack tb_saw tb_quarrel tb_people tb_pairs tb_forks tb_unsures tb_trieds tb_fed tb_seat tb_one tb_other tb_years tb_kind tb_unsure tb_may tb_tried tb_name) R0.1 := by
  refine xI_of (by decide) (Nat.le_of_ble_eq_true rfl) (fun p e s m args below meth c A C ls hl G => ?_)
  have hx := C.1
  have hb := C.2.1
  have hl : lv_has ls 1 [(0, .ref (ad 0))] := hl
  unfold f_M_granted at hf
  refine lv_aload_n hx hb dX12_granted_0 rfl (lv_at hl 0 rfl) ?_
  refine lv_iconst (v := 0) hx hb dX12_granted_1 (by decide) ?_
  obtain ⟨x1, hc, hf⟩ := bd_go hf
  refine xI_V C G (c_M_good_m_M hc) mX12_good kX12_49 (wM_at0) rfl ⟨Nat.le_of_ble_eq_true rfl, Nat.le_of_ble_eq_true rfl⟩ rfl hl.1 rfl (Nat.le_of_ble_eq_true rfl) ⟨Nat.le_refl _, Nat.le_refl _⟩ dX12_granted_2 (fun hz H locs G => ?_)
  refine lv_pop hx hb dX12_granted_5 rfl ?_
  refine lv_iconst (v := 1) hx hb dX12_granted_6 (by decide) ?_
  obtain rfl := Option.some.inj hf
  exact xI_ret (r := (1 : Int32)) C G rfl dX12_granted_7
set_option maxHeartbeats 4000000 in
set_option maxRecDepth 100000 in
theorem c_M_denied_m_M {l : Launch} {E : xE} {ad : Nat → Nat} {m_thrown m_trouble m_where m_taped m_size m_spot m_sort m_place m_number m_fault m_wrongAt m_acts m_images m_matchNow m_slopsNow m_matchesNow m_fedBest m_slopsBest m_sawBest m_leastNow m_stableNow m_fitsNow m_someNow m_everyNow m_askLeft tb_seats tb_slack tb_saw tb_quarrel tb_people tb_pairs tb_forks tb_unsures tb_trieds tb_fed : Int32} {m_rv : Value} {m_tape m_v m_x m_past m_kept m_slopped m_seatBest m_otherIn tb_seat tb_one tb_other tb_years tb_kind tb_unsure tb_may tb_tried : Nat → Int32} {m_word : Int64} {tb_name : Nat → Int64} {l1 : Int32} {R0 : Int32 × Int32 × Int32} (hf : f_M_denied l1 = some R0) : xI l E yX12_denied cX12_denied 2 (some .boolean) 1 21 [.ref (ad 0), .int l1] (wM E ad m_thrown m_trouble m_where m_rv m_tape m_taped m_size m_spot m_sort m_place m_number m_fault m_wrongAt m_word m_v m_x m_past m_kept m_acts m_images m_matchNow m_slopsNow m_matchesNow m_slopped m_seatBest m_fedBest m_slopsBest m_sawBest m_leastNow m_stableNow m_fitsNow m_someNow m_everyNow m_otherIn m_askLeft tb_seats tb_slack tb_saw tb_quarrel tb_people tb_pairs tb_forks tb_unsures tb_trieds tb_fed tb_seat tb_one tb_other tb_years tb_kind tb_unsure tb_may tb_tried tb_name) (wM E ad m_thrown R0.2.1 R0.2.2 m_rv m_tape m_taped m_size m_spot m_sort m_place m_number m_fault m_wrongAt m_word m_v m_x m_past m_kept m_acts m_images m_matchNow m_slopsNow m_matchesNow m_slopped m_seatBest m_fedBest m_slopsBest m_sawBest m_leastNow m_stableNow m_fitsNow m_someNow m_everyNow m_otherIn m_askLeft tb_seats tb_slack tb_saw tb_quarrel tb_people tb_pairs tb_forks tb_unsures tb_trieds tb_fed tb_seat tb_one tb_other tb_years tb_kind tb_unsure tb_may tb_tried tb_name) R0.1 := by
  refine xI_of (by decide) (Nat.le_of_ble_eq_true rfl) (fun p e s m args below meth c A C ls hl G => ?_)
  have hx := C.1
  have hb := C.2.1
  have hl : lv_has ls 2 [(0, .ref (ad 0)), (1, .int l1)] := hl
  unfold f_M_denied at hf
  refine lv_aload_n hx hb dX12_denied_0 rfl (lv_at hl 0 rfl) ?_
  refine lv_iload_n hx hb dX12_denied_1 rfl (lv_at hl 1 rfl) ?_
  obtain ⟨x1, hc, hf⟩ := bd_go hf
  refine xI_V C G (c_M_refused_m_M hc) mX12_refused kX12_45 (wM_at0) rfl ⟨Nat.le_of_ble_eq_true rfl, Nat.le_of_ble_eq_true rfl⟩ rfl hl.1 rfl (Nat.le_of_ble_eq_true rfl) ⟨Nat.le_refl _, Nat.le_refl _⟩ dX12_denied_2 (fun hz H locs G => ?_)
  refine lv_pop hx hb dX12_denied_5 rfl ?_
  refine lv_iconst (v := 0) hx hb dX12_denied_6 (by decide) ?_
  obtain rfl := Option.some.inj hf
  exact xI_ret (r := (0 : Int32)) C G rfl dX12_denied_7
set_option maxHeartbeats 4000000 in
set_option maxRecDepth 100000 in
theorem w_M_undo_m_M_L38 {p : Program} {l : Launch} {e : Env} {s : State} {m : MethodId} {args : Array Value} {below : List Frame} {meth : Method} {c : Code} {A : Nat → Prop} {E : xE} {Q : State → Prop} {ad : Nat → Nat} {m_thrown m_trouble m_where m_taped m_size m_spot m_sort m_place m_number m_fault m_wrongAt m_acts m_images m_matchNow m_slopsNow m_matchesNow m_fedBest m_slopsBest m_sawBest m_leastNow m_stableNow m_fitsNow m_someNow m_everyNow m_askLeft tb_seats tb_slack tb_saw tb_quarrel tb_people tb_pairs tb_forks tb_unsures tb_trieds tb_fed : Int32} {m_rv : Value} {m_tape m_x m_past m_kept m_slopped m_seatBest m_otherIn tb_seat tb_one tb_other tb_years tb_kind tb_unsure tb_may tb_tried : Nat → Int32} {m_word : Int64} {tb_name : Nat → Int64} {o : (Nat → Int32)} (C : xC p s m args meth c cX12_undo 2 RX12 E A (some .boolean)) (J : ∀ (H : Heap) (locs : List Loc) (ls : Array Slot), xG s E A (wM E ad m_thrown m_trouble m_where m_rv m_tape m_taped m_size m_spot m_sort m_place m_number m_fault m_wrongAt m_word o m_x m_past m_kept m_acts m_images m_matchNow m_slopsNow m_matchesNow m_slopped m_seatBest m_fedBest m_slopsBest m_sawBest m_leastNow m_stableNow m_fitsNow m_someNow m_everyNow m_otherIn m_askLeft tb_seats tb_slack tb_saw tb_quarrel tb_people tb_pairs tb_forks tb_unsures tb_trieds tb_fed tb_seat tb_one tb_other tb_years tb_kind tb_unsure tb_may tb_tried tb_name) H locs → lv_has ls 2 [(0, .ref (ad 0))] → W p l e (xR 2 42) s m args below meth c H locs 0 0 Q (F0 m 70 ls [])) :
    ∀ (n : Nat) (l1 : Int32) (m_v : Nat → Int32) (H : Heap) (locs : List Loc) (ls : Array Slot), xG s E A (wM E ad m_thrown m_trouble m_where m_rv m_tape m_taped m_size m_spot m_sort m_place m_number m_fault m_wrongAt m_word m_v m_x m_past m_kept m_acts m_images m_matchNow m_slopsNow m_matchesNow m_slopped m_seatBest m_fedBest m_slopsBest m_sawBest m_leastNow m_stableNow m_fitsNow m_someNow m_everyNow m_otherIn m_askLeft tb_seats tb_slack tb_saw tb_quarrel tb_people tb_pairs tb_forks tb_unsures tb_trieds tb_fed tb_seat tb_one tb_other tb_years tb_kind tb_unsure tb_may tb_tried tb_name) H locs → lv_has ls 2 [(0, .ref (ad 0)), (1, .int l1)] → f_M_undo_L38 m_past m_acts n l1 m_v = some o → W p l e (xR 2 42) s m args below meth c H locs 0 0 Q (F0 m 38 ls []) := by
  have hx := C.1
  have hb := C.2.1
  intro n
  induction n with
  | zero =>
    intro l1 m_v H locs ls G hl hf
    exact nomatch (show (none : Option ((Nat → Int32))) = some o from hf)
  | succ n ih =>
    intro l1 m_v H locs ls G hl hf
    rw [f_M_undo_L38] at hf
    refine lv_iload_n hx hb dX12_undo_38 rfl (lv_at hl 1 rfl) ?_
    refine lv_bipush (v := 58) hx hb dX12_undo_39 (by decide) ?_
    refine lv_icmp_ge (tgt := 70) hx hb dX12_undo_41 (by decide) (fun h => ?_) (fun h => ?_)
    · have hf := it_t h hf
      obtain rfl := Option.some.inj hf
      exact J _ _ _ G (lv_sub hl [0] rfl)
    · have hf := it_f h hf
      refine lv_aload_n hx hb dX12_undo_44 rfl (lv_at hl 0 rfl) ?_
      refine x_get C G fX12_17 (wM_at0) rfl dX12_undo_45 ?_
      refine lv_iload_n hx hb dX12_undo_48 rfl (lv_at hl 1 rfl) ?_
      refine lv_aload_n hx hb dX12_undo_49 rfl (lv_at hl 0 rfl) ?_
      refine x_get C G fX12_24 (wM_at0) rfl dX12_undo_50 ?_
      refine lv_bipush (v := 58) hx hb dX12_undo_53 (by decide) ?_
      refine lv_aload_n hx hb dX12_undo_55 rfl (lv_at hl 0 rfl) ?_
      refine x_get C G fX12_303.g (wM_at0) rfl dX12_undo_56 ?_
      refine lv_imul hx hb dX12_undo_59 ?_
      refine lv_iload_n hx hb dX12_undo_60 rfl (lv_at hl 1 rfl) ?_
      refine lv_iadd hx hb dX12_undo_61 ?_
      have hi := ck_in hf
      have hf := ck_go hf
      refine x_iald C G (wM_at4) hi dX12_undo_62 ?_
      have hi := ck_in hf
      have hf := ck_go hf
      refine x_iast (ws' := (wM E ad m_thrown m_trouble m_where m_rv m_tape m_taped m_size m_spot m_sort m_place m_number m_fault m_wrongAt m_word (upd m_v l1.toNatClampNeg (m_past (((58 : Int32) * m_acts) + l1).toNatClampNeg)) m_x m_past m_kept m_acts m_images m_matchNow m_slopsNow m_matchesNow m_slopped m_seatBest m_fedBest m_slopsBest m_sawBest m_leastNow m_stableNow m_fitsNow m_someNow m_everyNow m_otherIn m_askLeft tb_seats tb_slack tb_saw tb_quarrel tb_people tb_pairs tb_forks tb_unsures tb_trieds tb_fed tb_seat tb_one tb_other tb_years tb_kind tb_unsure tb_may tb_tried tb_name)) C G (wM_at2) hi wM_set_m_v dX12_undo_63 (fun H locs G => ?_)
      obtain ⟨x2, ex2⟩ : ∃ z : Int32, z = l1 + (1 : Int32) := ⟨_, rfl⟩
      have hf := lt_go ex2 hf
      refine lv_iinc (v := x2) (lv' := [(1, .int x2), (0, .ref (ad 0))]) hx hb dX12_undo_64 hl (k := 1) rfl (by rw [ex2]; rfl) (by decide) rfl (fun ls hl => ?_)
      refine lv_goto (tgt := 38) hx hb dX12_undo_67 (by decide) ?_
      exact ih x2 (upd m_v l1.toNatClampNeg (m_past (((58 : Int32) * m_acts) + l1).toNatClampNeg)) _ _ _ G (lv_sub hl [1, 0] rfl) hf
set_option maxHeartbeats 4000000 in
set_option maxRecDepth 100000 in
theorem c_M_undo_m_M {l : Launch} {E : xE} {ad : Nat → Nat} {m_thrown m_trouble m_where m_taped m_size m_spot m_sort m_place m_number m_fault m_wrongAt m_acts m_images m_matchNow m_slopsNow m_matchesNow m_fedBest m_slopsBest m_sawBest m_leastNow m_stableNow m_fitsNow m_someNow m_everyNow m_askLeft tb_seats tb_slack tb_saw tb_quarrel tb_people tb_pairs tb_forks tb_unsures tb_trieds tb_fed : Int32} {m_rv : Value} {m_tape m_v m_x m_past m_kept m_slopped m_seatBest m_otherIn tb_seat tb_one tb_other tb_years tb_kind tb_unsure tb_may tb_tried : Nat → Int32} {m_word : Int64} {tb_name : Nat → Int64} {R0 : Int32 × Int32 × Int32 × Int32 × (Nat → Int32) × Int32} (hf : f_M_undo m_v m_past m_acts = some R0) : xI l E yX12_undo cX12_undo 2 (some .boolean) 2 42 [.ref (ad 0)] (wM E ad m_thrown m_trouble m_where m_rv m_tape m_taped m_size m_spot m_sort m_place m_number m_fault m_wrongAt m_word m_v m_x m_past m_kept m_acts m_images m_matchNow m_slopsNow m_matchesNow m_slopped m_seatBest m_fedBest m_slopsBest m_sawBest m_leastNow m_stableNow m_fitsNow m_someNow m_everyNow m_otherIn m_askLeft tb_seats tb_slack tb_saw tb_quarrel tb_people tb_pairs tb_forks tb_unsures tb_trieds tb_fed tb_seat tb_one tb_other tb_years tb_kind tb_unsure tb_may tb_tried tb_name) (wM E ad R0.2.1 R0.2.2.1 R0.2.2.2.1 m_rv m_tape m_taped m_size m_spot m_sort m_place m_number m_fault m_wrongAt m_word R0.2.2.2.2.1 m_x m_past m_kept R0.2.2.2.2.2 m_images m_matchNow m_slopsNow m_matchesNow m_slopped m_seatBest m_fedBest m_slopsBest m_sawBest m_leastNow m_stableNow m_fitsNow m_someNow m_everyNow m_otherIn m_askLeft tb_seats tb_slack tb_saw tb_quarrel tb_people tb_pairs tb_forks tb_unsures tb_trieds tb_fed tb_seat tb_one tb_other tb_years tb_kind tb_unsure tb_may tb_tried tb_name) R0.1 := by
  refine xI_of (by decide) (Nat.le_of_ble_eq_true rfl) (fun p e s m args below meth c A C ls hl G => ?_)
  have hx := C.1
  have hb := C.2.1
  have hl : lv_has ls 2 [(0, .ref (ad 0))] := hl
  unfold f_M_undo at hf
  refine lv_aload_n hx hb dX12_undo_0 rfl (lv_at hl 0 rfl) ?_
  refine lv_iconst (v := 0) hx hb dX12_undo_1 (by decide) ?_
  refine x_put (ws' := (wM E ad (0 : Int32) m_trouble m_where m_rv m_tape m_taped m_size m_spot m_sort m_place m_number m_fault m_wrongAt m_word m_v m_x m_past m_kept m_acts m_images m_matchNow m_slopsNow m_matchesNow m_slopped m_seatBest m_fedBest m_slopsBest m_sawBest m_leastNow m_stableNow m_fitsNow m_someNow m_everyNow m_otherIn m_askLeft tb_seats tb_slack tb_saw tb_quarrel tb_people tb_pairs tb_forks tb_unsures tb_trieds tb_fed tb_seat tb_one tb_other tb_years tb_kind tb_unsure tb_may tb_tried tb_name)) C G fX12_39 (wM_at0) rfl rfl (Nat.le_of_ble_eq_true rfl) wM_set_m_thrown dX12_undo_2 (fun H locs G => ?_)
  refine lv_aload_n hx hb dX12_undo_5 rfl (lv_at hl 0 rfl) ?_
  refine x_get C G fX12_298.g (wM_at0) rfl dX12_undo_6 ?_
  refine lv_ifnull hx hb dX12_undo_9 ?_
  refine lv_aload_n hx hb dX12_undo_12 rfl (lv_at hl 0 rfl) ?_
  refine x_get C G fX12_303.g (wM_at0) rfl dX12_undo_13 ?_
  refine lv_if_ne (tgt := 26) hx hb dX12_undo_16 (by decide) (fun h => ?_) (fun h => ?_)
  · have hf := it_f h hf
    refine lv_aload_n hx hb dX12_undo_26 rfl (lv_at hl 0 rfl) ?_
    refine lv_dup hx hb dX12_undo_27 rfl ?_
    refine x_get C G fX12_303.g (wM_at0) rfl dX12_undo_28 ?_
    refine lv_iconst (v := 1) hx hb dX12_undo_31 (by decide) ?_
    refine lv_isub hx hb dX12_undo_32 ?_
    refine lv_topi (fun x1 ex1 => ?_)
    have hf := lt_go ex1 hf
    refine x_put (ws' := (wM E ad (0 : Int32) m_trouble m_where m_rv m_tape m_taped m_size m_spot m_sort m_place m_number m_fault m_wrongAt m_word m_v m_x m_past m_kept x1 m_images m_matchNow m_slopsNow m_matchesNow m_slopped m_seatBest m_fedBest m_slopsBest m_sawBest m_leastNow m_stableNow m_fitsNow m_someNow m_everyNow m_otherIn m_askLeft tb_seats tb_slack tb_saw tb_quarrel tb_people tb_pairs tb_forks tb_unsures tb_trieds tb_fed tb_seat tb_one tb_other tb_years tb_kind tb_unsure tb_may tb_tried tb_name)) C G fX12_303 (wM_at0) rfl rfl (Nat.le_of_ble_eq_true rfl) wM_set_m_acts dX12_undo_33 (fun H locs G => ?_)
    refine lv_iconst (v := 0) hx hb dX12_undo_36 (by decide) ?_
    refine lv_istore_n (lv' := [(1, .int (0 : Int32)), (0, .ref (ad 0))]) hx hb dX12_undo_37 rfl hl (by decide) rfl (fun ls hl => ?_)
    obtain ⟨x3, hr, hf⟩ := bd_go hf
    have Jx3 : ∀ (H : Heap) (locs : List Loc) (ls : Array Slot), xG s E A (wM E ad (0 : Int32) m_trouble m_where m_rv m_tape m_taped m_size m_spot m_sort m_place m_number m_fault m_wrongAt m_word x3 m_x m_past m_kept x1 m_images m_matchNow m_slopsNow m_matchesNow m_slopped m_seatBest m_fedBest m_slopsBest m_sawBest m_leastNow m_stableNow m_fitsNow m_someNow m_everyNow m_otherIn m_askLeft tb_seats tb_slack tb_saw tb_quarrel tb_people tb_pairs tb_forks tb_unsures tb_trieds tb_fed tb_seat tb_one tb_other tb_years tb_kind tb_unsure tb_may tb_tried tb_name) H locs → lv_has ls 2 [(0, .ref (ad 0))] → W p l e (xR 2 42) s m args below meth c H locs 0 0 (MQ below (xqI E A (wM E ad R0.2.1 R0.2.2.1 R0.2.2.2.1 m_rv m_tape m_taped m_size m_spot m_sort m_place m_number m_fault m_wrongAt m_word R0.2.2.2.2.1 m_x m_past m_kept R0.2.2.2.2.2 m_images m_matchNow m_slopsNow m_matchesNow m_slopped m_seatBest m_fedBest m_slopsBest m_sawBest m_leastNow m_stableNow m_fitsNow m_someNow m_everyNow m_otherIn m_askLeft tb_seats tb_slack tb_saw tb_quarrel tb_people tb_pairs tb_forks tb_unsures tb_trieds tb_fed tb_seat tb_one tb_other tb_years tb_kind tb_unsure tb_may tb_tried tb_name) (some .boolean) R0.1) args s 0 0 A) (F0 m 70 ls []) := by
      intro H locs ls G hl
      refine lv_aload_n hx hb dX12_undo_70 rfl (lv_at hl 0 rfl) ?_
      obtain ⟨x4, hc, hf⟩ := bd_go hf
      refine xI_V C G (c_M_granted_m_M hc) mX12_granted kX12_526 (wM_at0) rfl ⟨Nat.le_of_ble_eq_true rfl, Nat.le_of_ble_eq_true rfl⟩ rfl hl.1 rfl (Nat.le_of_ble_eq_true rfl) ⟨Nat.le_refl _, Nat.le_refl _⟩ dX12_undo_71 (fun hz4 H locs G => ?_)
      obtain rfl := Option.some.inj hf
      exact xI_ret (r := x4.1) C G (hz4 _ rfl) dX12_undo_74
    exact w_M_undo_m_M_L38 C Jx3 fu _ _ _ _ _ G (lv_sub hl [1, 0] rfl) hr
  · have hf := it_t h hf
    refine lv_aload_n hx hb dX12_undo_19 rfl (lv_at hl 0 rfl) ?_
    refine lv_bipush (v := 6) hx hb dX12_undo_20 (by decide) ?_
    obtain ⟨x5, hc, hf⟩ := bd_go hf
    refine xI_V C G (c_M_denied_m_M hc) mX12_denied kX12_523 (wM_at0) rfl ⟨Nat.le_of_ble_eq_true rfl, Nat.le_of_ble_eq_true rfl⟩ rfl hl.1 rfl (Nat.le_of_ble_eq_true rfl) ⟨Nat.le_refl _, Nat.le_refl _⟩ dX12_undo_22 (fun hz5 H locs G => ?_)
    obtain rfl := Option.some.inj hf
    exact xI_ret (r := x5.1) C G (hz5 _ rfl) dX12_undo_25
set_option maxHeartbeats 4000000 in
set_option maxRecDepth 100000 in
theorem w_M_image_m_M_L34 {p : Program} {l : Launch} {e : Env} {s : State} {m : MethodId} {args : Array Value} {below : List Frame} {meth : Method} {c : Code} {A : Nat → Prop} {E : xE} {Q : State → Prop} {ad : Nat → Nat} {m_thrown m_trouble m_where m_taped m_size m_spot m_sort m_place m_number m_fault m_wrongAt m_acts m_images m_matchNow m_slopsNow m_matchesNow m_fedBest m_slopsBest m_sawBest m_leastNow m_stableNow m_fitsNow m_someNow m_everyNow m_askLeft tb_seats tb_slack tb_saw tb_quarrel tb_people tb_pairs tb_forks tb_unsures tb_trieds tb_fed : Int32} {m_rv : Value} {m_tape m_v m_x m_past m_slopped m_seatBest m_otherIn tb_seat tb_one tb_other tb_years tb_kind tb_unsure tb_may tb_tried : Nat → Int32} {m_word : Int64} {tb_name : Nat → Int64} {o : (Nat → Int32)} (C : xC p s m args meth c cX12_image 2 RX12 E A (some .int)) (J : ∀ (H : Heap) (locs : List Loc) (ls : Array Slot), xG s E A (wM E ad m_thrown m_trouble m_where m_rv m_tape m_taped m_size m_spot m_sort m_place m_number m_fault m_wrongAt m_word m_v m_x m_past o m_acts m_images m_matchNow m_slopsNow m_matchesNow m_slopped m_seatBest m_fedBest m_slopsBest m_sawBest m_leastNow m_stableNow m_fitsNow m_someNow m_everyNow m_otherIn m_askLeft tb_seats tb_slack tb_saw tb_quarrel tb_people tb_pairs tb_forks tb_unsures tb_trieds tb_fed tb_seat tb_one tb_other tb_years tb_kind tb_unsure tb_may tb_tried tb_name) H locs → lv_has ls 2 [(0, .ref (ad 0))] → W p l e (xR 1 21) s m args below meth c H locs 0 0 Q (F0 m 66 ls [])) :
    ∀ (n : Nat) (l1 : Int32) (m_kept : Nat → Int32) (H : Heap) (locs : List Loc) (ls : Array Slot), xG s E A (wM E ad m_thrown m_trouble m_where m_rv m_tape m_taped m_size m_spot m_sort m_place m_number m_fault m_wrongAt m_word m_v m_x m_past m_kept m_acts m_images m_matchNow m_slopsNow m_matchesNow m_slopped m_seatBest m_fedBest m_slopsBest m_sawBest m_leastNow m_stableNow m_fitsNow m_someNow m_everyNow m_otherIn m_askLeft tb_seats tb_slack tb_saw tb_quarrel tb_people tb_pairs tb_forks tb_unsures tb_trieds tb_fed tb_seat tb_one tb_other tb_years tb_kind tb_unsure tb_may tb_tried tb_name) H locs → lv_has ls 2 [(0, .ref (ad 0)), (1, .int l1)] → f_M_image_L34 m_v m_images n l1 m_kept = some o → W p l e (xR 1 21) s m args below meth c H locs 0 0 Q (F0 m 34 ls []) := by
  have hx := C.1
  have hb := C.2.1
  intro n
  induction n with
  | zero =>
    intro l1 m_kept H locs ls G hl hf
    exact nomatch (show (none : Option ((Nat → Int32))) = some o from hf)
  | succ n ih =>
    intro l1 m_kept H locs ls G hl hf
    rw [f_M_image_L34] at hf
    refine lv_iload_n hx hb dX12_image_34 rfl (lv_at hl 1 rfl) ?_
    refine lv_bipush (v := 58) hx hb dX12_image_35 (by decide) ?_
    refine lv_icmp_ge (tgt := 66) hx hb dX12_image_37 (by decide) (fun h => ?_) (fun h => ?_)
    · have hf := it_t h hf
      obtain rfl := Option.some.inj hf
      exact J _ _ _ G (lv_sub hl [0] rfl)
    · have hf := it_f h hf
      refine lv_aload_n hx hb dX12_image_40 rfl (lv_at hl 0 rfl) ?_
      refine x_get C G fX12_27 (wM_at0) rfl dX12_image_41 ?_
      refine lv_bipush (v := 58) hx hb dX12_image_44 (by decide) ?_
      refine lv_aload_n hx hb dX12_image_46 rfl (lv_at hl 0 rfl) ?_
      refine x_get C G fX12_306.g (wM_at0) rfl dX12_image_47 ?_
      refine lv_imul hx hb dX12_image_50 ?_
      refine lv_iload_n hx hb dX12_image_51 rfl (lv_at hl 1 rfl) ?_
      refine lv_iadd hx hb dX12_image_52 ?_
      refine lv_aload_n hx hb dX12_image_53 rfl (lv_at hl 0 rfl) ?_
      refine x_get C G fX12_17 (wM_at0) rfl dX12_image_54 ?_
      refine lv_iload_n hx hb dX12_image_57 rfl (lv_at hl 1 rfl) ?_
      have hi := ck_in hf
      have hf := ck_go hf
      refine x_iald C G (wM_at2) hi dX12_image_58 ?_
      have hi := ck_in hf
      have hf := ck_go hf
      refine x_iast (ws' := (wM E ad m_thrown m_trouble m_where m_rv m_tape m_taped m_size m_spot m_sort m_place m_number m_fault m_wrongAt m_word m_v m_x m_past (upd m_kept (((58 : Int32) * m_images) + l1).toNatClampNeg (m_v l1.toNatClampNeg)) m_acts m_images m_matchNow m_slopsNow m_matchesNow m_slopped m_seatBest m_fedBest m_slopsBest m_sawBest m_leastNow m_stableNow m_fitsNow m_someNow m_everyNow m_otherIn m_askLeft tb_seats tb_slack tb_saw tb_quarrel tb_people tb_pairs tb_forks tb_unsures tb_trieds tb_fed tb_seat tb_one tb_other tb_years tb_kind tb_unsure tb_may tb_tried tb_name)) C G (wM_at5) hi wM_set_m_kept dX12_image_59 (fun H locs G => ?_)
      obtain ⟨x1, ex1⟩ : ∃ z : Int32, z = l1 + (1 : Int32) := ⟨_, rfl⟩
      have hf := lt_go ex1 hf
      refine lv_iinc (v := x1) (lv' := [(1, .int x1), (0, .ref (ad 0))]) hx hb dX12_image_60 hl (k := 1) rfl (by rw [ex1]; rfl) (by decide) rfl (fun ls hl => ?_)
      refine lv_goto (tgt := 34) hx hb dX12_image_63 (by decide) ?_
      exact ih x1 (upd m_kept (((58 : Int32) * m_images) + l1).toNatClampNeg (m_v l1.toNatClampNeg)) _ _ _ G (lv_sub hl [1, 0] rfl) hf
set_option maxHeartbeats 4000000 in
set_option maxRecDepth 100000 in
theorem c_M_image_m_M {l : Launch} {E : xE} {ad : Nat → Nat} {m_thrown m_trouble m_where m_taped m_size m_spot m_sort m_place m_number m_fault m_wrongAt m_acts m_images m_matchNow m_slopsNow m_matchesNow m_fedBest m_slopsBest m_sawBest m_leastNow m_stableNow m_fitsNow m_someNow m_everyNow m_askLeft tb_seats tb_slack tb_saw tb_quarrel tb_people tb_pairs tb_forks tb_unsures tb_trieds tb_fed : Int32} {m_rv : Value} {m_tape m_v m_x m_past m_kept m_slopped m_seatBest m_otherIn tb_seat tb_one tb_other tb_years tb_kind tb_unsure tb_may tb_tried : Nat → Int32} {m_word : Int64} {tb_name : Nat → Int64} {R0 : Int32 × Int32 × Int32 × Int32 × (Nat → Int32) × Int32} (hf : f_M_image m_v m_kept m_images = some R0) : xI l E yX12_image cX12_image 2 (some .int) 1 21 [.ref (ad 0)] (wM E ad m_thrown m_trouble m_where m_rv m_tape m_taped m_size m_spot m_sort m_place m_number m_fault m_wrongAt m_word m_v m_x m_past m_kept m_acts m_images m_matchNow m_slopsNow m_matchesNow m_slopped m_seatBest m_fedBest m_slopsBest m_sawBest m_leastNow m_stableNow m_fitsNow m_someNow m_everyNow m_otherIn m_askLeft tb_seats tb_slack tb_saw tb_quarrel tb_people tb_pairs tb_forks tb_unsures tb_trieds tb_fed tb_seat tb_one tb_other tb_years tb_kind tb_unsure tb_may tb_tried tb_name) (wM E ad R0.2.1 R0.2.2.1 R0.2.2.2.1 m_rv m_tape m_taped m_size m_spot m_sort m_place m_number m_fault m_wrongAt m_word m_v m_x m_past R0.2.2.2.2.1 m_acts R0.2.2.2.2.2 m_matchNow m_slopsNow m_matchesNow m_slopped m_seatBest m_fedBest m_slopsBest m_sawBest m_leastNow m_stableNow m_fitsNow m_someNow m_everyNow m_otherIn m_askLeft tb_seats tb_slack tb_saw tb_quarrel tb_people tb_pairs tb_forks tb_unsures tb_trieds tb_fed tb_seat tb_one tb_other tb_years tb_kind tb_unsure tb_may tb_tried tb_name) R0.1 := by
  refine xI_of (by decide) (Nat.le_of_ble_eq_true rfl) (fun p e s m args below meth c A C ls hl G => ?_)
  have hx := C.1
  have hb := C.2.1
  have hl : lv_has ls 2 [(0, .ref (ad 0))] := hl
  unfold f_M_image at hf
  refine lv_aload_n hx hb dX12_image_0 rfl (lv_at hl 0 rfl) ?_
  refine lv_iconst (v := 0) hx hb dX12_image_1 (by decide) ?_
  refine x_put (ws' := (wM E ad (0 : Int32) m_trouble m_where m_rv m_tape m_taped m_size m_spot m_sort m_place m_number m_fault m_wrongAt m_word m_v m_x m_past m_kept m_acts m_images m_matchNow m_slopsNow m_matchesNow m_slopped m_seatBest m_fedBest m_slopsBest m_sawBest m_leastNow m_stableNow m_fitsNow m_someNow m_everyNow m_otherIn m_askLeft tb_seats tb_slack tb_saw tb_quarrel tb_people tb_pairs tb_forks tb_unsures tb_trieds tb_fed tb_seat tb_one tb_other tb_years tb_kind tb_unsure tb_may tb_tried tb_name)) C G fX12_39 (wM_at0) rfl rfl (Nat.le_of_ble_eq_true rfl) wM_set_m_thrown dX12_image_2 (fun H locs G => ?_)
  refine lv_aload_n hx hb dX12_image_5 rfl (lv_at hl 0 rfl) ?_
  refine x_get C G fX12_298.g (wM_at0) rfl dX12_image_6 ?_
  refine lv_ifnonnull (tgt := 18) hx hb dX12_image_9 (by decide) ?_
  refine lv_aload_n hx hb dX12_image_18 rfl (lv_at hl 0 rfl) ?_
  refine x_get C G fX12_306.g (wM_at0) rfl dX12_image_19 ?_
  refine lv_iconst (v := 3) hx hb dX12_image_22 (by decide) ?_
  refine lv_icmp_ne (tgt := 32) hx hb dX12_image_23 (by decide) (fun h => ?_) (fun h => ?_)
  · have hf := it_f h hf
    refine lv_iconst (v := 0) hx hb dX12_image_32 (by decide) ?_
    refine lv_istore_n (lv' := [(1, .int (0 : Int32)), (0, .ref (ad 0))]) hx hb dX12_image_33 rfl hl (by decide) rfl (fun ls hl => ?_)
    obtain ⟨x2, hr, hf⟩ := bd_go hf
    have Jx2 : ∀ (H : Heap) (locs : List Loc) (ls : Array Slot), xG s E A (wM E ad (0 : Int32) m_trouble m_where m_rv m_tape m_taped m_size m_spot m_sort m_place m_number m_fault m_wrongAt m_word m_v m_x m_past x2 m_acts m_images m_matchNow m_slopsNow m_matchesNow m_slopped m_seatBest m_fedBest m_slopsBest m_sawBest m_leastNow m_stableNow m_fitsNow m_someNow m_everyNow m_otherIn m_askLeft tb_seats tb_slack tb_saw tb_quarrel tb_people tb_pairs tb_forks tb_unsures tb_trieds tb_fed tb_seat tb_one tb_other tb_years tb_kind tb_unsure tb_may tb_tried tb_name) H locs → lv_has ls 2 [(0, .ref (ad 0))] → W p l e (xR 1 21) s m args below meth c H locs 0 0 (MQ below (xqI E A (wM E ad R0.2.1 R0.2.2.1 R0.2.2.2.1 m_rv m_tape m_taped m_size m_spot m_sort m_place m_number m_fault m_wrongAt m_word m_v m_x m_past R0.2.2.2.2.1 m_acts R0.2.2.2.2.2 m_matchNow m_slopsNow m_matchesNow m_slopped m_seatBest m_fedBest m_slopsBest m_sawBest m_leastNow m_stableNow m_fitsNow m_someNow m_everyNow m_otherIn m_askLeft tb_seats tb_slack tb_saw tb_quarrel tb_people tb_pairs tb_forks tb_unsures tb_trieds tb_fed tb_seat tb_one tb_other tb_years tb_kind tb_unsure tb_may tb_tried tb_name) (some .int) R0.1) args s 0 0 A) (F0 m 66 ls []) := by
      intro H locs ls G hl
      refine lv_aload_n hx hb dX12_image_66 rfl (lv_at hl 0 rfl) ?_
      refine lv_dup hx hb dX12_image_67 rfl ?_
      refine x_get C G fX12_306.g (wM_at0) rfl dX12_image_68 ?_
      refine lv_iconst (v := 1) hx hb dX12_image_71 (by decide) ?_
      refine lv_iadd hx hb dX12_image_72 ?_
      refine lv_topi (fun x3 ex3 => ?_)
      have hf := lt_go ex3 hf
      refine x_put (ws' := (wM E ad (0 : Int32) m_trouble m_where m_rv m_tape m_taped m_size m_spot m_sort m_place m_number m_fault m_wrongAt m_word m_v m_x m_past x2 m_acts x3 m_matchNow m_slopsNow m_matchesNow m_slopped m_seatBest m_fedBest m_slopsBest m_sawBest m_leastNow m_stableNow m_fitsNow m_someNow m_everyNow m_otherIn m_askLeft tb_seats tb_slack tb_saw tb_quarrel tb_people tb_pairs tb_forks tb_unsures tb_trieds tb_fed tb_seat tb_one tb_other tb_years tb_kind tb_unsure tb_may tb_tried tb_name)) C G fX12_306 (wM_at0) rfl rfl (Nat.le_of_ble_eq_true rfl) wM_set_m_images dX12_image_73 (fun H locs G => ?_)
      refine lv_aload_n hx hb dX12_image_76 rfl (lv_at hl 0 rfl) ?_
      refine lv_aload_n hx hb dX12_image_77 rfl (lv_at hl 0 rfl) ?_
      refine x_get C G fX12_306.g (wM_at0) rfl dX12_image_78 ?_
      refine lv_iconst (v := 1) hx hb dX12_image_81 (by decide) ?_
      refine lv_isub hx hb dX12_image_82 ?_
      obtain ⟨x4, hc, hf⟩ := bd_go hf
      refine xI_V C G (c_M_good_m_M hc) mX12_good kX12_49 (wM_at0) rfl ⟨Nat.le_of_ble_eq_true rfl, Nat.le_of_ble_eq_true rfl⟩ rfl hl.1 rfl (Nat.le_of_ble_eq_true rfl) ⟨Nat.le_refl _, Nat.le_refl _⟩ dX12_image_83 (fun hz H locs G => ?_)
      obtain rfl := Option.some.inj hf
      exact xI_ret C G rfl dX12_image_86
    exact w_M_image_m_M_L34 C Jx2 fu _ _ _ _ _ G (lv_sub hl [1, 0] rfl) hr
  · have hf := it_t h hf
    refine lv_aload_n hx hb dX12_image_26 rfl (lv_at hl 0 rfl) ?_
    refine lv_iconst (v := 3) hx hb dX12_image_27 (by decide) ?_
    obtain ⟨x5, hc, hf⟩ := bd_go hf
    refine xI_V C G (c_M_refused_m_M hc) mX12_refused kX12_45 (wM_at0) rfl ⟨Nat.le_of_ble_eq_true rfl, Nat.le_of_ble_eq_true rfl⟩ rfl hl.1 rfl (Nat.le_of_ble_eq_true rfl) ⟨Nat.le_refl _, Nat.le_refl _⟩ dX12_image_28 (fun hz H locs G => ?_)
    obtain rfl := Option.some.inj hf
    exact xI_ret C G rfl dX12_image_31
set_option maxHeartbeats 4000000 in
set_option maxRecDepth 100000 in
theorem w_M_back_m_M_L32 {p : Program} {l : Launch} {e : Env} {s : State} {m : MethodId} {args : Array Value} {below : List Frame} {meth : Method} {c : Code} {A : Nat → Prop} {E : xE} {Q : State → Prop} {ad : Nat → Nat} {m_thrown m_trouble m_where m_taped m_size m_spot m_sort m_place m_number m_fault m_wrongAt m_acts m_images m_matchNow m_slopsNow m_matchesNow m_fedBest m_slopsBest m_sawBest m_leastNow m_stableNow m_fitsNow m_someNow m_everyNow m_askLeft tb_seats tb_slack tb_saw tb_quarrel tb_people tb_pairs tb_forks tb_unsures tb_trieds tb_fed : Int32} {m_rv : Value} {m_tape m_x m_past m_kept m_slopped m_seatBest m_otherIn tb_seat tb_one tb_other tb_years tb_kind tb_unsure tb_may tb_tried : Nat → Int32} {m_word : Int64} {tb_name : Nat → Int64} {l1 : Int32} {o : (Nat → Int32)} (C : xC p s m args meth c cX12_back 3 RX12 E A (some .boolean)) (J : ∀ (H : Heap) (locs : List Loc) (ls : Array Slot), xG s E A (wM E ad m_thrown m_trouble m_where m_rv m_tape m_taped m_size m_spot m_sort m_place m_number m_fault m_wrongAt m_word o m_x m_past m_kept m_acts m_images m_matchNow m_slopsNow m_matchesNow m_slopped m_seatBest m_fedBest m_slopsBest m_sawBest m_leastNow m_stableNow m_fitsNow m_someNow m_everyNow m_otherIn m_askLeft tb_seats tb_slack tb_saw tb_quarrel tb_people tb_pairs tb_forks tb_unsures tb_trieds tb_fed tb_seat tb_one tb_other tb_years tb_kind tb_unsure tb_may tb_tried tb_name) H locs → lv_has ls 3 [(0, .ref (ad 0))] → W p l e (xR 2 42) s m args below meth c H locs 0 0 Q (F0 m 61 ls [])) :
    ∀ (n : Nat) (l2 : Int32) (m_v : Nat → Int32) (H : Heap) (locs : List Loc) (ls : Array Slot), xG s E A (wM E ad m_thrown m_trouble m_where m_rv m_tape m_taped m_size m_spot m_sort m_place m_number m_fault m_wrongAt m_word m_v m_x m_past m_kept m_acts m_images m_matchNow m_slopsNow m_matchesNow m_slopped m_seatBest m_fedBest m_slopsBest m_sawBest m_leastNow m_stableNow m_fitsNow m_someNow m_everyNow m_otherIn m_askLeft tb_seats tb_slack tb_saw tb_quarrel tb_people tb_pairs tb_forks tb_unsures tb_trieds tb_fed tb_seat tb_one tb_other tb_years tb_kind tb_unsure tb_may tb_tried tb_name) H locs → lv_has ls 3 [(0, .ref (ad 0)), (1, .int l1), (2, .int l2)] → f_M_back_L32 l1 m_kept n l2 m_v = some o → W p l e (xR 2 42) s m args below meth c H locs 0 0 Q (F0 m 32 ls []) := by
  have hx := C.1
  have hb := C.2.1
  intro n
  induction n with
  | zero =>
    intro l2 m_v H locs ls G hl hf
    exact nomatch (show (none : Option ((Nat → Int32))) = some o from hf)
  | succ n ih =>
    intro l2 m_v H locs ls G hl hf
    rw [f_M_back_L32] at hf
    refine lv_iload_n hx hb dX12_back_32 rfl (lv_at hl 2 rfl) ?_
    refine lv_bipush (v := 58) hx hb dX12_back_33 (by decide) ?_
    refine lv_icmp_ge (tgt := 61) hx hb dX12_back_35 (by decide) (fun h => ?_) (fun h => ?_)
    · have hf := it_t h hf
      obtain rfl := Option.some.inj hf
      exact J _ _ _ G (lv_sub hl [0] rfl)
    · have hf := it_f h hf
      refine lv_aload_n hx hb dX12_back_38 rfl (lv_at hl 0 rfl) ?_
      refine x_get C G fX12_17 (wM_at0) rfl dX12_back_39 ?_
      refine lv_iload_n hx hb dX12_back_42 rfl (lv_at hl 2 rfl) ?_
      refine lv_aload_n hx hb dX12_back_43 rfl (lv_at hl 0 rfl) ?_
      refine x_get C G fX12_27 (wM_at0) rfl dX12_back_44 ?_
      refine lv_bipush (v := 58) hx hb dX12_back_47 (by decide) ?_
      refine lv_iload_n hx hb dX12_back_49 rfl (lv_at hl 1 rfl) ?_
      refine lv_imul hx hb dX12_back_50 ?_
      refine lv_iload_n hx hb dX12_back_51 rfl (lv_at hl 2 rfl) ?_
      refine lv_iadd hx hb dX12_back_52 ?_
      have hi := ck_in hf
      have hf := ck_go hf
      refine x_iald C G (wM_at5) hi dX12_back_53 ?_
      have hi := ck_in hf
      have hf := ck_go hf
      refine x_iast (ws' := (wM E ad m_thrown m_trouble m_where m_rv m_tape m_taped m_size m_spot m_sort m_place m_number m_fault m_wrongAt m_word (upd m_v l2.toNatClampNeg (m_kept (((58 : Int32) * l1) + l2).toNatClampNeg)) m_x m_past m_kept m_acts m_images m_matchNow m_slopsNow m_matchesNow m_slopped m_seatBest m_fedBest m_slopsBest m_sawBest m_leastNow m_stableNow m_fitsNow m_someNow m_everyNow m_otherIn m_askLeft tb_seats tb_slack tb_saw tb_quarrel tb_people tb_pairs tb_forks tb_unsures tb_trieds tb_fed tb_seat tb_one tb_other tb_years tb_kind tb_unsure tb_may tb_tried tb_name)) C G (wM_at2) hi wM_set_m_v dX12_back_54 (fun H locs G => ?_)
      obtain ⟨x3, ex3⟩ : ∃ z : Int32, z = l2 + (1 : Int32) := ⟨_, rfl⟩
      have hf := lt_go ex3 hf
      refine lv_iinc (v := x3) (lv' := [(2, .int x3), (0, .ref (ad 0)), (1, .int l1)]) hx hb dX12_back_55 hl (k := 2) rfl (by rw [ex3]; rfl) (by decide) rfl (fun ls hl => ?_)
      refine lv_goto (tgt := 32) hx hb dX12_back_58 (by decide) ?_
      exact ih x3 (upd m_v l2.toNatClampNeg (m_kept (((58 : Int32) * l1) + l2).toNatClampNeg)) _ _ _ G (lv_sub hl [1, 2, 0] rfl) hf
set_option maxHeartbeats 4000000 in
set_option maxRecDepth 100000 in
theorem c_M_back_m_M {l : Launch} {E : xE} {ad : Nat → Nat} {m_thrown m_trouble m_where m_taped m_size m_spot m_sort m_place m_number m_fault m_wrongAt m_acts m_images m_matchNow m_slopsNow m_matchesNow m_fedBest m_slopsBest m_sawBest m_leastNow m_stableNow m_fitsNow m_someNow m_everyNow m_askLeft tb_seats tb_slack tb_saw tb_quarrel tb_people tb_pairs tb_forks tb_unsures tb_trieds tb_fed : Int32} {m_rv : Value} {m_tape m_v m_x m_past m_kept m_slopped m_seatBest m_otherIn tb_seat tb_one tb_other tb_years tb_kind tb_unsure tb_may tb_tried : Nat → Int32} {m_word : Int64} {tb_name : Nat → Int64} {l1 : Int32} {R0 : Int32 × Int32 × Int32 × Int32 × (Nat → Int32) × Int32} (hf : f_M_back l1 m_v m_kept m_acts m_images = some R0) : xI l E yX12_back cX12_back 3 (some .boolean) 2 42 [.ref (ad 0), .int l1] (wM E ad m_thrown m_trouble m_where m_rv m_tape m_taped m_size m_spot m_sort m_place m_number m_fault m_wrongAt m_word m_v m_x m_past m_kept m_acts m_images m_matchNow m_slopsNow m_matchesNow m_slopped m_seatBest m_fedBest m_slopsBest m_sawBest m_leastNow m_stableNow m_fitsNow m_someNow m_everyNow m_otherIn m_askLeft tb_seats tb_slack tb_saw tb_quarrel tb_people tb_pairs tb_forks tb_unsures tb_trieds tb_fed tb_seat tb_one tb_other tb_years tb_kind tb_unsure tb_may tb_tried tb_name) (wM E ad R0.2.1 R0.2.2.1 R0.2.2.2.1 m_rv m_tape m_taped m_size m_spot m_sort m_place m_number m_fault m_wrongAt m_word R0.2.2.2.2.1 m_x m_past m_kept R0.2.2.2.2.2 m_images m_matchNow m_slopsNow m_matchesNow m_slopped m_seatBest m_fedBest m_slopsBest m_sawBest m_leastNow m_stableNow m_fitsNow m_someNow m_everyNow m_otherIn m_askLeft tb_seats tb_slack tb_saw tb_quarrel tb_people tb_pairs tb_forks tb_unsures tb_trieds tb_fed tb_seat tb_one tb_other tb_years tb_kind tb_unsure tb_may tb_tried tb_name) R0.1 := by
  refine xI_of (by decide) (Nat.le_of_ble_eq_true rfl) (fun p e s m args below meth c A C ls hl G => ?_)
  have hx := C.1
  have hb := C.2.1
  have hl : lv_has ls 3 [(0, .ref (ad 0)), (1, .int l1)] := hl
  unfold f_M_back at hf
  refine lv_aload_n hx hb dX12_back_0 rfl (lv_at hl 0 rfl) ?_
  refine lv_iconst (v := 0) hx hb dX12_back_1 (by decide) ?_
  refine x_put (ws' := (wM E ad (0 : Int32) m_trouble m_where m_rv m_tape m_taped m_size m_spot m_sort m_place m_number m_fault m_wrongAt m_word m_v m_x m_past m_kept m_acts m_images m_matchNow m_slopsNow m_matchesNow m_slopped m_seatBest m_fedBest m_slopsBest m_sawBest m_leastNow m_stableNow m_fitsNow m_someNow m_everyNow m_otherIn m_askLeft tb_seats tb_slack tb_saw tb_quarrel tb_people tb_pairs tb_forks tb_unsures tb_trieds tb_fed tb_seat tb_one tb_other tb_years tb_kind tb_unsure tb_may tb_tried tb_name)) C G fX12_39 (wM_at0) rfl rfl (Nat.le_of_ble_eq_true rfl) wM_set_m_thrown dX12_back_2 (fun H locs G => ?_)
  refine lv_aload_n hx hb dX12_back_5 rfl (lv_at hl 0 rfl) ?_
  refine x_get C G fX12_298.g (wM_at0) rfl dX12_back_6 ?_
  refine lv_ifnull hx hb dX12_back_9 ?_
  refine lv_iload_n hx hb dX12_back_12 rfl (lv_at hl 1 rfl) ?_
  obtain ⟨b1, hr, hf⟩ := bd_go hf
  cases b1 with
  | true =>
    have hf := it_t rfl hf
    have J : ∀ (H : Heap) (locs : List Loc), xG s E A (wM E ad (0 : Int32) m_trouble m_where m_rv m_tape m_taped m_size m_spot m_sort m_place m_number m_fault m_wrongAt m_word m_v m_x m_past m_kept m_acts m_images m_matchNow m_slopsNow m_matchesNow m_slopped m_seatBest m_fedBest m_slopsBest m_sawBest m_leastNow m_stableNow m_fitsNow m_someNow m_everyNow m_otherIn m_askLeft tb_seats tb_slack tb_saw tb_quarrel tb_people tb_pairs tb_forks tb_unsures tb_trieds tb_fed tb_seat tb_one tb_other tb_years tb_kind tb_unsure tb_may tb_tried tb_name) H locs → W p l e (xR 2 42) s m args below meth c H locs 0 0 (MQ below (xqI E A (wM E ad R0.2.1 R0.2.2.1 R0.2.2.2.1 m_rv m_tape m_taped m_size m_spot m_sort m_place m_number m_fault m_wrongAt m_word R0.2.2.2.2.1 m_x m_past m_kept R0.2.2.2.2.2 m_images m_matchNow m_slopsNow m_matchesNow m_slopped m_seatBest m_fedBest m_slopsBest m_sawBest m_leastNow m_stableNow m_fitsNow m_someNow m_everyNow m_otherIn m_askLeft tb_seats tb_slack tb_saw tb_quarrel tb_people tb_pairs tb_forks tb_unsures tb_trieds tb_fed tb_seat tb_one tb_other tb_years tb_kind tb_unsure tb_may tb_tried tb_name) (some .boolean) R0.1) args s 0 0 A) (F0 m 24 ls []) := by
      intro H locs G
      refine lv_aload_n hx hb dX12_back_24 rfl (lv_at hl 0 rfl) ?_
      refine lv_iconst (v := 1) hx hb dX12_back_25 (by decide) ?_
      obtain ⟨x2, hc, hf⟩ := bd_go hf
      refine xI_V C G (c_M_denied_m_M hc) mX12_denied kX12_523 (wM_at0) rfl ⟨Nat.le_of_ble_eq_true rfl, Nat.le_of_ble_eq_true rfl⟩ rfl hl.1 rfl (Nat.le_of_ble_eq_true rfl) ⟨Nat.le_refl _, Nat.le_refl _⟩ dX12_back_26 (fun hz2 H locs G => ?_)
      obtain rfl := Option.some.inj hf
      exact xI_ret (r := x2.1) C G (hz2 _ rfl) dX12_back_29
    have hf := hr
    clear hr
    refine lv_if_lt (tgt := 24) hx hb dX12_back_13 (by decide) (fun h => ?_) (fun h => ?_)
    · have hf := it_t h hf
      exact J _ _ G
    · have hf := it_f h hf
      refine lv_iload_n hx hb dX12_back_16 rfl (lv_at hl 1 rfl) ?_
      refine lv_aload_n hx hb dX12_back_17 rfl (lv_at hl 0 rfl) ?_
      refine x_get C G fX12_306.g (wM_at0) rfl dX12_back_18 ?_
      refine lv_icmp_lt (tgt := 30) hx hb dX12_back_21 (by decide) (fun h => ?_) (fun h => ?_)
      · have hf := it_t h hf
        exact absurd (Option.some.inj hf) (by decide)
      · have hf := it_f h hf
        exact J _ _ G
  | false =>
    have hf := it_f (by decide) hf
    have J : ∀ (H : Heap) (locs : List Loc), xG s E A (wM E ad (0 : Int32) m_trouble m_where m_rv m_tape m_taped m_size m_spot m_sort m_place m_number m_fault m_wrongAt m_word m_v m_x m_past m_kept m_acts m_images m_matchNow m_slopsNow m_matchesNow m_slopped m_seatBest m_fedBest m_slopsBest m_sawBest m_leastNow m_stableNow m_fitsNow m_someNow m_everyNow m_otherIn m_askLeft tb_seats tb_slack tb_saw tb_quarrel tb_people tb_pairs tb_forks tb_unsures tb_trieds tb_fed tb_seat tb_one tb_other tb_years tb_kind tb_unsure tb_may tb_tried tb_name) H locs → W p l e (xR 2 42) s m args below meth c H locs 0 0 (MQ below (xqI E A (wM E ad R0.2.1 R0.2.2.1 R0.2.2.2.1 m_rv m_tape m_taped m_size m_spot m_sort m_place m_number m_fault m_wrongAt m_word R0.2.2.2.2.1 m_x m_past m_kept R0.2.2.2.2.2 m_images m_matchNow m_slopsNow m_matchesNow m_slopped m_seatBest m_fedBest m_slopsBest m_sawBest m_leastNow m_stableNow m_fitsNow m_someNow m_everyNow m_otherIn m_askLeft tb_seats tb_slack tb_saw tb_quarrel tb_people tb_pairs tb_forks tb_unsures tb_trieds tb_fed tb_seat tb_one tb_other tb_years tb_kind tb_unsure tb_may tb_tried tb_name) (some .boolean) R0.1) args s 0 0 A) (F0 m 30 ls []) := by
      intro H locs G
      refine lv_iconst (v := 0) hx hb dX12_back_30 (by decide) ?_
      refine lv_istore_n (lv' := [(2, .int (0 : Int32)), (0, .ref (ad 0)), (1, .int l1)]) hx hb dX12_back_31 rfl hl (by decide) rfl (fun ls hl => ?_)
      obtain ⟨x4, hr, hf⟩ := bd_go hf
      have Jx4 : ∀ (H : Heap) (locs : List Loc) (ls : Array Slot), xG s E A (wM E ad (0 : Int32) m_trouble m_where m_rv m_tape m_taped m_size m_spot m_sort m_place m_number m_fault m_wrongAt m_word x4 m_x m_past m_kept m_acts m_images m_matchNow m_slopsNow m_matchesNow m_slopped m_seatBest m_fedBest m_slopsBest m_sawBest m_leastNow m_stableNow m_fitsNow m_someNow m_everyNow m_otherIn m_askLeft tb_seats tb_slack tb_saw tb_quarrel tb_people tb_pairs tb_forks tb_unsures tb_trieds tb_fed tb_seat tb_one tb_other tb_years tb_kind tb_unsure tb_may tb_tried tb_name) H locs → lv_has ls 3 [(0, .ref (ad 0))] → W p l e (xR 2 42) s m args below meth c H locs 0 0 (MQ below (xqI E A (wM E ad R0.2.1 R0.2.2.1 R0.2.2.2.1 m_rv m_tape m_taped m_size m_spot m_sort m_place m_number m_fault m_wrongAt m_word R0.2.2.2.2.1 m_x m_past m_kept R0.2.2.2.2.2 m_images m_matchNow m_slopsNow m_matchesNow m_slopped m_seatBest m_fedBest m_slopsBest m_sawBest m_leastNow m_stableNow m_fitsNow m_someNow m_everyNow m_otherIn m_askLeft tb_seats tb_slack tb_saw tb_quarrel tb_people tb_pairs tb_forks tb_unsures tb_trieds tb_fed tb_seat tb_one tb_other tb_years tb_kind tb_unsure tb_may tb_tried tb_name) (some .boolean) R0.1) args s 0 0 A) (F0 m 61 ls []) := by
        intro H locs ls G hl
        refine lv_aload_n hx hb dX12_back_61 rfl (lv_at hl 0 rfl) ?_
        refine lv_iconst (v := 0) hx hb dX12_back_62 (by decide) ?_
        refine x_put (ws' := (wM E ad (0 : Int32) m_trouble m_where m_rv m_tape m_taped m_size m_spot m_sort m_place m_number m_fault m_wrongAt m_word x4 m_x m_past m_kept (0 : Int32) m_images m_matchNow m_slopsNow m_matchesNow m_slopped m_seatBest m_fedBest m_slopsBest m_sawBest m_leastNow m_stableNow m_fitsNow m_someNow m_everyNow m_otherIn m_askLeft tb_seats tb_slack tb_saw tb_quarrel tb_people tb_pairs tb_forks tb_unsures tb_trieds tb_fed tb_seat tb_one tb_other tb_years tb_kind tb_unsure tb_may tb_tried tb_name)) C G fX12_303 (wM_at0) rfl rfl (Nat.le_of_ble_eq_true rfl) wM_set_m_acts dX12_back_63 (fun H locs G => ?_)
        refine lv_aload_n hx hb dX12_back_66 rfl (lv_at hl 0 rfl) ?_
        obtain ⟨x5, hc, hf⟩ := bd_go hf
        refine xI_V C G (c_M_granted_m_M hc) mX12_granted kX12_526 (wM_at0) rfl ⟨Nat.le_of_ble_eq_true rfl, Nat.le_of_ble_eq_true rfl⟩ rfl hl.1 rfl (Nat.le_of_ble_eq_true rfl) ⟨Nat.le_refl _, Nat.le_refl _⟩ dX12_back_67 (fun hz5 H locs G => ?_)
        obtain rfl := Option.some.inj hf
        exact xI_ret (r := x5.1) C G (hz5 _ rfl) dX12_back_70
      exact w_M_back_m_M_L32 C Jx4 fu _ _ _ _ _ G (lv_sub hl [1, 2, 0] rfl) hr
    have hf := hr
    clear hr
    refine lv_if_lt (tgt := 24) hx hb dX12_back_13 (by decide) (fun h => ?_) (fun h => ?_)
    · have hf := it_t h hf
      exact absurd (Option.some.inj hf) (by decide)
    · have hf := it_f h hf
      refine lv_iload_n hx hb dX12_back_16 rfl (lv_at hl 1 rfl) ?_
      refine lv_aload_n hx hb dX12_back_17 rfl (lv_at hl 0 rfl) ?_
      refine x_get C G fX12_306.g (wM_at0) rfl dX12_back_18 ?_
      refine lv_icmp_lt (tgt := 30) hx hb dX12_back_21 (by decide) (fun h => ?_) (fun h => ?_)
      · have hf := it_t h hf
        exact J _ _ G
      · have hf := it_f h hf
        exact absurd (Option.some.inj hf) (by decide)
set_option maxHeartbeats 4000000 in
set_option maxRecDepth 100000 in
theorem w_M_led_m_M_L20 {p : Program} {l : Launch} {e : Env} {s : State} {m : MethodId} {args : Array Value} {below : List Frame} {meth : Method} {c : Code} {A : Nat → Prop} {E : xE} {ad : Nat → Nat} {m_thrown m_trouble m_where m_taped m_size m_spot m_sort m_place m_number m_fault m_wrongAt m_acts m_images m_matchNow m_slopsNow m_matchesNow m_fedBest m_slopsBest m_sawBest m_leastNow m_stableNow m_fitsNow m_someNow m_everyNow m_askLeft tb_seats tb_slack tb_saw tb_quarrel tb_people tb_pairs tb_forks tb_unsures tb_trieds tb_fed : Int32} {m_rv : Value} {m_tape m_v m_x m_past m_kept m_slopped m_seatBest m_otherIn tb_seat tb_one tb_other tb_years tb_kind tb_unsure tb_may tb_tried : Nat → Int32} {m_word : Int64} {tb_name : Nat → Int64} {l1 : Int32} {o : (Int32 × Int32 × (Nat → Int32)) ⊕ (Unit)} {R0 : Int32 × Int32 × (Nat → Int32)} (C : xC p s m args meth c cX12_led 4 RX12 E A (some .int)) (Jr : ∀ r, o = .inl r → r = R0) (J : ∀ t, o = .inr t → ∀ (H : Heap) (locs : List Loc) (ls : Array Slot), xG s E A (wM E ad m_thrown m_trouble m_where m_rv m_tape m_taped m_size m_spot m_sort m_place m_number m_fault m_wrongAt m_word m_v m_x m_past m_kept m_acts m_images m_matchNow m_slopsNow m_matchesNow m_slopped m_seatBest m_fedBest m_slopsBest m_sawBest m_leastNow m_stableNow m_fitsNow m_someNow m_everyNow m_otherIn m_askLeft tb_seats tb_slack tb_saw tb_quarrel tb_people tb_pairs tb_forks tb_unsures tb_trieds tb_fed tb_seat tb_one tb_other tb_years tb_kind tb_unsure tb_may tb_tried tb_name) H locs → lv_has ls 4 [(0, .ref (ad 0))] → W p l e (xR 5 110) s m args below meth c H locs 0 0 (MQ below (xqI E A (wM E ad R0.2.1 m_trouble m_where m_rv m_tape m_taped m_size m_spot m_sort m_place m_number m_fault m_wrongAt m_word m_v R0.2.2 m_past m_kept m_acts m_images m_matchNow m_slopsNow m_matchesNow m_slopped m_seatBest m_fedBest m_slopsBest m_sawBest m_leastNow m_stableNow m_fitsNow m_someNow m_everyNow m_otherIn m_askLeft tb_seats tb_slack tb_saw tb_quarrel tb_people tb_pairs tb_forks tb_unsures tb_trieds tb_fed tb_seat tb_one tb_other tb_years tb_kind tb_unsure tb_may tb_tried tb_name) (some .int) R0.1) args s 0 0 A) (F0 m 65 ls [])) :
    ∀ (n : Nat) (l2 : Int32) (l3 : Int32) (H : Heap) (locs : List Loc) (ls : Array Slot), xG s E A (wM E ad m_thrown m_trouble m_where m_rv m_tape m_taped m_size m_spot m_sort m_place m_number m_fault m_wrongAt m_word m_v m_x m_past m_kept m_acts m_images m_matchNow m_slopsNow m_matchesNow m_slopped m_seatBest m_fedBest m_slopsBest m_sawBest m_leastNow m_stableNow m_fitsNow m_someNow m_everyNow m_otherIn m_askLeft tb_seats tb_slack tb_saw tb_quarrel tb_people tb_pairs tb_forks tb_unsures tb_trieds tb_fed tb_seat tb_one tb_other tb_years tb_kind tb_unsure tb_may tb_tried tb_name) H locs → lv_has ls 4 [(0, .ref (ad 0)), (1, .int l1), (2, .int l2), (3, .int l3)] → f_M_led_L20 l1 m_thrown m_x tb_slack tb_people n l2 l3 = some o → W p l e (xR 5 110) s m args below meth c H locs 0 0 (MQ below (xqI E A (wM E ad R0.2.1 m_trouble m_where m_rv m_tape m_taped m_size m_spot m_sort m_place m_number m_fault m_wrongAt m_word m_v R0.2.2 m_past m_kept m_acts m_images m_matchNow m_slopsNow m_matchesNow m_slopped m_seatBest m_fedBest m_slopsBest m_sawBest m_leastNow m_stableNow m_fitsNow m_someNow m_everyNow m_otherIn m_askLeft tb_seats tb_slack tb_saw tb_quarrel tb_people tb_pairs tb_forks tb_unsures tb_trieds tb_fed tb_seat tb_one tb_other tb_years tb_kind tb_unsure tb_may tb_tried tb_name) (some .int) R0.1) args s 0 0 A) (F0 m 20 ls []) := by
  have hx := C.1
  have hb := C.2.1
  intro n
  induction n with
  | zero =>
    intro l2 l3 H locs ls G hl hf
    exact nomatch (show (none : Option ((Int32 × Int32 × (Nat → Int32)) ⊕ (Unit))) = some o from hf)
  | succ n ih =>
    intro l2 l3 H locs ls G hl hf
    rw [f_M_led_L20] at hf
    refine lv_aload_n hx hb dX12_led_20 rfl (lv_at hl 0 rfl) ?_
    refine x_get C G fX12_298.g (wM_at0) rfl dX12_led_21 ?_
    refine lv_ifnull hx hb dX12_led_24 ?_
    refine lv_iload_n hx hb dX12_led_27 rfl (lv_at hl 3 rfl) ?_
    refine lv_aload_n hx hb dX12_led_28 rfl (lv_at hl 0 rfl) ?_
    refine x_get C G fX12_298.g (wM_at0) rfl dX12_led_29 ?_
    refine x_get C G fX12_177.g (wM_at9) rfl dX12_led_32 ?_
    refine lv_icmp_ge (tgt := 65) hx hb dX12_led_35 (by decide) (fun h => ?_) (fun h => ?_)
    · have hf := it_t h hf
      exact J _ (Option.some.inj hf).symm _ _ _ G (lv_sub hl [0] rfl)
    · have hf := it_f h hf
      refine lv_aload_n hx hb dX12_led_38 rfl (lv_at hl 0 rfl) ?_
      refine lv_iload_n hx hb dX12_led_39 rfl (lv_at hl 3 rfl) ?_
      obtain ⟨x2, hc, hf⟩ := bd_go hf
      refine xI_V C G (c_M_feedersOf_m_M hc) mX12_feedersOf kX12_348 (wM_at0) rfl ⟨Nat.le_of_ble_eq_true rfl, Nat.le_of_ble_eq_true rfl⟩ rfl hl.1 rfl (Nat.le_of_ble_eq_true rfl) ⟨Nat.le_refl _, Nat.le_refl _⟩ dX12_led_40 (fun hz H locs G => ?_)
      refine lv_if_eq (tgt := 49) hx hb dX12_led_43 (by decide) (fun h => ?_) (fun h => ?_)
      · have hf := it_t h hf
        refine lv_iload_n hx hb dX12_led_49 rfl (lv_at hl 2 rfl) ?_
        refine lv_iload_n hx hb dX12_led_50 rfl (lv_at hl 1 rfl) ?_
        refine lv_icmp_ne (tgt := 56) hx hb dX12_led_51 (by decide) (fun h => ?_) (fun h => ?_)
        · have hf := it_f h hf
          obtain ⟨x3, ex3⟩ : ∃ z : Int32, z = l2 + (1 : Int32) := ⟨_, rfl⟩
          have hf := lt_go ex3 hf
          refine lv_iinc (v := x3) (lv' := [(2, .int x3), (0, .ref (ad 0)), (1, .int l1), (3, .int l3)]) hx hb dX12_led_56 hl (k := 2) rfl (by rw [ex3]; rfl) (by decide) rfl (fun ls hl => ?_)
          obtain ⟨x4, ex4⟩ : ∃ z : Int32, z = l3 + (1 : Int32) := ⟨_, rfl⟩
          have hf := lt_go ex4 hf
          refine lv_iinc (v := x4) (lv' := [(3, .int x4), (2, .int x3), (0, .ref (ad 0)), (1, .int l1)]) hx hb dX12_led_59 hl (k := 3) rfl (by rw [ex4]; rfl) (by decide) rfl (fun ls hl => ?_)
          refine lv_goto (tgt := 20) hx hb dX12_led_62 (by decide) ?_
          exact ih x3 x4 _ _ _ G (lv_sub hl [2, 3, 1, 0] rfl) hf
        · have hf := it_t h hf
          refine lv_iload_n hx hb dX12_led_54 rfl (lv_at hl 3 rfl) ?_
          obtain rfl := Jr _ (Option.some.inj hf).symm
          exact xI_ret C G rfl dX12_led_55
      · have hf := it_f h hf
        refine lv_goto (tgt := 59) hx hb dX12_led_46 (by decide) ?_
        obtain ⟨x5, ex5⟩ : ∃ z : Int32, z = l3 + (1 : Int32) := ⟨_, rfl⟩
        have hf := lt_go ex5 hf
        refine lv_iinc (v := x5) (lv' := [(3, .int x5), (0, .ref (ad 0)), (1, .int l1), (2, .int l2)]) hx hb dX12_led_59 hl (k := 3) rfl (by rw [ex5]; rfl) (by decide) rfl (fun ls hl => ?_)
        refine lv_goto (tgt := 20) hx hb dX12_led_62 (by decide) ?_
        exact ih l2 x5 _ _ _ G (lv_sub hl [1, 2, 3, 0] rfl) hf
set_option maxHeartbeats 4000000 in
set_option maxRecDepth 100000 in
theorem c_M_led_m_M {l : Launch} {E : xE} {ad : Nat → Nat} {m_thrown m_trouble m_where m_taped m_size m_spot m_sort m_place m_number m_fault m_wrongAt m_acts m_images m_matchNow m_slopsNow m_matchesNow m_fedBest m_slopsBest m_sawBest m_leastNow m_stableNow m_fitsNow m_someNow m_everyNow m_askLeft tb_seats tb_slack tb_saw tb_quarrel tb_people tb_pairs tb_forks tb_unsures tb_trieds tb_fed : Int32} {m_rv : Value} {m_tape m_v m_x m_past m_kept m_slopped m_seatBest m_otherIn tb_seat tb_one tb_other tb_years tb_kind tb_unsure tb_may tb_tried : Nat → Int32} {m_word : Int64} {tb_name : Nat → Int64} {l1 : Int32} {R0 : Int32 × Int32 × (Nat → Int32)} (hf : f_M_led l1 m_v m_x tb_slack tb_people = some R0) : xI l E yX12_led cX12_led 4 (some .int) 5 110 [.ref (ad 0), .int l1] (wM E ad m_thrown m_trouble m_where m_rv m_tape m_taped m_size m_spot m_sort m_place m_number m_fault m_wrongAt m_word m_v m_x m_past m_kept m_acts m_images m_matchNow m_slopsNow m_matchesNow m_slopped m_seatBest m_fedBest m_slopsBest m_sawBest m_leastNow m_stableNow m_fitsNow m_someNow m_everyNow m_otherIn m_askLeft tb_seats tb_slack tb_saw tb_quarrel tb_people tb_pairs tb_forks tb_unsures tb_trieds tb_fed tb_seat tb_one tb_other tb_years tb_kind tb_unsure tb_may tb_tried tb_name) (wM E ad R0.2.1 m_trouble m_where m_rv m_tape m_taped m_size m_spot m_sort m_place m_number m_fault m_wrongAt m_word m_v R0.2.2 m_past m_kept m_acts m_images m_matchNow m_slopsNow m_matchesNow m_slopped m_seatBest m_fedBest m_slopsBest m_sawBest m_leastNow m_stableNow m_fitsNow m_someNow m_everyNow m_otherIn m_askLeft tb_seats tb_slack tb_saw tb_quarrel tb_people tb_pairs tb_forks tb_unsures tb_trieds tb_fed tb_seat tb_one tb_other tb_years tb_kind tb_unsure tb_may tb_tried tb_name) R0.1 := by
  refine xI_of (by decide) (Nat.le_of_ble_eq_true rfl) (fun p e s m args below meth c A C ls hl G => ?_)
  have hx := C.1
  have hb := C.2.1
  have hl : lv_has ls 4 [(0, .ref (ad 0)), (1, .int l1)] := hl
  unfold f_M_led at hf
  refine lv_aload_n hx hb dX12_led_0 rfl (lv_at hl 0 rfl) ?_
  refine lv_iconst (v := 0) hx hb dX12_led_1 (by decide) ?_
  refine x_put (ws' := (wM E ad (0 : Int32) m_trouble m_where m_rv m_tape m_taped m_size m_spot m_sort m_place m_number m_fault m_wrongAt m_word m_v m_x m_past m_kept m_acts m_images m_matchNow m_slopsNow m_matchesNow m_slopped m_seatBest m_fedBest m_slopsBest m_sawBest m_leastNow m_stableNow m_fitsNow m_someNow m_everyNow m_otherIn m_askLeft tb_seats tb_slack tb_saw tb_quarrel tb_people tb_pairs tb_forks tb_unsures tb_trieds tb_fed tb_seat tb_one tb_other tb_years tb_kind tb_unsure tb_may tb_tried tb_name)) C G fX12_39 (wM_at0) rfl rfl (Nat.le_of_ble_eq_true rfl) wM_set_m_thrown dX12_led_2 (fun H locs G => ?_)
  refine lv_iconst (v := 0) hx hb dX12_led_5 (by decide) ?_
  refine lv_istore_n (lv' := [(2, .int (0 : Int32)), (0, .ref (ad 0)), (1, .int l1)]) hx hb dX12_led_6 rfl hl (by decide) rfl (fun ls hl => ?_)
  refine lv_aload_n hx hb dX12_led_7 rfl (lv_at hl 1 rfl) ?_
  refine x_get C G fX12_298.g (wM_at0) rfl dX12_led_8 ?_
  refine lv_ifnull hx hb dX12_led_11 ?_
  refine lv_aload_n hx hb dX12_led_14 rfl (lv_at hl 1 rfl) ?_
  obtain ⟨x1, hc, hf⟩ := bd_go hf
  refine xV_V C G (c_M_works_m_M hc) mX12_works kX12_333 (wM_at0) rfl ⟨Nat.le_of_ble_eq_true rfl, Nat.le_of_ble_eq_true rfl⟩ rfl hl.1 rfl (Nat.le_of_ble_eq_true rfl) ⟨Nat.le_refl _, Nat.le_refl _⟩ dX12_led_15 (fun H locs G => ?_)
  refine lv_iconst (v := 0) hx hb dX12_led_18 (by decide) ?_
  refine lv_istore_n (lv' := [(3, .int (0 : Int32)), (2, .int (0 : Int32)), (0, .ref (ad 0)), (1, .int l1)]) hx hb dX12_led_19 rfl hl (by decide) rfl (fun ls hl => ?_)
  obtain ⟨ox6, hr, hf⟩ := bd_go hf
  have Jx6 : ∀ x6, ox6 = .inr x6 → ∀ (H : Heap) (locs : List Loc) (ls : Array Slot), xG s E A (wM E ad (0 : Int32) m_trouble m_where m_rv m_tape m_taped m_size m_spot m_sort m_place m_number m_fault m_wrongAt m_word m_v x1 m_past m_kept m_acts m_images m_matchNow m_slopsNow m_matchesNow m_slopped m_seatBest m_fedBest m_slopsBest m_sawBest m_leastNow m_stableNow m_fitsNow m_someNow m_everyNow m_otherIn m_askLeft tb_seats tb_slack tb_saw tb_quarrel tb_people tb_pairs tb_forks tb_unsures tb_trieds tb_fed tb_seat tb_one tb_other tb_years tb_kind tb_unsure tb_may tb_tried tb_name) H locs → lv_has ls 4 [(0, .ref (ad 0))] → W p l e (xR 5 110) s m args below meth c H locs 0 0 (MQ below (xqI E A (wM E ad R0.2.1 m_trouble m_where m_rv m_tape m_taped m_size m_spot m_sort m_place m_number m_fault m_wrongAt m_word m_v R0.2.2 m_past m_kept m_acts m_images m_matchNow m_slopsNow m_matchesNow m_slopped m_seatBest m_fedBest m_slopsBest m_sawBest m_leastNow m_stableNow m_fitsNow m_someNow m_everyNow m_otherIn m_askLeft tb_seats tb_slack tb_saw tb_quarrel tb_people tb_pairs tb_forks tb_unsures tb_trieds tb_fed tb_seat tb_one tb_other tb_years tb_kind tb_unsure tb_may tb_tried tb_name) (some .int) R0.1) args s 0 0 A) (F0 m 65 ls []) := by
    intro x6 hq H locs ls G hl
    subst hq
    have hf := sm_r hf
    refine lv_aload_n hx hb dX12_led_65 rfl (lv_at hl 0 rfl) ?_
    refine lv_iconst (v := 1) hx hb dX12_led_66 (by decide) ?_
    refine x_put (ws' := (wM E ad (1 : Int32) m_trouble m_where m_rv m_tape m_taped m_size m_spot m_sort m_place m_number m_fault m_wrongAt m_word m_v x1 m_past m_kept m_acts m_images m_matchNow m_slopsNow m_matchesNow m_slopped m_seatBest m_fedBest m_slopsBest m_sawBest m_leastNow m_stableNow m_fitsNow m_someNow m_everyNow m_otherIn m_askLeft tb_seats tb_slack tb_saw tb_quarrel tb_people tb_pairs tb_forks tb_unsures tb_trieds tb_fed tb_seat tb_one tb_other tb_years tb_kind tb_unsure tb_may tb_tried tb_name)) C G fX12_39 (wM_at0) rfl rfl (Nat.le_of_ble_eq_true rfl) wM_set_m_thrown dX12_led_67 (fun H locs G => ?_)
    refine lv_iconst (v := 0) hx hb dX12_led_70 (by decide) ?_
    obtain rfl := Option.some.inj hf
    exact xI_ret C G rfl dX12_led_71
  have Jrx6 : ∀ r, ox6 = .inl r → r = R0 := by
    intro r hq
    subst hq
    exact Option.some.inj hf
  exact w_M_led_m_M_L20 C Jrx6 Jx6 fu _ _ _ _ _ G (lv_sub hl [2, 3, 1, 0] rfl) hr
set_option maxHeartbeats 4000000 in
set_option maxRecDepth 100000 in
theorem c_M_size_m_M {l : Launch} {E : xE} {ad : Nat → Nat} {m_thrown m_trouble m_where m_taped m_size m_spot m_sort m_place m_number m_fault m_wrongAt m_acts m_images m_matchNow m_slopsNow m_matchesNow m_fedBest m_slopsBest m_sawBest m_leastNow m_stableNow m_fitsNow m_someNow m_everyNow m_askLeft tb_seats tb_slack tb_saw tb_quarrel tb_people tb_pairs tb_forks tb_unsures tb_trieds tb_fed : Int32} {m_rv : Value} {m_tape m_v m_x m_past m_kept m_slopped m_seatBest m_otherIn tb_seat tb_one tb_other tb_years tb_kind tb_unsure tb_may tb_tried : Nat → Int32} {m_word : Int64} {tb_name : Nat → Int64} {l1 : Int32} {R0 : Int32 × Int32} (hf : f_M_size l1 m_taped m_v m_acts m_images tb_seats tb_slack tb_saw tb_quarrel tb_people tb_forks tb_unsures tb_trieds = some R0) : xI l E yX12_size cX12_size 2 (some .int) 1 22 [.ref (ad 0), .int l1] (wM E ad m_thrown m_trouble m_where m_rv m_tape m_taped m_size m_spot m_sort m_place m_number m_fault m_wrongAt m_word m_v m_x m_past m_kept m_acts m_images m_matchNow m_slopsNow m_matchesNow m_slopped m_seatBest m_fedBest m_slopsBest m_sawBest m_leastNow m_stableNow m_fitsNow m_someNow m_everyNow m_otherIn m_askLeft tb_seats tb_slack tb_saw tb_quarrel tb_people tb_pairs tb_forks tb_unsures tb_trieds tb_fed tb_seat tb_one tb_other tb_years tb_kind tb_unsure tb_may tb_tried tb_name) (wM E ad R0.2 m_trouble m_where m_rv m_tape m_taped m_size m_spot m_sort m_place m_number m_fault m_wrongAt m_word m_v m_x m_past m_kept m_acts m_images m_matchNow m_slopsNow m_matchesNow m_slopped m_seatBest m_fedBest m_slopsBest m_sawBest m_leastNow m_stableNow m_fitsNow m_someNow m_everyNow m_otherIn m_askLeft tb_seats tb_slack tb_saw tb_quarrel tb_people tb_pairs tb_forks tb_unsures tb_trieds tb_fed tb_seat tb_one tb_other tb_years tb_kind tb_unsure tb_may tb_tried tb_name) R0.1 := by
  refine xI_of (by decide) (Nat.le_of_ble_eq_true rfl) (fun p e s m args below meth c A C ls hl G => ?_)
  have hx := C.1
  have hb := C.2.1
  have hl : lv_has ls 2 [(0, .ref (ad 0)), (1, .int l1)] := hl
  unfold f_M_size at hf
  refine lv_aload_n hx hb dX12_size_0 rfl (lv_at hl 0 rfl) ?_
  refine lv_iconst (v := 0) hx hb dX12_size_1 (by decide) ?_
  refine x_put (ws' := (wM E ad (0 : Int32) m_trouble m_where m_rv m_tape m_taped m_size m_spot m_sort m_place m_number m_fault m_wrongAt m_word m_v m_x m_past m_kept m_acts m_images m_matchNow m_slopsNow m_matchesNow m_slopped m_seatBest m_fedBest m_slopsBest m_sawBest m_leastNow m_stableNow m_fitsNow m_someNow m_everyNow m_otherIn m_askLeft tb_seats tb_slack tb_saw tb_quarrel tb_people tb_pairs tb_forks tb_unsures tb_trieds tb_fed tb_seat tb_one tb_other tb_years tb_kind tb_unsure tb_may tb_tried tb_name)) C G fX12_39 (wM_at0) rfl rfl (Nat.le_of_ble_eq_true rfl) wM_set_m_thrown dX12_size_2 (fun H locs G => ?_)
  refine lv_iload_n hx hb dX12_size_5 rfl (lv_at hl 1 rfl) ?_
  refine lv_bipush (v := 12) hx hb dX12_size_6 (by decide) ?_
  refine lv_icmp_ne (tgt := 16) hx hb dX12_size_8 (by decide) (fun h => ?_) (fun h => ?_)
  · have hf := it_f h hf
    refine lv_iload_n hx hb dX12_size_16 rfl (lv_at hl 1 rfl) ?_
    refine lv_iconst (v := 0) hx hb dX12_size_17 (by decide) ?_
    refine lv_bipush (v := 11) hx hb dX12_size_18 (by decide) ?_
    obtain ⟨x1, hc, hf⟩ := bd_go hf
    refine xI_S C G (c_M_in_any hc) mX12_in kX12_118 ⟨Nat.le_of_ble_eq_true rfl, Nat.le_of_ble_eq_true rfl⟩ rfl hl.1 rfl (Nat.le_of_ble_eq_true rfl) ⟨Nat.le_refl _, Nat.le_refl _⟩ dX12_size_20 (fun hz1 H locs G => ?_)
    refine lv_if_ne (tgt := 28) hx hb dX12_size_23 (by decide) (fun h => ?_) (fun h => ?_)
    · have hf := it_f h hf
      refine lv_aload_n hx hb dX12_size_28 rfl (lv_at hl 0 rfl) ?_
      refine x_get C G fX12_298.g (wM_at0) rfl dX12_size_29 ?_
      refine lv_ifnonnull (tgt := 37) hx hb dX12_size_32 (by decide) ?_
      refine lv_iload_n hx hb dX12_size_37 rfl (lv_at hl 1 rfl) ?_
      by_cases hs0 : l1 = (0 : Int32)
      · have hf := it_t hs0 hf
        refine x_tab (k := 0) (tgt := 96) hx hb dX12_size_38 hs0 (by decide) (by decide) rfl (by decide) ?_
        refine lv_aload_n hx hb dX12_size_96 rfl (lv_at hl 0 rfl) ?_
        refine x_get C G fX12_298.g (wM_at0) rfl dX12_size_97 ?_
        refine x_get C G fX12_149.g (wM_at9) rfl dX12_size_100 ?_
        obtain rfl := Option.some.inj hf
        exact xI_ret C G rfl dX12_size_103
      have hf := it_f hs0 hf
      by_cases hs1 : l1 = (1 : Int32)
      · have hf := it_t hs1 hf
        refine x_tab (k := 1) (tgt := 104) hx hb dX12_size_38 hs1 (by decide) (by decide) rfl (by decide) ?_
        refine lv_aload_n hx hb dX12_size_104 rfl (lv_at hl 0 rfl) ?_
        refine x_get C G fX12_298.g (wM_at0) rfl dX12_size_105 ?_
        refine x_get C G fX12_209.g (wM_at9) rfl dX12_size_108 ?_
        obtain rfl := Option.some.inj hf
        exact xI_ret C G rfl dX12_size_111
      have hf := it_f hs1 hf
      by_cases hs2 : l1 = (2 : Int32)
      · have hf := it_t hs2 hf
        refine x_tab (k := 2) (tgt := 112) hx hb dX12_size_38 hs2 (by decide) (by decide) rfl (by decide) ?_
        refine lv_aload_n hx hb dX12_size_112 rfl (lv_at hl 0 rfl) ?_
        refine x_get C G fX12_298.g (wM_at0) rfl dX12_size_113 ?_
        refine x_get C G fX12_211.g (wM_at9) rfl dX12_size_116 ?_
        obtain rfl := Option.some.inj hf
        exact xI_ret C G rfl dX12_size_119
      have hf := it_f hs2 hf
      by_cases hs3 : l1 = (3 : Int32)
      · have hf := it_t hs3 hf
        refine x_tab (k := 3) (tgt := 120) hx hb dX12_size_38 hs3 (by decide) (by decide) rfl (by decide) ?_
        refine lv_aload_n hx hb dX12_size_120 rfl (lv_at hl 0 rfl) ?_
        refine x_get C G fX12_298.g (wM_at0) rfl dX12_size_121 ?_
        refine x_get C G fX12_213.g (wM_at9) rfl dX12_size_124 ?_
        obtain rfl := Option.some.inj hf
        exact xI_ret C G rfl dX12_size_127
      have hf := it_f hs3 hf
      by_cases hs4 : l1 = (4 : Int32)
      · have hf := it_t hs4 hf
        refine x_tab (k := 4) (tgt := 128) hx hb dX12_size_38 hs4 (by decide) (by decide) rfl (by decide) ?_
        refine lv_aload_n hx hb dX12_size_128 rfl (lv_at hl 0 rfl) ?_
        refine x_get C G fX12_298.g (wM_at0) rfl dX12_size_129 ?_
        refine x_get C G fX12_177.g (wM_at9) rfl dX12_size_132 ?_
        obtain rfl := Option.some.inj hf
        exact xI_ret C G rfl dX12_size_135
      have hf := it_f hs4 hf
      by_cases hs5 : l1 = (5 : Int32)
      · have hf := it_t hs5 hf
        refine x_tab (k := 5) (tgt := 136) hx hb dX12_size_38 hs5 (by decide) (by decide) rfl (by decide) ?_
        refine lv_aload_n hx hb dX12_size_136 rfl (lv_at hl 0 rfl) ?_
        refine x_get C G fX12_298.g (wM_at0) rfl dX12_size_137 ?_
        refine x_get C G fX12_231.g (wM_at9) rfl dX12_size_140 ?_
        obtain ⟨x2, hc, hf⟩ := bd_go hf
        refine xI_S C G (c_M_bits_any hc) mX12_bits kX12_234 ⟨Nat.le_of_ble_eq_true rfl, Nat.le_of_ble_eq_true rfl⟩ rfl hl.1 rfl (Nat.le_of_ble_eq_true rfl) ⟨Nat.le_refl _, Nat.le_refl _⟩ dX12_size_143 (fun hz H locs G => ?_)
        obtain rfl := Option.some.inj hf
        exact xI_ret C G rfl dX12_size_146
      have hf := it_f hs5 hf
      by_cases hs6 : l1 = (6 : Int32)
      · have hf := it_t hs6 hf
        refine x_tab (k := 6) (tgt := 147) hx hb dX12_size_38 hs6 (by decide) (by decide) rfl (by decide) ?_
        refine lv_aload_n hx hb dX12_size_147 rfl (lv_at hl 0 rfl) ?_
        refine x_get C G fX12_17 (wM_at0) rfl dX12_size_148 ?_
        refine lv_bipush (v := 55) hx hb dX12_size_151 (by decide) ?_
        have hi := ck_in hf
        have hf := ck_go hf
        refine x_iald C G (wM_at2) hi dX12_size_153 ?_
        obtain rfl := Option.some.inj hf
        exact xI_ret C G rfl dX12_size_154
      have hf := it_f hs6 hf
      by_cases hs7 : l1 = (7 : Int32)
      · have hf := it_t hs7 hf
        refine x_tab (k := 7) (tgt := 155) hx hb dX12_size_38 hs7 (by decide) (by decide) rfl (by decide) ?_
        refine lv_aload_n hx hb dX12_size_155 rfl (lv_at hl 0 rfl) ?_
        refine x_get C G fX12_298.g (wM_at0) rfl dX12_size_156 ?_
        refine x_get C G fX12_263.g (wM_at9) rfl dX12_size_159 ?_
        obtain rfl := Option.some.inj hf
        exact xI_ret C G rfl dX12_size_162
      have hf := it_f hs7 hf
      by_cases hs8 : l1 = (8 : Int32)
      · have hf := it_t hs8 hf
        refine x_tab (k := 8) (tgt := 163) hx hb dX12_size_38 hs8 (by decide) (by decide) rfl (by decide) ?_
        refine lv_aload_n hx hb dX12_size_163 rfl (lv_at hl 0 rfl) ?_
        refine x_get C G fX12_298.g (wM_at0) rfl dX12_size_164 ?_
        refine x_get C G fX12_277.g (wM_at9) rfl dX12_size_167 ?_
        obtain rfl := Option.some.inj hf
        exact xI_ret C G rfl dX12_size_170
      have hf := it_f hs8 hf
      by_cases hs9 : l1 = (9 : Int32)
      · have hf := it_t hs9 hf
        refine x_tab (k := 9) (tgt := 171) hx hb dX12_size_38 hs9 (by decide) (by decide) rfl (by decide) ?_
        refine lv_aload_n hx hb dX12_size_171 rfl (lv_at hl 0 rfl) ?_
        refine x_get C G fX12_17 (wM_at0) rfl dX12_size_172 ?_
        refine lv_bipush (v := 57) hx hb dX12_size_175 (by decide) ?_
        have hi := ck_in hf
        have hf := ck_go hf
        refine x_iald C G (wM_at2) hi dX12_size_177 ?_
        obtain rfl := Option.some.inj hf
        exact xI_ret C G rfl dX12_size_178
      have hf := it_f hs9 hf
      by_cases hs10 : l1 = (10 : Int32)
      · have hf := it_t hs10 hf
        refine x_tab (k := 10) (tgt := 179) hx hb dX12_size_38 hs10 (by decide) (by decide) rfl (by decide) ?_
        refine lv_aload_n hx hb dX12_size_179 rfl (lv_at hl 0 rfl) ?_
        refine x_get C G fX12_303.g (wM_at0) rfl dX12_size_180 ?_
        obtain rfl := Option.some.inj hf
        exact xI_ret C G rfl dX12_size_183
      have hf := it_f hs10 hf
      refine lv_tableOut (tgt := 184) hx hb dX12_size_38 (by have w0 := x_ne 0 rfl hs0; have w1 := x_ne 1 rfl hs1; have w2 := x_ne 2 rfl hs2; have w3 := x_ne 3 rfl hs3; have w4 := x_ne 4 rfl hs4; have w5 := x_ne 5 rfl hs5; have w6 := x_ne 6 rfl hs6; have w7 := x_ne 7 rfl hs7; have w8 := x_ne 8 rfl hs8; have w9 := x_ne 9 rfl hs9; have w10 := x_ne 10 rfl hs10; omega) (by decide) ?_
      refine lv_aload_n hx hb dX12_size_184 rfl (lv_at hl 0 rfl) ?_
      refine x_get C G fX12_306.g (wM_at0) rfl dX12_size_185 ?_
      obtain rfl := Option.some.inj hf
      exact xI_ret C G rfl dX12_size_188
    · have hf := it_t h hf
      refine lv_iconst (v := -1) hx hb dX12_size_26 (by decide) ?_
      obtain rfl := Option.some.inj hf
      exact xI_ret C G rfl dX12_size_27
  · have hf := it_t h hf
    refine lv_aload_n hx hb dX12_size_11 rfl (lv_at hl 0 rfl) ?_
    refine x_get C G fX12_291.g (wM_at0) rfl dX12_size_12 ?_
    obtain rfl := Option.some.inj hf
    exact xI_ret C G rfl dX12_size_15
set_option maxHeartbeats 4000000 in
set_option maxRecDepth 100000 in
theorem c_M_trouble_m_M {l : Launch} {E : xE} {ad : Nat → Nat} {m_thrown m_trouble m_where m_taped m_size m_spot m_sort m_place m_number m_fault m_wrongAt m_acts m_images m_matchNow m_slopsNow m_matchesNow m_fedBest m_slopsBest m_sawBest m_leastNow m_stableNow m_fitsNow m_someNow m_everyNow m_askLeft tb_seats tb_slack tb_saw tb_quarrel tb_people tb_pairs tb_forks tb_unsures tb_trieds tb_fed : Int32} {m_rv : Value} {m_tape m_v m_x m_past m_kept m_slopped m_seatBest m_otherIn tb_seat tb_one tb_other tb_years tb_kind tb_unsure tb_may tb_tried : Nat → Int32} {m_word : Int64} {tb_name : Nat → Int64} {R0 : Int32 × Int32} (hf : f_M_trouble m_trouble = some R0) : xI l E yX12_trouble cX12_trouble 1 (some .int) 0 0 [.ref (ad 0)] (wM E ad m_thrown m_trouble m_where m_rv m_tape m_taped m_size m_spot m_sort m_place m_number m_fault m_wrongAt m_word m_v m_x m_past m_kept m_acts m_images m_matchNow m_slopsNow m_matchesNow m_slopped m_seatBest m_fedBest m_slopsBest m_sawBest m_leastNow m_stableNow m_fitsNow m_someNow m_everyNow m_otherIn m_askLeft tb_seats tb_slack tb_saw tb_quarrel tb_people tb_pairs tb_forks tb_unsures tb_trieds tb_fed tb_seat tb_one tb_other tb_years tb_kind tb_unsure tb_may tb_tried tb_name) (wM E ad R0.2 m_trouble m_where m_rv m_tape m_taped m_size m_spot m_sort m_place m_number m_fault m_wrongAt m_word m_v m_x m_past m_kept m_acts m_images m_matchNow m_slopsNow m_matchesNow m_slopped m_seatBest m_fedBest m_slopsBest m_sawBest m_leastNow m_stableNow m_fitsNow m_someNow m_everyNow m_otherIn m_askLeft tb_seats tb_slack tb_saw tb_quarrel tb_people tb_pairs tb_forks tb_unsures tb_trieds tb_fed tb_seat tb_one tb_other tb_years tb_kind tb_unsure tb_may tb_tried tb_name) R0.1 := by
  refine xI_of (by decide) (Nat.le_of_ble_eq_true rfl) (fun p e s m args below meth c A C ls hl G => ?_)
  have hx := C.1
  have hb := C.2.1
  have hl : lv_has ls 1 [(0, .ref (ad 0))] := hl
  unfold f_M_trouble at hf
  refine lv_aload_n hx hb dX12_trouble_0 rfl (lv_at hl 0 rfl) ?_
  refine lv_iconst (v := 0) hx hb dX12_trouble_1 (by decide) ?_
  refine x_put (ws' := (wM E ad (0 : Int32) m_trouble m_where m_rv m_tape m_taped m_size m_spot m_sort m_place m_number m_fault m_wrongAt m_word m_v m_x m_past m_kept m_acts m_images m_matchNow m_slopsNow m_matchesNow m_slopped m_seatBest m_fedBest m_slopsBest m_sawBest m_leastNow m_stableNow m_fitsNow m_someNow m_everyNow m_otherIn m_askLeft tb_seats tb_slack tb_saw tb_quarrel tb_people tb_pairs tb_forks tb_unsures tb_trieds tb_fed tb_seat tb_one tb_other tb_years tb_kind tb_unsure tb_may tb_tried tb_name)) C G fX12_39 (wM_at0) rfl rfl (Nat.le_of_ble_eq_true rfl) wM_set_m_thrown dX12_trouble_2 (fun H locs G => ?_)
  refine lv_aload_n hx hb dX12_trouble_5 rfl (lv_at hl 0 rfl) ?_
  refine x_get C G fX12_42.g (wM_at0) rfl dX12_trouble_6 ?_
  obtain rfl := Option.some.inj hf
  exact xI_ret C G rfl dX12_trouble_9
set_option maxHeartbeats 4000000 in
set_option maxRecDepth 100000 in
theorem c_M_thrown_m_M {l : Launch} {E : xE} {ad : Nat → Nat} {m_thrown m_trouble m_where m_taped m_size m_spot m_sort m_place m_number m_fault m_wrongAt m_acts m_images m_matchNow m_slopsNow m_matchesNow m_fedBest m_slopsBest m_sawBest m_leastNow m_stableNow m_fitsNow m_someNow m_everyNow m_askLeft tb_seats tb_slack tb_saw tb_quarrel tb_people tb_pairs tb_forks tb_unsures tb_trieds tb_fed : Int32} {m_rv : Value} {m_tape m_v m_x m_past m_kept m_slopped m_seatBest m_otherIn tb_seat tb_one tb_other tb_years tb_kind tb_unsure tb_may tb_tried : Nat → Int32} {m_word : Int64} {tb_name : Nat → Int64} {R0 : Int32} (hf : f_M_thrown m_thrown = some R0) : xI l E yX12_thrown cX12_thrown 1 (some .int) 0 0 [.ref (ad 0)] (wM E ad m_thrown m_trouble m_where m_rv m_tape m_taped m_size m_spot m_sort m_place m_number m_fault m_wrongAt m_word m_v m_x m_past m_kept m_acts m_images m_matchNow m_slopsNow m_matchesNow m_slopped m_seatBest m_fedBest m_slopsBest m_sawBest m_leastNow m_stableNow m_fitsNow m_someNow m_everyNow m_otherIn m_askLeft tb_seats tb_slack tb_saw tb_quarrel tb_people tb_pairs tb_forks tb_unsures tb_trieds tb_fed tb_seat tb_one tb_other tb_years tb_kind tb_unsure tb_may tb_tried tb_name) (wM E ad m_thrown m_trouble m_where m_rv m_tape m_taped m_size m_spot m_sort m_place m_number m_fault m_wrongAt m_word m_v m_x m_past m_kept m_acts m_images m_matchNow m_slopsNow m_matchesNow m_slopped m_seatBest m_fedBest m_slopsBest m_sawBest m_leastNow m_stableNow m_fitsNow m_someNow m_everyNow m_otherIn m_askLeft tb_seats tb_slack tb_saw tb_quarrel tb_people tb_pairs tb_forks tb_unsures tb_trieds tb_fed tb_seat tb_one tb_other tb_years tb_kind tb_unsure tb_may tb_tried tb_name) R0 := by
  refine xI_of (by decide) (Nat.le_of_ble_eq_true rfl) (fun p e s m args below meth c A C ls hl G => ?_)
  have hx := C.1
  have hb := C.2.1
  have hl : lv_has ls 1 [(0, .ref (ad 0))] := hl
  unfold f_M_thrown at hf
  refine lv_aload_n hx hb dX12_thrown_0 rfl (lv_at hl 0 rfl) ?_
  refine x_get C G fX12_39.g (wM_at0) rfl dX12_thrown_1 ?_
  obtain rfl := Option.some.inj hf
  exact xI_ret C G rfl dX12_thrown_4
set_option maxHeartbeats 4000000 in
set_option maxRecDepth 100000 in
theorem w_M_feed_m_N_L23 {p : Program} {l : Launch} {e : Env} {s : State} {m : MethodId} {args : Array Value} {below : List Frame} {meth : Method} {c : Code} {A : Nat → Prop} {E : xE} {Q : State → Prop} {ad : Nat → Nat} {m_thrown m_trouble m_where m_size m_spot m_sort m_place m_number m_fault m_wrongAt m_acts m_images m_matchNow m_slopsNow m_matchesNow m_fedBest m_slopsBest m_sawBest m_leastNow m_stableNow m_fitsNow m_someNow m_everyNow m_askLeft : Int32} {m_rv : Value} {m_word : Int64} {m_v m_x m_past m_kept m_slopped m_seatBest m_otherIn : Nat → Int32} {l1 : Int32} {l2 : Int32} {l3 : Int32} {l4 : Int32} {l5 : Int32} {o : (Nat → Int32) × Int32} (C : xC p s m args meth c cX12_feed 8 RX12 E A (some .int)) (J : ∀ (H : Heap) (locs : List Loc) (ls : Array Slot), xG s E A (wN E ad m_thrown m_trouble m_where m_rv o.1 o.2 m_size m_spot m_sort m_place m_number m_fault m_wrongAt m_word m_v m_x m_past m_kept m_acts m_images m_matchNow m_slopsNow m_matchesNow m_slopped m_seatBest m_fedBest m_slopsBest m_sawBest m_leastNow m_stableNow m_fitsNow m_someNow m_everyNow m_otherIn m_askLeft) H locs → lv_has ls 8 [(0, .ref (ad 0))] → W p l e (xR 0 0) s m args below meth c H locs 0 0 Q (F0 m 117 ls [])) :
    ∀ (n : Nat) (l6 : Int32) (m_tape : Nat → Int32) (m_taped : Int32) (H : Heap) (locs : List Loc) (ls : Array Slot), xG s E A (wN E ad m_thrown m_trouble m_where m_rv m_tape m_taped m_size m_spot m_sort m_place m_number m_fault m_wrongAt m_word m_v m_x m_past m_kept m_acts m_images m_matchNow m_slopsNow m_matchesNow m_slopped m_seatBest m_fedBest m_slopsBest m_sawBest m_leastNow m_stableNow m_fitsNow m_someNow m_everyNow m_otherIn m_askLeft) H locs → lv_has ls 8 [(0, .ref (ad 0)), (1, .int l1), (2, .int l2), (3, .int l3), (4, .int l4), (5, .int l5), (6, .int l6)] → f_M_feed_L23 l1 l2 l3 l4 l5 n l6 m_tape m_taped = some o → W p l e (xR 0 0) s m args below meth c H locs 0 0 Q (F0 m 23 ls []) := by
  have hx := C.1
  have hb := C.2.1
  intro n
  induction n with
  | zero =>
    intro l6 m_tape m_taped H locs ls G hl hf
    exact nomatch (show (none : Option ((Nat → Int32) × Int32)) = some o from hf)
  | succ n ih =>
    intro l6 m_tape m_taped H locs ls G hl hf
    rw [f_M_feed_L23] at hf
    refine lv_iload hx hb dX12_feed_23 (lv_at hl 6 rfl) ?_
    refine lv_bipush (v := 20) hx hb dX12_feed_25 (by decide) ?_
    refine lv_icmp_ge (tgt := 117) hx hb dX12_feed_27 (by decide) (fun h => ?_) (fun h => ?_)
    · have hf := it_t h hf
      obtain rfl := Option.some.inj hf
      exact J _ _ _ G (lv_sub hl [0] rfl)
    · have hf := it_f h hf
      refine lv_iload hx hb dX12_feed_30 (lv_at hl 6 rfl) ?_
      refine lv_iconst (v := 4) hx hb dX12_feed_32 (by decide) ?_
      obtain ⟨x1, hrx1, hf⟩ := bd_go hf
      have Jx1 : ∀ (H : Heap) (locs : List Loc) (ls : Array Slot), xG s E A (wN E ad m_thrown m_trouble m_where m_rv m_tape m_taped m_size m_spot m_sort m_place m_number m_fault m_wrongAt m_word m_v m_x m_past m_kept m_acts m_images m_matchNow m_slopsNow m_matchesNow m_slopped m_seatBest m_fedBest m_slopsBest m_sawBest m_leastNow m_stableNow m_fitsNow m_someNow m_everyNow m_otherIn m_askLeft) H locs → lv_has ls 8 [(0, .ref (ad 0)), (1, .int l1), (2, .int l2), (3, .int l3), (4, .int l4), (5, .int l5), (6, .int l6)] → W p l e (xR 0 0) s m args below meth c H locs 0 0 Q (F0 m 76 ls [.int x1]) := by
        intro H locs ls G hl
        refine lv_istore (lv' := [(7, .int x1), (0, .ref (ad 0)), (1, .int l1), (2, .int l2), (3, .int l3), (4, .int l4), (5, .int l5), (6, .int l6)]) hx hb dX12_feed_76 hl (by decide) rfl (fun ls hl => ?_)
        refine lv_aload_n hx hb dX12_feed_78 rfl (lv_at hl 1 rfl) ?_
        refine x_get C G fX12_13 (wN_at0) rfl dX12_feed_79 ?_
        refine lv_aload_n hx hb dX12_feed_82 rfl (lv_at hl 1 rfl) ?_
        refine x_get C G fX12_291.g (wN_at0) rfl dX12_feed_83 ?_
        refine lv_iload hx hb dX12_feed_86 (lv_at hl 0 rfl) ?_
        refine lv_bipush (v := 24) hx hb dX12_feed_88 (by decide) ?_
        refine lv_bipush (v := 8) hx hb dX12_feed_90 (by decide) ?_
        refine lv_iload hx hb dX12_feed_92 (lv_at hl 7 rfl) ?_
        refine lv_iconst (v := 4) hx hb dX12_feed_94 (by decide) ?_
        refine lv_irem hx hb dX12_feed_95 (by decide) ?_
        refine lv_imul hx hb dX12_feed_96 ?_
        refine lv_isub hx hb dX12_feed_97 ?_
        refine lv_ishr hx hb dX12_feed_98 ?_
        refine lv_i2b hx hb dX12_feed_99 rfl ?_
        have hi := ck_in hf
        have hf := ck_go hf
        refine x_bast (ws' := (wN E ad m_thrown m_trouble m_where m_rv (upd m_tape m_taped.toNatClampNeg (vp_nar .byte ((x1 >>> (((24 : Int32) - ((8 : Int32) * (l6 - l6 / (4 : Int32) * (4 : Int32)))) &&& 31)).toInt8.toInt32))) m_taped m_size m_spot m_sort m_place m_number m_fault m_wrongAt m_word m_v m_x m_past m_kept m_acts m_images m_matchNow m_slopsNow m_matchesNow m_slopped m_seatBest m_fedBest m_slopsBest m_sawBest m_leastNow m_stableNow m_fitsNow m_someNow m_everyNow m_otherIn m_askLeft)) C G (wN_at1) hi wN_set_m_tape dX12_feed_100 (fun H locs G => ?_)
        refine lv_aload_n hx hb dX12_feed_101 rfl (lv_at hl 1 rfl) ?_
        refine lv_dup hx hb dX12_feed_102 rfl ?_
        refine x_get C G fX12_291.g (wN_at0) rfl dX12_feed_103 ?_
        refine lv_iconst (v := 1) hx hb dX12_feed_106 (by decide) ?_
        refine lv_iadd hx hb dX12_feed_107 ?_
        refine lv_topi (fun x2 ex2 => ?_)
        have hf := lt_go ex2 hf
        refine x_put (ws' := (wN E ad m_thrown m_trouble m_where m_rv (upd m_tape m_taped.toNatClampNeg (vp_nar .byte ((x1 >>> (((24 : Int32) - ((8 : Int32) * (l6 - l6 / (4 : Int32) * (4 : Int32)))) &&& 31)).toInt8.toInt32))) x2 m_size m_spot m_sort m_place m_number m_fault m_wrongAt m_word m_v m_x m_past m_kept m_acts m_images m_matchNow m_slopsNow m_matchesNow m_slopped m_seatBest m_fedBest m_slopsBest m_sawBest m_leastNow m_stableNow m_fitsNow m_someNow m_everyNow m_otherIn m_askLeft)) C G fX12_291 (wN_at0) rfl rfl (Nat.le_of_ble_eq_true rfl) wN_set_m_taped dX12_feed_108 (fun H locs G => ?_)
        obtain ⟨x3, ex3⟩ : ∃ z : Int32, z = l6 + (1 : Int32) := ⟨_, rfl⟩
        have hf := lt_go ex3 hf
        refine lv_iinc (v := x3) (lv' := [(6, .int x3), (7, .int x1), (0, .ref (ad 0)), (1, .int l1), (2, .int l2), (3, .int l3), (4, .int l4), (5, .int l5)]) hx hb dX12_feed_111 hl (k := 7) rfl (by rw [ex3]; rfl) (by decide) rfl (fun ls hl => ?_)
        refine lv_goto (tgt := 23) hx hb dX12_feed_114 (by decide) ?_
        exact ih x3 (upd m_tape m_taped.toNatClampNeg (vp_nar .byte ((x1 >>> (((24 : Int32) - ((8 : Int32) * (l6 - l6 / (4 : Int32) * (4 : Int32)))) &&& 31)).toInt8.toInt32))) x2 _ _ _ G (lv_sub hl [2, 3, 4, 5, 6, 7, 0] rfl) hf
      have hf := hrx1
      refine lv_icmp_ge (tgt := 40) hx hb dX12_feed_33 (by decide) (fun h => ?_) (fun h => ?_)
      · have hf := it_t h hf
        refine lv_iload hx hb dX12_feed_40 (lv_at hl 6 rfl) ?_
        refine lv_bipush (v := 8) hx hb dX12_feed_42 (by decide) ?_
        refine lv_icmp_ge (tgt := 51) hx hb dX12_feed_44 (by decide) (fun h => ?_) (fun h => ?_)
        · have hf := it_t h hf
          refine lv_iload hx hb dX12_feed_51 (lv_at hl 6 rfl) ?_
          refine lv_bipush (v := 12) hx hb dX12_feed_53 (by decide) ?_
          refine lv_icmp_ge (tgt := 62) hx hb dX12_feed_55 (by decide) (fun h => ?_) (fun h => ?_)
          · have hf := it_t h hf
            refine lv_iload hx hb dX12_feed_62 (lv_at hl 6 rfl) ?_
            refine lv_bipush (v := 16) hx hb dX12_feed_64 (by decide) ?_
            refine lv_icmp_ge (tgt := 74) hx hb dX12_feed_66 (by decide) (fun h => ?_) (fun h => ?_)
            · have hf := it_t h hf
              refine lv_iload hx hb dX12_feed_74 (lv_at hl 5 rfl) ?_
              obtain rfl := Option.some.inj hf
              exact Jx1 _ _ _ G (lv_sub hl [0, 1, 2, 3, 4, 5, 6] rfl)
            · have hf := it_f h hf
              refine lv_iload hx hb dX12_feed_69 (lv_at hl 4 rfl) ?_
              refine lv_goto (tgt := 76) hx hb dX12_feed_71 (by decide) ?_
              obtain rfl := Option.some.inj hf
              exact Jx1 _ _ _ G (lv_sub hl [0, 1, 2, 3, 4, 5, 6] rfl)
          · have hf := it_f h hf
            refine lv_iload_n hx hb dX12_feed_58 rfl (lv_at hl 3 rfl) ?_
            refine lv_goto (tgt := 76) hx hb dX12_feed_59 (by decide) ?_
            obtain rfl := Option.some.inj hf
            exact Jx1 _ _ _ G (lv_sub hl [0, 1, 2, 3, 4, 5, 6] rfl)
        · have hf := it_f h hf
          refine lv_iload_n hx hb dX12_feed_47 rfl (lv_at hl 2 rfl) ?_
          refine lv_goto (tgt := 76) hx hb dX12_feed_48 (by decide) ?_
          obtain rfl := Option.some.inj hf
          exact Jx1 _ _ _ G (lv_sub hl [0, 1, 2, 3, 4, 5, 6] rfl)
      · have hf := it_f h hf
        refine lv_iload_n hx hb dX12_feed_36 rfl (lv_at hl 1 rfl) ?_
        refine lv_goto (tgt := 76) hx hb dX12_feed_37 (by decide) ?_
        obtain rfl := Option.some.inj hf
        exact Jx1 _ _ _ G (lv_sub hl [0, 1, 2, 3, 4, 5, 6] rfl)
set_option maxHeartbeats 4000000 in
set_option maxRecDepth 100000 in
theorem c_M_feed_m_N {l : Launch} {E : xE} {ad : Nat → Nat} {m_thrown m_trouble m_where m_taped m_size m_spot m_sort m_place m_number m_fault m_wrongAt m_acts m_images m_matchNow m_slopsNow m_matchesNow m_fedBest m_slopsBest m_sawBest m_leastNow m_stableNow m_fitsNow m_someNow m_everyNow m_askLeft : Int32} {m_rv : Value} {m_tape m_v m_x m_past m_kept m_slopped m_seatBest m_otherIn : Nat → Int32} {m_word : Int64} {l1 : Int32} {l2 : Int32} {l3 : Int32} {l4 : Int32} {l5 : Int32} {R0 : Int32 × Int32 × (Nat → Int32) × Int32} (hf : f_M_feed l1 l2 l3 l4 l5 m_tape m_taped = some R0) : xI l E yX12_feed cX12_feed 8 (some .int) 0 0 [.ref (ad 0), .int l1, .int l2, .int l3, .int l4, .int l5] (wN E ad m_thrown m_trouble m_where m_rv m_tape m_taped m_size m_spot m_sort m_place m_number m_fault m_wrongAt m_word m_v m_x m_past m_kept m_acts m_images m_matchNow m_slopsNow m_matchesNow m_slopped m_seatBest m_fedBest m_slopsBest m_sawBest m_leastNow m_stableNow m_fitsNow m_someNow m_everyNow m_otherIn m_askLeft) (wN E ad R0.2.1 m_trouble m_where m_rv R0.2.2.1 R0.2.2.2 m_size m_spot m_sort m_place m_number m_fault m_wrongAt m_word m_v m_x m_past m_kept m_acts m_images m_matchNow m_slopsNow m_matchesNow m_slopped m_seatBest m_fedBest m_slopsBest m_sawBest m_leastNow m_stableNow m_fitsNow m_someNow m_everyNow m_otherIn m_askLeft) R0.1 := by
  refine xI_of (by decide) (Nat.le_of_ble_eq_true rfl) (fun p e s m args below meth c A C ls hl G => ?_)
  have hx := C.1
  have hb := C.2.1
  have hl : lv_has ls 8 [(0, .ref (ad 0)), (1, .int l1), (2, .int l2), (3, .int l3), (4, .int l4), (5, .int l5)] := hl
  unfold f_M_feed at hf
  refine lv_aload_n hx hb dX12_feed_0 rfl (lv_at hl 0 rfl) ?_
  refine lv_iconst (v := 0) hx hb dX12_feed_1 (by decide) ?_
  refine x_put (ws' := (wN E ad (0 : Int32) m_trouble m_where m_rv m_tape m_taped m_size m_spot m_sort m_place m_number m_fault m_wrongAt m_word m_v m_x m_past m_kept m_acts m_images m_matchNow m_slopsNow m_matchesNow m_slopped m_seatBest m_fedBest m_slopsBest m_sawBest m_leastNow m_stableNow m_fitsNow m_someNow m_everyNow m_otherIn m_askLeft)) C G fX12_39 (wN_at0) rfl rfl (Nat.le_of_ble_eq_true rfl) wN_set_m_thrown dX12_feed_2 (fun H locs G => ?_)
  refine lv_aload_n hx hb dX12_feed_5 rfl (lv_at hl 0 rfl) ?_
  refine x_get C G fX12_291.g (wN_at0) rfl dX12_feed_6 ?_
  refine lv_bipush (v := 20) hx hb dX12_feed_9 (by decide) ?_
  refine lv_iadd hx hb dX12_feed_11 ?_
  refine lv_sipush (v := 800) hx hb dX12_feed_12 (by decide) ?_
  refine lv_icmp_le (tgt := 20) hx hb dX12_feed_15 (by decide) (fun h => ?_) (fun h => ?_)
  · have hf := it_t h hf
    refine lv_iconst (v := 0) hx hb dX12_feed_20 (by decide) ?_
    refine lv_istore (lv' := [(6, .int (0 : Int32)), (0, .ref (ad 0)), (1, .int l1), (2, .int l2), (3, .int l3), (4, .int l4), (5, .int l5)]) hx hb dX12_feed_21 hl (by decide) rfl (fun ls hl => ?_)
    obtain ⟨x4, hr, hf⟩ := bd_go hf
    have Jx4 : ∀ (H : Heap) (locs : List Loc) (ls : Array Slot), xG s E A (wN E ad (0 : Int32) m_trouble m_where m_rv x4.1 x4.2 m_size m_spot m_sort m_place m_number m_fault m_wrongAt m_word m_v m_x m_past m_kept m_acts m_images m_matchNow m_slopsNow m_matchesNow m_slopped m_seatBest m_fedBest m_slopsBest m_sawBest m_leastNow m_stableNow m_fitsNow m_someNow m_everyNow m_otherIn m_askLeft) H locs → lv_has ls 8 [(0, .ref (ad 0))] → W p l e (xR 0 0) s m args below meth c H locs 0 0 (MQ below (xqI E A (wN E ad R0.2.1 m_trouble m_where m_rv R0.2.2.1 R0.2.2.2 m_size m_spot m_sort m_place m_number m_fault m_wrongAt m_word m_v m_x m_past m_kept m_acts m_images m_matchNow m_slopsNow m_matchesNow m_slopped m_seatBest m_fedBest m_slopsBest m_sawBest m_leastNow m_stableNow m_fitsNow m_someNow m_everyNow m_otherIn m_askLeft) (some .int) R0.1) args s 0 0 A) (F0 m 117 ls []) := by
      intro H locs ls G hl
      refine lv_aload_n hx hb dX12_feed_117 rfl (lv_at hl 0 rfl) ?_
      refine x_get C G fX12_291.g (wN_at0) rfl dX12_feed_118 ?_
      obtain rfl := Option.some.inj hf
      exact xI_ret C G rfl dX12_feed_121
    exact w_M_feed_m_N_L23 C Jx4 fu _ _ _ _ _ _ G (lv_sub hl [1, 2, 3, 4, 5, 6, 0] rfl) hr
  · have hf := it_f h hf
    refine lv_iconst (v := -1) hx hb dX12_feed_18 (by decide) ?_
    obtain rfl := Option.some.inj hf
    exact xI_ret C G rfl dX12_feed_19
set_option maxHeartbeats 4000000 in
set_option maxRecDepth 100000 in
theorem c_M_fault_m_N {l : Launch} {E : xE} {ad : Nat → Nat} {m_thrown m_trouble m_where m_taped m_size m_spot m_sort m_place m_number m_fault m_wrongAt m_acts m_images m_matchNow m_slopsNow m_matchesNow m_fedBest m_slopsBest m_sawBest m_leastNow m_stableNow m_fitsNow m_someNow m_everyNow m_askLeft : Int32} {m_rv : Value} {m_tape m_v m_x m_past m_kept m_slopped m_seatBest m_otherIn : Nat → Int32} {m_word : Int64} {R0 : Int32 × Int32} (hf : f_M_fault m_fault = some R0) : xI l E yX12_fault cX12_fault 1 (some .int) 0 0 [.ref (ad 0)] (wN E ad m_thrown m_trouble m_where m_rv m_tape m_taped m_size m_spot m_sort m_place m_number m_fault m_wrongAt m_word m_v m_x m_past m_kept m_acts m_images m_matchNow m_slopsNow m_matchesNow m_slopped m_seatBest m_fedBest m_slopsBest m_sawBest m_leastNow m_stableNow m_fitsNow m_someNow m_everyNow m_otherIn m_askLeft) (wN E ad R0.2 m_trouble m_where m_rv m_tape m_taped m_size m_spot m_sort m_place m_number m_fault m_wrongAt m_word m_v m_x m_past m_kept m_acts m_images m_matchNow m_slopsNow m_matchesNow m_slopped m_seatBest m_fedBest m_slopsBest m_sawBest m_leastNow m_stableNow m_fitsNow m_someNow m_everyNow m_otherIn m_askLeft) R0.1 := by
  refine xI_of (by decide) (Nat.le_of_ble_eq_true rfl) (fun p e s m args below meth c A C ls hl G => ?_)
  have hx := C.1
  have hb := C.2.1
  have hl : lv_has ls 1 [(0, .ref (ad 0))] := hl
  unfold f_M_fault at hf
  refine lv_aload_n hx hb dX12_fault_0 rfl (lv_at hl 0 rfl) ?_
  refine lv_iconst (v := 0) hx hb dX12_fault_1 (by decide) ?_
  refine x_put (ws' := (wN E ad (0 : Int32) m_trouble m_where m_rv m_tape m_taped m_size m_spot m_sort m_place m_number m_fault m_wrongAt m_word m_v m_x m_past m_kept m_acts m_images m_matchNow m_slopsNow m_matchesNow m_slopped m_seatBest m_fedBest m_slopsBest m_sawBest m_leastNow m_stableNow m_fitsNow m_someNow m_everyNow m_otherIn m_askLeft)) C G fX12_39 (wN_at0) rfl rfl (Nat.le_of_ble_eq_true rfl) wN_set_m_thrown dX12_fault_2 (fun H locs G => ?_)
  refine lv_aload_n hx hb dX12_fault_5 rfl (lv_at hl 0 rfl) ?_
  refine x_get C G fX12_97.g (wN_at0) rfl dX12_fault_6 ?_
  obtain rfl := Option.some.inj hf
  exact xI_ret C G rfl dX12_fault_9
set_option maxHeartbeats 4000000 in
set_option maxRecDepth 100000 in
theorem c_M_where_m_N {l : Launch} {E : xE} {ad : Nat → Nat} {m_thrown m_trouble m_where m_taped m_size m_spot m_sort m_place m_number m_fault m_wrongAt m_acts m_images m_matchNow m_slopsNow m_matchesNow m_fedBest m_slopsBest m_sawBest m_leastNow m_stableNow m_fitsNow m_someNow m_everyNow m_askLeft : Int32} {m_rv : Value} {m_tape m_v m_x m_past m_kept m_slopped m_seatBest m_otherIn : Nat → Int32} {m_word : Int64} {R0 : Int32 × Int32} (hf : f_M_where m_where = some R0) : xI l E yX12_where cX12_where 1 (some .int) 0 0 [.ref (ad 0)] (wN E ad m_thrown m_trouble m_where m_rv m_tape m_taped m_size m_spot m_sort m_place m_number m_fault m_wrongAt m_word m_v m_x m_past m_kept m_acts m_images m_matchNow m_slopsNow m_matchesNow m_slopped m_seatBest m_fedBest m_slopsBest m_sawBest m_leastNow m_stableNow m_fitsNow m_someNow m_everyNow m_otherIn m_askLeft) (wN E ad R0.2 m_trouble m_where m_rv m_tape m_taped m_size m_spot m_sort m_place m_number m_fault m_wrongAt m_word m_v m_x m_past m_kept m_acts m_images m_matchNow m_slopsNow m_matchesNow m_slopped m_seatBest m_fedBest m_slopsBest m_sawBest m_leastNow m_stableNow m_fitsNow m_someNow m_everyNow m_otherIn m_askLeft) R0.1 := by
  refine xI_of (by decide) (Nat.le_of_ble_eq_true rfl) (fun p e s m args below meth c A C ls hl G => ?_)
  have hx := C.1
  have hb := C.2.1
  have hl : lv_has ls 1 [(0, .ref (ad 0))] := hl
  unfold f_M_where at hf
  refine lv_aload_n hx hb dX12_where_0 rfl (lv_at hl 0 rfl) ?_
  refine lv_iconst (v := 0) hx hb dX12_where_1 (by decide) ?_
  refine x_put (ws' := (wN E ad (0 : Int32) m_trouble m_where m_rv m_tape m_taped m_size m_spot m_sort m_place m_number m_fault m_wrongAt m_word m_v m_x m_past m_kept m_acts m_images m_matchNow m_slopsNow m_matchesNow m_slopped m_seatBest m_fedBest m_slopsBest m_sawBest m_leastNow m_stableNow m_fitsNow m_someNow m_everyNow m_otherIn m_askLeft)) C G fX12_39 (wN_at0) rfl rfl (Nat.le_of_ble_eq_true rfl) wN_set_m_thrown dX12_where_2 (fun H locs G => ?_)
  refine lv_aload_n hx hb dX12_where_5 rfl (lv_at hl 0 rfl) ?_
  refine x_get C G fX12_9.g (wN_at0) rfl dX12_where_6 ?_
  obtain rfl := Option.some.inj hf
  exact xI_ret C G rfl dX12_where_9
set_option maxHeartbeats 4000000 in
set_option maxRecDepth 100000 in
theorem c_M_isPerson_m_N {l : Launch} {E : xE} {ad : Nat → Nat} {m_thrown m_trouble m_where m_taped m_size m_spot m_sort m_place m_number m_fault m_wrongAt m_acts m_images m_matchNow m_slopsNow m_matchesNow m_fedBest m_slopsBest m_sawBest m_leastNow m_stableNow m_fitsNow m_someNow m_everyNow m_askLeft : Int32} {m_rv : Value} {m_tape m_v m_x m_past m_kept m_slopped m_seatBest m_otherIn : Nat → Int32} {m_word : Int64} {l1 : Int32} {R0 : Int32} (hf : f_M_isPerson_N l1 = some R0) : xI l E yX12_isPerson cX12_isPerson 2 (some .boolean) 0 0 [.ref (ad 0), .int l1] (wN E ad m_thrown m_trouble m_where m_rv m_tape m_taped m_size m_spot m_sort m_place m_number m_fault m_wrongAt m_word m_v m_x m_past m_kept m_acts m_images m_matchNow m_slopsNow m_matchesNow m_slopped m_seatBest m_fedBest m_slopsBest m_sawBest m_leastNow m_stableNow m_fitsNow m_someNow m_everyNow m_otherIn m_askLeft) (wN E ad m_thrown m_trouble m_where m_rv m_tape m_taped m_size m_spot m_sort m_place m_number m_fault m_wrongAt m_word m_v m_x m_past m_kept m_acts m_images m_matchNow m_slopsNow m_matchesNow m_slopped m_seatBest m_fedBest m_slopsBest m_sawBest m_leastNow m_stableNow m_fitsNow m_someNow m_everyNow m_otherIn m_askLeft) R0 := by
  refine xI_of (by decide) (Nat.le_of_ble_eq_true rfl) (fun p e s m args below meth c A C ls hl G => ?_)
  have hx := C.1
  have hb := C.2.1
  have hl : lv_has ls 2 [(0, .ref (ad 0)), (1, .int l1)] := hl
  unfold f_M_isPerson_N at hf
  refine lv_aload_n hx hb dX12_isPerson_0 rfl (lv_at hl 0 rfl) ?_
  refine x_get C G fX12_298.g (wN_at0) rfl dX12_isPerson_1 ?_
  refine lv_ifnullN (tgt := 26) hx hb dX12_isPerson_4 (by decide) ?_
  refine lv_iconst (v := 0) hx hb dX12_isPerson_26 (by decide) ?_
  obtain rfl := Option.some.inj hf
  exact xI_ret (r := (0 : Int32)) C G rfl dX12_isPerson_27
set_option maxHeartbeats 4000000 in
set_option maxRecDepth 100000 in
theorem c_M_refused_m_N {l : Launch} {E : xE} {ad : Nat → Nat} {m_thrown m_trouble m_where m_taped m_size m_spot m_sort m_place m_number m_fault m_wrongAt m_acts m_images m_matchNow m_slopsNow m_matchesNow m_fedBest m_slopsBest m_sawBest m_leastNow m_stableNow m_fitsNow m_someNow m_everyNow m_askLeft : Int32} {m_rv : Value} {m_tape m_v m_x m_past m_kept m_slopped m_seatBest m_otherIn : Nat → Int32} {m_word : Int64} {l1 : Int32} {R0 : Int32 × Int32 × Int32} (hf : f_M_refused l1 = some R0) : xI l E yX12_refused cX12_refused 2 (some .int) 0 0 [.ref (ad 0), .int l1] (wN E ad m_thrown m_trouble m_where m_rv m_tape m_taped m_size m_spot m_sort m_place m_number m_fault m_wrongAt m_word m_v m_x m_past m_kept m_acts m_images m_matchNow m_slopsNow m_matchesNow m_slopped m_seatBest m_fedBest m_slopsBest m_sawBest m_leastNow m_stableNow m_fitsNow m_someNow m_everyNow m_otherIn m_askLeft) (wN E ad m_thrown R0.2.1 R0.2.2 m_rv m_tape m_taped m_size m_spot m_sort m_place m_number m_fault m_wrongAt m_word m_v m_x m_past m_kept m_acts m_images m_matchNow m_slopsNow m_matchesNow m_slopped m_seatBest m_fedBest m_slopsBest m_sawBest m_leastNow m_stableNow m_fitsNow m_someNow m_everyNow m_otherIn m_askLeft) R0.1 := by
  refine xI_of (by decide) (Nat.le_of_ble_eq_true rfl) (fun p e s m args below meth c A C ls hl G => ?_)
  have hx := C.1
  have hb := C.2.1
  have hl : lv_has ls 2 [(0, .ref (ad 0)), (1, .int l1)] := hl
  unfold f_M_refused at hf
  refine lv_aload_n hx hb dX12_refused_0 rfl (lv_at hl 0 rfl) ?_
  refine lv_iload_n hx hb dX12_refused_1 rfl (lv_at hl 1 rfl) ?_
  refine x_put (ws' := (wN E ad m_thrown l1 m_where m_rv m_tape m_taped m_size m_spot m_sort m_place m_number m_fault m_wrongAt m_word m_v m_x m_past m_kept m_acts m_images m_matchNow m_slopsNow m_matchesNow m_slopped m_seatBest m_fedBest m_slopsBest m_sawBest m_leastNow m_stableNow m_fitsNow m_someNow m_everyNow m_otherIn m_askLeft)) C G fX12_42 (wN_at0) rfl rfl (Nat.le_of_ble_eq_true rfl) wN_set_m_trouble dX12_refused_2 (fun H locs G => ?_)
  refine lv_aload_n hx hb dX12_refused_5 rfl (lv_at hl 0 rfl) ?_
  refine lv_iconst (v := -1) hx hb dX12_refused_6 (by decide) ?_
  refine x_put (ws' := (wN E ad m_thrown l1 (-1 : Int32) m_rv m_tape m_taped m_size m_spot m_sort m_place m_number m_fault m_wrongAt m_word m_v m_x m_past m_kept m_acts m_images m_matchNow m_slopsNow m_matchesNow m_slopped m_seatBest m_fedBest m_slopsBest m_sawBest m_leastNow m_stableNow m_fitsNow m_someNow m_everyNow m_otherIn m_askLeft)) C G fX12_9 (wN_at0) rfl rfl (Nat.le_of_ble_eq_true rfl) wN_set_m_where dX12_refused_7 (fun H locs G => ?_)
  refine lv_iconst (v := -1) hx hb dX12_refused_10 (by decide) ?_
  obtain rfl := Option.some.inj hf
  exact xI_ret C G rfl dX12_refused_11
set_option maxHeartbeats 4000000 in
set_option maxRecDepth 100000 in
theorem c_M_good_m_N {l : Launch} {E : xE} {ad : Nat → Nat} {m_thrown m_trouble m_where m_taped m_size m_spot m_sort m_place m_number m_fault m_wrongAt m_acts m_images m_matchNow m_slopsNow m_matchesNow m_fedBest m_slopsBest m_sawBest m_leastNow m_stableNow m_fitsNow m_someNow m_everyNow m_askLeft : Int32} {m_rv : Value} {m_tape m_v m_x m_past m_kept m_slopped m_seatBest m_otherIn : Nat → Int32} {m_word : Int64} {l1 : Int32} {R0 : Int32 × Int32 × Int32} (hf : f_M_good l1 = some R0) : xI l E yX12_good cX12_good 2 (some .int) 0 0 [.ref (ad 0), .int l1] (wN E ad m_thrown m_trouble m_where m_rv m_tape m_taped m_size m_spot m_sort m_place m_number m_fault m_wrongAt m_word m_v m_x m_past m_kept m_acts m_images m_matchNow m_slopsNow m_matchesNow m_slopped m_seatBest m_fedBest m_slopsBest m_sawBest m_leastNow m_stableNow m_fitsNow m_someNow m_everyNow m_otherIn m_askLeft) (wN E ad m_thrown R0.2.1 R0.2.2 m_rv m_tape m_taped m_size m_spot m_sort m_place m_number m_fault m_wrongAt m_word m_v m_x m_past m_kept m_acts m_images m_matchNow m_slopsNow m_matchesNow m_slopped m_seatBest m_fedBest m_slopsBest m_sawBest m_leastNow m_stableNow m_fitsNow m_someNow m_everyNow m_otherIn m_askLeft) R0.1 := by
  refine xI_of (by decide) (Nat.le_of_ble_eq_true rfl) (fun p e s m args below meth c A C ls hl G => ?_)
  have hx := C.1
  have hb := C.2.1
  have hl : lv_has ls 2 [(0, .ref (ad 0)), (1, .int l1)] := hl
  unfold f_M_good at hf
  refine lv_aload_n hx hb dX12_good_0 rfl (lv_at hl 0 rfl) ?_
  refine lv_iconst (v := 0) hx hb dX12_good_1 (by decide) ?_
  refine x_put (ws' := (wN E ad m_thrown (0 : Int32) m_where m_rv m_tape m_taped m_size m_spot m_sort m_place m_number m_fault m_wrongAt m_word m_v m_x m_past m_kept m_acts m_images m_matchNow m_slopsNow m_matchesNow m_slopped m_seatBest m_fedBest m_slopsBest m_sawBest m_leastNow m_stableNow m_fitsNow m_someNow m_everyNow m_otherIn m_askLeft)) C G fX12_42 (wN_at0) rfl rfl (Nat.le_of_ble_eq_true rfl) wN_set_m_trouble dX12_good_2 (fun H locs G => ?_)
  refine lv_aload_n hx hb dX12_good_5 rfl (lv_at hl 0 rfl) ?_
  refine lv_iconst (v := -1) hx hb dX12_good_6 (by decide) ?_
  refine x_put (ws' := (wN E ad m_thrown (0 : Int32) (-1 : Int32) m_rv m_tape m_taped m_size m_spot m_sort m_place m_number m_fault m_wrongAt m_word m_v m_x m_past m_kept m_acts m_images m_matchNow m_slopsNow m_matchesNow m_slopped m_seatBest m_fedBest m_slopsBest m_sawBest m_leastNow m_stableNow m_fitsNow m_someNow m_everyNow m_otherIn m_askLeft)) C G fX12_9 (wN_at0) rfl rfl (Nat.le_of_ble_eq_true rfl) wN_set_m_where dX12_good_7 (fun H locs G => ?_)
  refine lv_iload_n hx hb dX12_good_10 rfl (lv_at hl 1 rfl) ?_
  obtain rfl := Option.some.inj hf
  exact xI_ret C G rfl dX12_good_11
set_option maxHeartbeats 4000000 in
set_option maxRecDepth 100000 in
theorem c_M_seat_m_N {l : Launch} {E : xE} {ad : Nat → Nat} {m_thrown m_trouble m_where m_taped m_size m_spot m_sort m_place m_number m_fault m_wrongAt m_acts m_images m_matchNow m_slopsNow m_matchesNow m_fedBest m_slopsBest m_sawBest m_leastNow m_stableNow m_fitsNow m_someNow m_everyNow m_askLeft : Int32} {m_rv : Value} {m_tape m_v m_x m_past m_kept m_slopped m_seatBest m_otherIn : Nat → Int32} {m_word : Int64} {l1 : Int32} {R0 : Int32 × Int32 × Int32 × Int32} (hf : f_M_seat_N l1 m_v = some R0) : xI l E yX12_seat cX12_seat 2 (some .int) 1 21 [.ref (ad 0), .int l1] (wN E ad m_thrown m_trouble m_where m_rv m_tape m_taped m_size m_spot m_sort m_place m_number m_fault m_wrongAt m_word m_v m_x m_past m_kept m_acts m_images m_matchNow m_slopsNow m_matchesNow m_slopped m_seatBest m_fedBest m_slopsBest m_sawBest m_leastNow m_stableNow m_fitsNow m_someNow m_everyNow m_otherIn m_askLeft) (wN E ad R0.2.1 R0.2.2.1 R0.2.2.2 m_rv m_tape m_taped m_size m_spot m_sort m_place m_number m_fault m_wrongAt m_word m_v m_x m_past m_kept m_acts m_images m_matchNow m_slopsNow m_matchesNow m_slopped m_seatBest m_fedBest m_slopsBest m_sawBest m_leastNow m_stableNow m_fitsNow m_someNow m_everyNow m_otherIn m_askLeft) R0.1 := by
  refine xI_of (by decide) (Nat.le_of_ble_eq_true rfl) (fun p e s m args below meth c A C ls hl G => ?_)
  have hx := C.1
  have hb := C.2.1
  have hl : lv_has ls 2 [(0, .ref (ad 0)), (1, .int l1)] := hl
  unfold f_M_seat_N at hf
  refine lv_aload_n hx hb dX12_seat_0 rfl (lv_at hl 0 rfl) ?_
  refine lv_iconst (v := 0) hx hb dX12_seat_1 (by decide) ?_
  refine x_put (ws' := (wN E ad (0 : Int32) m_trouble m_where m_rv m_tape m_taped m_size m_spot m_sort m_place m_number m_fault m_wrongAt m_word m_v m_x m_past m_kept m_acts m_images m_matchNow m_slopsNow m_matchesNow m_slopped m_seatBest m_fedBest m_slopsBest m_sawBest m_leastNow m_stableNow m_fitsNow m_someNow m_everyNow m_otherIn m_askLeft)) C G fX12_39 (wN_at0) rfl rfl (Nat.le_of_ble_eq_true rfl) wN_set_m_thrown dX12_seat_2 (fun H locs G => ?_)
  refine lv_aload_n hx hb dX12_seat_5 rfl (lv_at hl 0 rfl) ?_
  refine lv_iload_n hx hb dX12_seat_6 rfl (lv_at hl 1 rfl) ?_
  obtain ⟨x1, hc, hf⟩ := bd_go hf
  refine xI_V C G (c_M_isPerson_m_N hc) mX12_isPerson kX12_309 (wN_at0) rfl ⟨Nat.le_of_ble_eq_true rfl, Nat.le_of_ble_eq_true rfl⟩ rfl hl.1 rfl (Nat.le_of_ble_eq_true rfl) ⟨Nat.le_refl _, Nat.le_refl _⟩ dX12_seat_7 (fun hz1 H locs G => ?_)
  refine lv_if_eq (tgt := 26) hx hb dX12_seat_10 (by decide) (fun h => ?_) (fun h => ?_)
  · have hf := it_t h hf
    refine lv_aload_n hx hb dX12_seat_26 rfl (lv_at hl 0 rfl) ?_
    refine lv_iconst (v := 1) hx hb dX12_seat_27 (by decide) ?_
    obtain ⟨x2, hc, hf⟩ := bd_go hf
    refine xI_V C G (c_M_refused_m_N hc) mX12_refused kX12_45 (wN_at0) rfl ⟨Nat.le_of_ble_eq_true rfl, Nat.le_of_ble_eq_true rfl⟩ rfl hl.1 rfl (Nat.le_of_ble_eq_true rfl) ⟨Nat.le_refl _, Nat.le_refl _⟩ dX12_seat_28 (fun hz H locs G => ?_)
    obtain rfl := Option.some.inj hf
    exact xI_ret C G rfl dX12_seat_31
  · have hf := it_f h hf
    refine lv_aload_n hx hb dX12_seat_13 rfl (lv_at hl 0 rfl) ?_
    refine lv_aload_n hx hb dX12_seat_14 rfl (lv_at hl 0 rfl) ?_
    refine x_get C G fX12_17 (wN_at0) rfl dX12_seat_15 ?_
    refine lv_iload_n hx hb dX12_seat_18 rfl (lv_at hl 1 rfl) ?_
    have hi := ck_in hf
    have hf := ck_go hf
    refine x_iald C G (wN_at2) hi dX12_seat_19 ?_
    obtain ⟨x3, hc, hf⟩ := bd_go hf
    refine xI_V C G (c_M_good_m_N hc) mX12_good kX12_49 (wN_at0) rfl ⟨Nat.le_of_ble_eq_true rfl, Nat.le_of_ble_eq_true rfl⟩ rfl hl.1 rfl (Nat.le_of_ble_eq_true rfl) ⟨Nat.le_refl _, Nat.le_refl _⟩ dX12_seat_20 (fun hz H locs G => ?_)
    refine lv_goto (tgt := 31) hx hb dX12_seat_23 (by decide) ?_
    obtain rfl := Option.some.inj hf
    exact xI_ret C G rfl dX12_seat_31
set_option maxHeartbeats 4000000 in
set_option maxRecDepth 100000 in
theorem c_M_isPair_m_N {l : Launch} {E : xE} {ad : Nat → Nat} {m_thrown m_trouble m_where m_taped m_size m_spot m_sort m_place m_number m_fault m_wrongAt m_acts m_images m_matchNow m_slopsNow m_matchesNow m_fedBest m_slopsBest m_sawBest m_leastNow m_stableNow m_fitsNow m_someNow m_everyNow m_askLeft : Int32} {m_rv : Value} {m_tape m_v m_x m_past m_kept m_slopped m_seatBest m_otherIn : Nat → Int32} {m_word : Int64} {l1 : Int32} {R0 : Int32} (hf : f_M_isPair_N l1 = some R0) : xI l E yX12_isPair cX12_isPair 2 (some .boolean) 0 0 [.ref (ad 0), .int l1] (wN E ad m_thrown m_trouble m_where m_rv m_tape m_taped m_size m_spot m_sort m_place m_number m_fault m_wrongAt m_word m_v m_x m_past m_kept m_acts m_images m_matchNow m_slopsNow m_matchesNow m_slopped m_seatBest m_fedBest m_slopsBest m_sawBest m_leastNow m_stableNow m_fitsNow m_someNow m_everyNow m_otherIn m_askLeft) (wN E ad m_thrown m_trouble m_where m_rv m_tape m_taped m_size m_spot m_sort m_place m_number m_fault m_wrongAt m_word m_v m_x m_past m_kept m_acts m_images m_matchNow m_slopsNow m_matchesNow m_slopped m_seatBest m_fedBest m_slopsBest m_sawBest m_leastNow m_stableNow m_fitsNow m_someNow m_everyNow m_otherIn m_askLeft) R0 := by
  refine xI_of (by decide) (Nat.le_of_ble_eq_true rfl) (fun p e s m args below meth c A C ls hl G => ?_)
  have hx := C.1
  have hb := C.2.1
  have hl : lv_has ls 2 [(0, .ref (ad 0)), (1, .int l1)] := hl
  unfold f_M_isPair_N at hf
  refine lv_aload_n hx hb dX12_isPair_0 rfl (lv_at hl 0 rfl) ?_
  refine x_get C G fX12_298.g (wN_at0) rfl dX12_isPair_1 ?_
  refine lv_ifnullN (tgt := 26) hx hb dX12_isPair_4 (by decide) ?_
  refine lv_iconst (v := 0) hx hb dX12_isPair_26 (by decide) ?_
  obtain rfl := Option.some.inj hf
  exact xI_ret (r := (0 : Int32)) C G rfl dX12_isPair_27
set_option maxHeartbeats 4000000 in
set_option maxRecDepth 100000 in
theorem c_M_pair_m_N {l : Launch} {E : xE} {ad : Nat → Nat} {m_thrown m_trouble m_where m_taped m_size m_spot m_sort m_place m_number m_fault m_wrongAt m_acts m_images m_matchNow m_slopsNow m_matchesNow m_fedBest m_slopsBest m_sawBest m_leastNow m_stableNow m_fitsNow m_someNow m_everyNow m_askLeft : Int32} {m_rv : Value} {m_tape m_v m_x m_past m_kept m_slopped m_seatBest m_otherIn : Nat → Int32} {m_word : Int64} {l1 : Int32} {l2 : Int32} {R0 : Int32 × Int32 × Int32 × Int32} (hf : f_M_pair_N l1 l2 = some R0) : xI l E yX12_pair cX12_pair 3 (some .int) 1 22 [.ref (ad 0), .int l1, .int l2] (wN E ad m_thrown m_trouble m_where m_rv m_tape m_taped m_size m_spot m_sort m_place m_number m_fault m_wrongAt m_word m_v m_x m_past m_kept m_acts m_images m_matchNow m_slopsNow m_matchesNow m_slopped m_seatBest m_fedBest m_slopsBest m_sawBest m_leastNow m_stableNow m_fitsNow m_someNow m_everyNow m_otherIn m_askLeft) (wN E ad R0.2.1 R0.2.2.1 R0.2.2.2 m_rv m_tape m_taped m_size m_spot m_sort m_place m_number m_fault m_wrongAt m_word m_v m_x m_past m_kept m_acts m_images m_matchNow m_slopsNow m_matchesNow m_slopped m_seatBest m_fedBest m_slopsBest m_sawBest m_leastNow m_stableNow m_fitsNow m_someNow m_everyNow m_otherIn m_askLeft) R0.1 := by
  refine xI_of (by decide) (Nat.le_of_ble_eq_true rfl) (fun p e s m args below meth c A C ls hl G => ?_)
  have hx := C.1
  have hb := C.2.1
  have hl : lv_has ls 3 [(0, .ref (ad 0)), (1, .int l1), (2, .int l2)] := hl
  unfold f_M_pair_N at hf
  refine lv_aload_n hx hb dX12_pair_0 rfl (lv_at hl 0 rfl) ?_
  refine lv_iconst (v := 0) hx hb dX12_pair_1 (by decide) ?_
  refine x_put (ws' := (wN E ad (0 : Int32) m_trouble m_where m_rv m_tape m_taped m_size m_spot m_sort m_place m_number m_fault m_wrongAt m_word m_v m_x m_past m_kept m_acts m_images m_matchNow m_slopsNow m_matchesNow m_slopped m_seatBest m_fedBest m_slopsBest m_sawBest m_leastNow m_stableNow m_fitsNow m_someNow m_everyNow m_otherIn m_askLeft)) C G fX12_39 (wN_at0) rfl rfl (Nat.le_of_ble_eq_true rfl) wN_set_m_thrown dX12_pair_2 (fun H locs G => ?_)
  refine lv_aload_n hx hb dX12_pair_5 rfl (lv_at hl 0 rfl) ?_
  refine lv_iload_n hx hb dX12_pair_6 rfl (lv_at hl 1 rfl) ?_
  obtain ⟨x1, hc, hf⟩ := bd_go hf
  refine xI_V C G (c_M_isPair_m_N hc) mX12_isPair kX12_330 (wN_at0) rfl ⟨Nat.le_of_ble_eq_true rfl, Nat.le_of_ble_eq_true rfl⟩ rfl hl.1 rfl (Nat.le_of_ble_eq_true rfl) ⟨Nat.le_refl _, Nat.le_refl _⟩ dX12_pair_7 (fun hz1 H locs G => ?_)
  obtain ⟨b2, hr, hf⟩ := bd_go hf
  cases b2 with
  | true =>
    have hf := it_t rfl hf
    have J : ∀ (H : Heap) (locs : List Loc), xG s E A (wN E ad (0 : Int32) m_trouble m_where m_rv m_tape m_taped m_size m_spot m_sort m_place m_number m_fault m_wrongAt m_word m_v m_x m_past m_kept m_acts m_images m_matchNow m_slopsNow m_matchesNow m_slopped m_seatBest m_fedBest m_slopsBest m_sawBest m_leastNow m_stableNow m_fitsNow m_someNow m_everyNow m_otherIn m_askLeft) H locs → W p l e (xR 1 22) s m args below meth c H locs 0 0 (MQ below (xqI E A (wN E ad R0.2.1 R0.2.2.1 R0.2.2.2 m_rv m_tape m_taped m_size m_spot m_sort m_place m_number m_fault m_wrongAt m_word m_v m_x m_past m_kept m_acts m_images m_matchNow m_slopsNow m_matchesNow m_slopped m_seatBest m_fedBest m_slopsBest m_sawBest m_leastNow m_stableNow m_fitsNow m_someNow m_everyNow m_otherIn m_askLeft) (some .int) R0.1) args s 0 0 A) (F0 m 23 ls []) := by
      intro H locs G
      refine lv_aload_n hx hb dX12_pair_23 rfl (lv_at hl 0 rfl) ?_
      refine lv_iconst (v := 1) hx hb dX12_pair_24 (by decide) ?_
      obtain ⟨x3, hc, hf⟩ := bd_go hf
      refine xI_V C G (c_M_refused_m_N hc) mX12_refused kX12_45 (wN_at0) rfl ⟨Nat.le_of_ble_eq_true rfl, Nat.le_of_ble_eq_true rfl⟩ rfl hl.1 rfl (Nat.le_of_ble_eq_true rfl) ⟨Nat.le_refl _, Nat.le_refl _⟩ dX12_pair_25 (fun hz H locs G => ?_)
      obtain rfl := Option.some.inj hf
      exact xI_ret C G rfl dX12_pair_28
    have hf := hr
    clear hr
    refine lv_if_eq (tgt := 23) hx hb dX12_pair_10 (by decide) (fun h => ?_) (fun h => ?_)
    · have hf := it_t h hf
      exact J _ _ G
    · have hf := it_f h hf
      refine lv_iload_n hx hb dX12_pair_13 rfl (lv_at hl 2 rfl) ?_
      refine lv_iconst (v := 0) hx hb dX12_pair_14 (by decide) ?_
      refine lv_bipush (v := 7) hx hb dX12_pair_15 (by decide) ?_
      obtain ⟨x4, hc, hf⟩ := bd_go hf
      refine xI_S C G (c_M_in_any hc) mX12_in kX12_118 ⟨Nat.le_of_ble_eq_true rfl, Nat.le_of_ble_eq_true rfl⟩ rfl hl.1 rfl (Nat.le_of_ble_eq_true rfl) ⟨Nat.le_refl _, Nat.le_refl _⟩ dX12_pair_17 (fun hz4 H locs G => ?_)
      refine lv_if_ne (tgt := 29) hx hb dX12_pair_20 (by decide) (fun h => ?_) (fun h => ?_)
      · have hf := it_f h hf
        exact absurd (Option.some.inj hf) (by decide)
      · have hf := it_t h hf
        exact J _ _ G
  | false =>
    have hf := it_f (by decide) hf
    have J : ∀ (H : Heap) (locs : List Loc), xG s E A (wN E ad (0 : Int32) m_trouble m_where m_rv m_tape m_taped m_size m_spot m_sort m_place m_number m_fault m_wrongAt m_word m_v m_x m_past m_kept m_acts m_images m_matchNow m_slopsNow m_matchesNow m_slopped m_seatBest m_fedBest m_slopsBest m_sawBest m_leastNow m_stableNow m_fitsNow m_someNow m_everyNow m_otherIn m_askLeft) H locs → W p l e (xR 1 22) s m args below meth c H locs 0 0 (MQ below (xqI E A (wN E ad R0.2.1 R0.2.2.1 R0.2.2.2 m_rv m_tape m_taped m_size m_spot m_sort m_place m_number m_fault m_wrongAt m_word m_v m_x m_past m_kept m_acts m_images m_matchNow m_slopsNow m_matchesNow m_slopped m_seatBest m_fedBest m_slopsBest m_sawBest m_leastNow m_stableNow m_fitsNow m_someNow m_everyNow m_otherIn m_askLeft) (some .int) R0.1) args s 0 0 A) (F0 m 29 ls []) := by
      intro H locs G
      refine lv_aload_n hx hb dX12_pair_29 rfl (lv_at hl 0 rfl) ?_
      exact nomatch hf
    have hf := hr
    clear hr
    refine lv_if_eq (tgt := 23) hx hb dX12_pair_10 (by decide) (fun h => ?_) (fun h => ?_)
    · have hf := it_t h hf
      exact absurd (Option.some.inj hf) (by decide)
    · have hf := it_f h hf
      refine lv_iload_n hx hb dX12_pair_13 rfl (lv_at hl 2 rfl) ?_
      refine lv_iconst (v := 0) hx hb dX12_pair_14 (by decide) ?_
      refine lv_bipush (v := 7) hx hb dX12_pair_15 (by decide) ?_
      obtain ⟨x5, hc, hf⟩ := bd_go hf
      refine xI_S C G (c_M_in_any hc) mX12_in kX12_118 ⟨Nat.le_of_ble_eq_true rfl, Nat.le_of_ble_eq_true rfl⟩ rfl hl.1 rfl (Nat.le_of_ble_eq_true rfl) ⟨Nat.le_refl _, Nat.le_refl _⟩ dX12_pair_17 (fun hz5 H locs G => ?_)
      refine lv_if_ne (tgt := 29) hx hb dX12_pair_20 (by decide) (fun h => ?_) (fun h => ?_)
      · have hf := it_f h hf
        exact J _ _ G
      · have hf := it_t h hf
        exact absurd (Option.some.inj hf) (by decide)
set_option maxHeartbeats 4000000 in
set_option maxRecDepth 100000 in
theorem c_M_areTwo_m_N {l : Launch} {E : xE} {ad : Nat → Nat} {m_thrown m_trouble m_where m_taped m_size m_spot m_sort m_place m_number m_fault m_wrongAt m_acts m_images m_matchNow m_slopsNow m_matchesNow m_fedBest m_slopsBest m_sawBest m_leastNow m_stableNow m_fitsNow m_someNow m_everyNow m_askLeft : Int32} {m_rv : Value} {m_tape m_v m_x m_past m_kept m_slopped m_seatBest m_otherIn : Nat → Int32} {m_word : Int64} {l1 : Int32} {l2 : Int32} {R0 : Int32} (hf : f_M_areTwo_N l1 l2 = some R0) : xI l E yX12_areTwo cX12_areTwo 3 (some .boolean) 1 21 [.ref (ad 0), .int l1, .int l2] (wN E ad m_thrown m_trouble m_where m_rv m_tape m_taped m_size m_spot m_sort m_place m_number m_fault m_wrongAt m_word m_v m_x m_past m_kept m_acts m_images m_matchNow m_slopsNow m_matchesNow m_slopped m_seatBest m_fedBest m_slopsBest m_sawBest m_leastNow m_stableNow m_fitsNow m_someNow m_everyNow m_otherIn m_askLeft) (wN E ad m_thrown m_trouble m_where m_rv m_tape m_taped m_size m_spot m_sort m_place m_number m_fault m_wrongAt m_word m_v m_x m_past m_kept m_acts m_images m_matchNow m_slopsNow m_matchesNow m_slopped m_seatBest m_fedBest m_slopsBest m_sawBest m_leastNow m_stableNow m_fitsNow m_someNow m_everyNow m_otherIn m_askLeft) R0 := by
  refine xI_of (by decide) (Nat.le_of_ble_eq_true rfl) (fun p e s m args below meth c A C ls hl G => ?_)
  have hx := C.1
  have hb := C.2.1
  have hl : lv_has ls 3 [(0, .ref (ad 0)), (1, .int l1), (2, .int l2)] := hl
  unfold f_M_areTwo_N at hf
  refine lv_aload_n hx hb dX12_areTwo_0 rfl (lv_at hl 0 rfl) ?_
  refine lv_iload_n hx hb dX12_areTwo_1 rfl (lv_at hl 1 rfl) ?_
  obtain ⟨x1, hc, hf⟩ := bd_go hf
  refine xI_V C G (c_M_isPerson_m_N hc) mX12_isPerson kX12_309 (wN_at0) rfl ⟨Nat.le_of_ble_eq_true rfl, Nat.le_of_ble_eq_true rfl⟩ rfl hl.1 rfl (Nat.le_of_ble_eq_true rfl) ⟨Nat.le_refl _, Nat.le_refl _⟩ dX12_areTwo_2 (fun hz1 H locs G => ?_)
  obtain ⟨b2, hr, hf⟩ := bd_go hf
  cases b2 with
  | true =>
    have hf := it_t rfl hf
    have J : ∀ (H : Heap) (locs : List Loc), xG s E A (wN E ad m_thrown m_trouble m_where m_rv m_tape m_taped m_size m_spot m_sort m_place m_number m_fault m_wrongAt m_word m_v m_x m_past m_kept m_acts m_images m_matchNow m_slopsNow m_matchesNow m_slopped m_seatBest m_fedBest m_slopsBest m_sawBest m_leastNow m_stableNow m_fitsNow m_someNow m_everyNow m_otherIn m_askLeft) H locs → W p l e (xR 1 21) s m args below meth c H locs 0 0 (MQ below (xqI E A (wN E ad m_thrown m_trouble m_where m_rv m_tape m_taped m_size m_spot m_sort m_place m_number m_fault m_wrongAt m_word m_v m_x m_past m_kept m_acts m_images m_matchNow m_slopsNow m_matchesNow m_slopped m_seatBest m_fedBest m_slopsBest m_sawBest m_leastNow m_stableNow m_fitsNow m_someNow m_everyNow m_otherIn m_askLeft) (some .boolean) R0) args s 0 0 A) (F0 m 25 ls []) := by
      intro H locs G
      refine lv_iconst (v := 0) hx hb dX12_areTwo_25 (by decide) ?_
      obtain rfl := Option.some.inj hf
      exact xI_ret (r := (0 : Int32)) C G rfl dX12_areTwo_26
    have hf := hr
    clear hr
    refine lv_if_eq (tgt := 25) hx hb dX12_areTwo_5 (by decide) (fun h => ?_) (fun h => ?_)
    · have hf := it_t h hf
      exact J _ _ G
    · have hf := it_f h hf
      refine lv_aload_n hx hb dX12_areTwo_8 rfl (lv_at hl 0 rfl) ?_
      refine lv_iload_n hx hb dX12_areTwo_9 rfl (lv_at hl 2 rfl) ?_
      obtain ⟨x3, hc, hf⟩ := bd_go hf
      refine xI_V C G (c_M_isPerson_m_N hc) mX12_isPerson kX12_309 (wN_at0) rfl ⟨Nat.le_of_ble_eq_true rfl, Nat.le_of_ble_eq_true rfl⟩ rfl hl.1 rfl (Nat.le_of_ble_eq_true rfl) ⟨Nat.le_refl _, Nat.le_refl _⟩ dX12_areTwo_10 (fun hz3 H locs G => ?_)
      refine lv_if_eq (tgt := 25) hx hb dX12_areTwo_13 (by decide) (fun h => ?_) (fun h => ?_)
      · have hf := it_t h hf
        exact J _ _ G
      · have hf := it_f h hf
        refine lv_iload_n hx hb dX12_areTwo_16 rfl (lv_at hl 1 rfl) ?_
        refine lv_iload_n hx hb dX12_areTwo_17 rfl (lv_at hl 2 rfl) ?_
        refine lv_icmp_eq (tgt := 25) hx hb dX12_areTwo_18 (by decide) (fun h => ?_) (fun h => ?_)
        · have hf := it_t h hf
          exact J _ _ G
        · have hf := it_f h hf
          exact absurd (Option.some.inj hf) (by decide)
  | false =>
    have hf := it_f (by decide) hf
    have J : ∀ (H : Heap) (locs : List Loc), xG s E A (wN E ad m_thrown m_trouble m_where m_rv m_tape m_taped m_size m_spot m_sort m_place m_number m_fault m_wrongAt m_word m_v m_x m_past m_kept m_acts m_images m_matchNow m_slopsNow m_matchesNow m_slopped m_seatBest m_fedBest m_slopsBest m_sawBest m_leastNow m_stableNow m_fitsNow m_someNow m_everyNow m_otherIn m_askLeft) H locs → W p l e (xR 1 21) s m args below meth c H locs 0 0 (MQ below (xqI E A (wN E ad m_thrown m_trouble m_where m_rv m_tape m_taped m_size m_spot m_sort m_place m_number m_fault m_wrongAt m_word m_v m_x m_past m_kept m_acts m_images m_matchNow m_slopsNow m_matchesNow m_slopped m_seatBest m_fedBest m_slopsBest m_sawBest m_leastNow m_stableNow m_fitsNow m_someNow m_everyNow m_otherIn m_askLeft) (some .boolean) R0) args s 0 0 A) (F0 m 21 ls []) := by
      intro H locs G
      refine lv_iconst (v := 1) hx hb dX12_areTwo_21 (by decide) ?_
      refine lv_goto (tgt := 26) hx hb dX12_areTwo_22 (by decide) ?_
      obtain rfl := Option.some.inj hf
      exact xI_ret (r := (1 : Int32)) C G rfl dX12_areTwo_26
    have hf := hr
    clear hr
    refine lv_if_eq (tgt := 25) hx hb dX12_areTwo_5 (by decide) (fun h => ?_) (fun h => ?_)
    · have hf := it_t h hf
      exact absurd (Option.some.inj hf) (by decide)
    · have hf := it_f h hf
      refine lv_aload_n hx hb dX12_areTwo_8 rfl (lv_at hl 0 rfl) ?_
      refine lv_iload_n hx hb dX12_areTwo_9 rfl (lv_at hl 2 rfl) ?_
      obtain ⟨x4, hc, hf⟩ := bd_go hf
      refine xI_V C G (c_M_isPerson_m_N hc) mX12_isPerson kX12_309 (wN_at0) rfl ⟨Nat.le_of_ble_eq_true rfl, Nat.le_of_ble_eq_true rfl⟩ rfl hl.1 rfl (Nat.le_of_ble_eq_true rfl) ⟨Nat.le_refl _, Nat.le_refl _⟩ dX12_areTwo_10 (fun hz4 H locs G => ?_)
      refine lv_if_eq (tgt := 25) hx hb dX12_areTwo_13 (by decide) (fun h => ?_) (fun h => ?_)
      · have hf := it_t h hf
        exact absurd (Option.some.inj hf) (by decide)
      · have hf := it_f h hf
        refine lv_iload_n hx hb dX12_areTwo_16 rfl (lv_at hl 1 rfl) ?_
        refine lv_iload_n hx hb dX12_areTwo_17 rfl (lv_at hl 2 rfl) ?_
        refine lv_icmp_eq (tgt := 25) hx hb dX12_areTwo_18 (by decide) (fun h => ?_) (fun h => ?_)
        · have hf := it_t h hf
          exact absurd (Option.some.inj hf) (by decide)
        · have hf := it_f h hf
          exact J _ _ G
set_option maxHeartbeats 4000000 in
set_option maxRecDepth 100000 in
theorem c_M_pairOf_m_N {l : Launch} {E : xE} {ad : Nat → Nat} {m_thrown m_trouble m_where m_taped m_size m_spot m_sort m_place m_number m_fault m_wrongAt m_acts m_images m_matchNow m_slopsNow m_matchesNow m_fedBest m_slopsBest m_sawBest m_leastNow m_stableNow m_fitsNow m_someNow m_everyNow m_askLeft : Int32} {m_rv : Value} {m_tape m_v m_x m_past m_kept m_slopped m_seatBest m_otherIn : Nat → Int32} {m_word : Int64} {l1 : Int32} {l2 : Int32} {R0 : Int32 × Int32 × Int32 × Int32} (hf : f_M_pairOf_N l1 l2 = some R0) : xI l E yX12_pairOf cX12_pairOf 3 (some .int) 2 43 [.ref (ad 0), .int l1, .int l2] (wN E ad m_thrown m_trouble m_where m_rv m_tape m_taped m_size m_spot m_sort m_place m_number m_fault m_wrongAt m_word m_v m_x m_past m_kept m_acts m_images m_matchNow m_slopsNow m_matchesNow m_slopped m_seatBest m_fedBest m_slopsBest m_sawBest m_leastNow m_stableNow m_fitsNow m_someNow m_everyNow m_otherIn m_askLeft) (wN E ad R0.2.1 R0.2.2.1 R0.2.2.2 m_rv m_tape m_taped m_size m_spot m_sort m_place m_number m_fault m_wrongAt m_word m_v m_x m_past m_kept m_acts m_images m_matchNow m_slopsNow m_matchesNow m_slopped m_seatBest m_fedBest m_slopsBest m_sawBest m_leastNow m_stableNow m_fitsNow m_someNow m_everyNow m_otherIn m_askLeft) R0.1 := by
  refine xI_of (by decide) (Nat.le_of_ble_eq_true rfl) (fun p e s m args below meth c A C ls hl G => ?_)
  have hx := C.1
  have hb := C.2.1
  have hl : lv_has ls 3 [(0, .ref (ad 0)), (1, .int l1), (2, .int l2)] := hl
  unfold f_M_pairOf_N at hf
  refine lv_aload_n hx hb dX12_pairOf_0 rfl (lv_at hl 0 rfl) ?_
  refine lv_iconst (v := 0) hx hb dX12_pairOf_1 (by decide) ?_
  refine x_put (ws' := (wN E ad (0 : Int32) m_trouble m_where m_rv m_tape m_taped m_size m_spot m_sort m_place m_number m_fault m_wrongAt m_word m_v m_x m_past m_kept m_acts m_images m_matchNow m_slopsNow m_matchesNow m_slopped m_seatBest m_fedBest m_slopsBest m_sawBest m_leastNow m_stableNow m_fitsNow m_someNow m_everyNow m_otherIn m_askLeft)) C G fX12_39 (wN_at0) rfl rfl (Nat.le_of_ble_eq_true rfl) wN_set_m_thrown dX12_pairOf_2 (fun H locs G => ?_)
  refine lv_aload_n hx hb dX12_pairOf_5 rfl (lv_at hl 0 rfl) ?_
  refine lv_iload_n hx hb dX12_pairOf_6 rfl (lv_at hl 1 rfl) ?_
  refine lv_iload_n hx hb dX12_pairOf_7 rfl (lv_at hl 2 rfl) ?_
  obtain ⟨x1, hc, hf⟩ := bd_go hf
  refine xI_V C G (c_M_areTwo_m_N hc) mX12_areTwo kX12_342 (wN_at0) rfl ⟨Nat.le_of_ble_eq_true rfl, Nat.le_of_ble_eq_true rfl⟩ rfl hl.1 rfl (Nat.le_of_ble_eq_true rfl) ⟨Nat.le_refl _, Nat.le_refl _⟩ dX12_pairOf_8 (fun hz1 H locs G => ?_)
  refine lv_if_ne (tgt := 20) hx hb dX12_pairOf_11 (by decide) (fun h => ?_) (fun h => ?_)
  · have hf := it_f h hf
    refine lv_aload_n hx hb dX12_pairOf_20 rfl (lv_at hl 0 rfl) ?_
    exact nomatch hf
  · have hf := it_t h hf
    refine lv_aload_n hx hb dX12_pairOf_14 rfl (lv_at hl 0 rfl) ?_
    refine lv_iconst (v := 1) hx hb dX12_pairOf_15 (by decide) ?_
    obtain ⟨x2, hc, hf⟩ := bd_go hf
    refine xI_V C G (c_M_refused_m_N hc) mX12_refused kX12_45 (wN_at0) rfl ⟨Nat.le_of_ble_eq_true rfl, Nat.le_of_ble_eq_true rfl⟩ rfl hl.1 rfl (Nat.le_of_ble_eq_true rfl) ⟨Nat.le_refl _, Nat.le_refl _⟩ dX12_pairOf_16 (fun hz H locs G => ?_)
    obtain rfl := Option.some.inj hf
    exact xI_ret C G rfl dX12_pairOf_19
set_option maxHeartbeats 4000000 in
set_option maxRecDepth 100000 in
theorem c_M_feeders_m_N {l : Launch} {E : xE} {ad : Nat → Nat} {m_thrown m_trouble m_where m_taped m_size m_spot m_sort m_place m_number m_fault m_wrongAt m_acts m_images m_matchNow m_slopsNow m_matchesNow m_fedBest m_slopsBest m_sawBest m_leastNow m_stableNow m_fitsNow m_someNow m_everyNow m_askLeft : Int32} {m_rv : Value} {m_tape m_v m_x m_past m_kept m_slopped m_seatBest m_otherIn : Nat → Int32} {m_word : Int64} {l1 : Int32} {R0 : Int32 × Int32 × Int32 × Int32} (hf : f_M_feeders_N l1 = some R0) : xI l E yX12_feeders cX12_feeders 2 (some .int) 1 21 [.ref (ad 0), .int l1] (wN E ad m_thrown m_trouble m_where m_rv m_tape m_taped m_size m_spot m_sort m_place m_number m_fault m_wrongAt m_word m_v m_x m_past m_kept m_acts m_images m_matchNow m_slopsNow m_matchesNow m_slopped m_seatBest m_fedBest m_slopsBest m_sawBest m_leastNow m_stableNow m_fitsNow m_someNow m_everyNow m_otherIn m_askLeft) (wN E ad R0.2.1 R0.2.2.1 R0.2.2.2 m_rv m_tape m_taped m_size m_spot m_sort m_place m_number m_fault m_wrongAt m_word m_v m_x m_past m_kept m_acts m_images m_matchNow m_slopsNow m_matchesNow m_slopped m_seatBest m_fedBest m_slopsBest m_sawBest m_leastNow m_stableNow m_fitsNow m_someNow m_everyNow m_otherIn m_askLeft) R0.1 := by
  refine xI_of (by decide) (Nat.le_of_ble_eq_true rfl) (fun p e s m args below meth c A C ls hl G => ?_)
  have hx := C.1
  have hb := C.2.1
  have hl : lv_has ls 2 [(0, .ref (ad 0)), (1, .int l1)] := hl
  unfold f_M_feeders_N at hf
  refine lv_aload_n hx hb dX12_feeders_0 rfl (lv_at hl 0 rfl) ?_
  refine lv_iconst (v := 0) hx hb dX12_feeders_1 (by decide) ?_
  refine x_put (ws' := (wN E ad (0 : Int32) m_trouble m_where m_rv m_tape m_taped m_size m_spot m_sort m_place m_number m_fault m_wrongAt m_word m_v m_x m_past m_kept m_acts m_images m_matchNow m_slopsNow m_matchesNow m_slopped m_seatBest m_fedBest m_slopsBest m_sawBest m_leastNow m_stableNow m_fitsNow m_someNow m_everyNow m_otherIn m_askLeft)) C G fX12_39 (wN_at0) rfl rfl (Nat.le_of_ble_eq_true rfl) wN_set_m_thrown dX12_feeders_2 (fun H locs G => ?_)
  refine lv_aload_n hx hb dX12_feeders_5 rfl (lv_at hl 0 rfl) ?_
  refine lv_iload_n hx hb dX12_feeders_6 rfl (lv_at hl 1 rfl) ?_
  obtain ⟨x1, hc, hf⟩ := bd_go hf
  refine xI_V C G (c_M_isPerson_m_N hc) mX12_isPerson kX12_309 (wN_at0) rfl ⟨Nat.le_of_ble_eq_true rfl, Nat.le_of_ble_eq_true rfl⟩ rfl hl.1 rfl (Nat.le_of_ble_eq_true rfl) ⟨Nat.le_refl _, Nat.le_refl _⟩ dX12_feeders_7 (fun hz1 H locs G => ?_)
  refine lv_if_ne (tgt := 19) hx hb dX12_feeders_10 (by decide) (fun h => ?_) (fun h => ?_)
  · have hf := it_f h hf
    refine lv_aload_n hx hb dX12_feeders_19 rfl (lv_at hl 0 rfl) ?_
    exact nomatch hf
  · have hf := it_t h hf
    refine lv_aload_n hx hb dX12_feeders_13 rfl (lv_at hl 0 rfl) ?_
    refine lv_iconst (v := 1) hx hb dX12_feeders_14 (by decide) ?_
    obtain ⟨x2, hc, hf⟩ := bd_go hf
    refine xI_V C G (c_M_refused_m_N hc) mX12_refused kX12_45 (wN_at0) rfl ⟨Nat.le_of_ble_eq_true rfl, Nat.le_of_ble_eq_true rfl⟩ rfl hl.1 rfl (Nat.le_of_ble_eq_true rfl) ⟨Nat.le_refl _, Nat.le_refl _⟩ dX12_feeders_15 (fun hz H locs G => ?_)
    obtain rfl := Option.some.inj hf
    exact xI_ret C G rfl dX12_feeders_18
set_option maxHeartbeats 4000000 in
set_option maxRecDepth 100000 in
theorem c_M_forks_m_N {l : Launch} {E : xE} {ad : Nat → Nat} {m_thrown m_trouble m_where m_taped m_size m_spot m_sort m_place m_number m_fault m_wrongAt m_acts m_images m_matchNow m_slopsNow m_matchesNow m_fedBest m_slopsBest m_sawBest m_leastNow m_stableNow m_fitsNow m_someNow m_everyNow m_askLeft : Int32} {m_rv : Value} {m_tape m_v m_x m_past m_kept m_slopped m_seatBest m_otherIn : Nat → Int32} {m_word : Int64} {l1 : Int32} {l2 : Int32} {R0 : Int32 × Int32 × Int32 × Int32} (hf : f_M_forks_N l1 l2 = some R0) : xI l E yX12_forks cX12_forks 3 (some .int) 2 43 [.ref (ad 0), .int l1, .int l2] (wN E ad m_thrown m_trouble m_where m_rv m_tape m_taped m_size m_spot m_sort m_place m_number m_fault m_wrongAt m_word m_v m_x m_past m_kept m_acts m_images m_matchNow m_slopsNow m_matchesNow m_slopped m_seatBest m_fedBest m_slopsBest m_sawBest m_leastNow m_stableNow m_fitsNow m_someNow m_everyNow m_otherIn m_askLeft) (wN E ad R0.2.1 R0.2.2.1 R0.2.2.2 m_rv m_tape m_taped m_size m_spot m_sort m_place m_number m_fault m_wrongAt m_word m_v m_x m_past m_kept m_acts m_images m_matchNow m_slopsNow m_matchesNow m_slopped m_seatBest m_fedBest m_slopsBest m_sawBest m_leastNow m_stableNow m_fitsNow m_someNow m_everyNow m_otherIn m_askLeft) R0.1 := by
  refine xI_of (by decide) (Nat.le_of_ble_eq_true rfl) (fun p e s m args below meth c A C ls hl G => ?_)
  have hx := C.1
  have hb := C.2.1
  have hl : lv_has ls 3 [(0, .ref (ad 0)), (1, .int l1), (2, .int l2)] := hl
  unfold f_M_forks_N at hf
  refine lv_aload_n hx hb dX12_forks_0 rfl (lv_at hl 0 rfl) ?_
  refine lv_iconst (v := 0) hx hb dX12_forks_1 (by decide) ?_
  refine x_put (ws' := (wN E ad (0 : Int32) m_trouble m_where m_rv m_tape m_taped m_size m_spot m_sort m_place m_number m_fault m_wrongAt m_word m_v m_x m_past m_kept m_acts m_images m_matchNow m_slopsNow m_matchesNow m_slopped m_seatBest m_fedBest m_slopsBest m_sawBest m_leastNow m_stableNow m_fitsNow m_someNow m_everyNow m_otherIn m_askLeft)) C G fX12_39 (wN_at0) rfl rfl (Nat.le_of_ble_eq_true rfl) wN_set_m_thrown dX12_forks_2 (fun H locs G => ?_)
  refine lv_aload_n hx hb dX12_forks_5 rfl (lv_at hl 0 rfl) ?_
  refine lv_iload_n hx hb dX12_forks_6 rfl (lv_at hl 1 rfl) ?_
  refine lv_iload_n hx hb dX12_forks_7 rfl (lv_at hl 2 rfl) ?_
  obtain ⟨x1, hc, hf⟩ := bd_go hf
  refine xI_V C G (c_M_areTwo_m_N hc) mX12_areTwo kX12_342 (wN_at0) rfl ⟨Nat.le_of_ble_eq_true rfl, Nat.le_of_ble_eq_true rfl⟩ rfl hl.1 rfl (Nat.le_of_ble_eq_true rfl) ⟨Nat.le_refl _, Nat.le_refl _⟩ dX12_forks_8 (fun hz1 H locs G => ?_)
  refine lv_if_ne (tgt := 20) hx hb dX12_forks_11 (by decide) (fun h => ?_) (fun h => ?_)
  · have hf := it_f h hf
    refine lv_aload_n hx hb dX12_forks_20 rfl (lv_at hl 0 rfl) ?_
    exact nomatch hf
  · have hf := it_t h hf
    refine lv_aload_n hx hb dX12_forks_14 rfl (lv_at hl 0 rfl) ?_
    refine lv_iconst (v := 1) hx hb dX12_forks_15 (by decide) ?_
    obtain ⟨x2, hc, hf⟩ := bd_go hf
    refine xI_V C G (c_M_refused_m_N hc) mX12_refused kX12_45 (wN_at0) rfl ⟨Nat.le_of_ble_eq_true rfl, Nat.le_of_ble_eq_true rfl⟩ rfl hl.1 rfl (Nat.le_of_ble_eq_true rfl) ⟨Nat.le_refl _, Nat.le_refl _⟩ dX12_forks_16 (fun hz H locs G => ?_)
    obtain rfl := Option.some.inj hf
    exact xI_ret C G rfl dX12_forks_19
set_option maxHeartbeats 4000000 in
set_option maxRecDepth 100000 in
theorem c_M_fed_m_N {l : Launch} {E : xE} {ad : Nat → Nat} {m_thrown m_trouble m_where m_taped m_size m_spot m_sort m_place m_number m_fault m_wrongAt m_acts m_images m_matchNow m_slopsNow m_matchesNow m_fedBest m_slopsBest m_sawBest m_leastNow m_stableNow m_fitsNow m_someNow m_everyNow m_askLeft : Int32} {m_rv : Value} {m_tape m_v m_x m_past m_kept m_slopped m_seatBest m_otherIn : Nat → Int32} {m_word : Int64} {R0 : Int32 × Int32 × Int32 × Int32} (hf : f_M_fed_N = some R0) : xI l E yX12_fed cX12_fed 1 (some .int) 1 21 [.ref (ad 0)] (wN E ad m_thrown m_trouble m_where m_rv m_tape m_taped m_size m_spot m_sort m_place m_number m_fault m_wrongAt m_word m_v m_x m_past m_kept m_acts m_images m_matchNow m_slopsNow m_matchesNow m_slopped m_seatBest m_fedBest m_slopsBest m_sawBest m_leastNow m_stableNow m_fitsNow m_someNow m_everyNow m_otherIn m_askLeft) (wN E ad R0.2.1 R0.2.2.1 R0.2.2.2 m_rv m_tape m_taped m_size m_spot m_sort m_place m_number m_fault m_wrongAt m_word m_v m_x m_past m_kept m_acts m_images m_matchNow m_slopsNow m_matchesNow m_slopped m_seatBest m_fedBest m_slopsBest m_sawBest m_leastNow m_stableNow m_fitsNow m_someNow m_everyNow m_otherIn m_askLeft) R0.1 := by
  refine xI_of (by decide) (Nat.le_of_ble_eq_true rfl) (fun p e s m args below meth c A C ls hl G => ?_)
  have hx := C.1
  have hb := C.2.1
  have hl : lv_has ls 1 [(0, .ref (ad 0))] := hl
  unfold f_M_fed_N at hf
  refine lv_aload_n hx hb dX12_fed_0 rfl (lv_at hl 0 rfl) ?_
  refine lv_iconst (v := 0) hx hb dX12_fed_1 (by decide) ?_
  refine x_put (ws' := (wN E ad (0 : Int32) m_trouble m_where m_rv m_tape m_taped m_size m_spot m_sort m_place m_number m_fault m_wrongAt m_word m_v m_x m_past m_kept m_acts m_images m_matchNow m_slopsNow m_matchesNow m_slopped m_seatBest m_fedBest m_slopsBest m_sawBest m_leastNow m_stableNow m_fitsNow m_someNow m_everyNow m_otherIn m_askLeft)) C G fX12_39 (wN_at0) rfl rfl (Nat.le_of_ble_eq_true rfl) wN_set_m_thrown dX12_fed_2 (fun H locs G => ?_)
  refine lv_aload_n hx hb dX12_fed_5 rfl (lv_at hl 0 rfl) ?_
  refine x_get C G fX12_298.g (wN_at0) rfl dX12_fed_6 ?_
  refine lv_ifnonnullN hx hb dX12_fed_9 ?_
  refine lv_aload_n hx hb dX12_fed_12 rfl (lv_at hl 0 rfl) ?_
  refine lv_iconst (v := 1) hx hb dX12_fed_13 (by decide) ?_
  obtain ⟨x1, hc, hf⟩ := bd_go hf
  refine xI_V C G (c_M_refused_m_N hc) mX12_refused kX12_45 (wN_at0) rfl ⟨Nat.le_of_ble_eq_true rfl, Nat.le_of_ble_eq_true rfl⟩ rfl hl.1 rfl (Nat.le_of_ble_eq_true rfl) ⟨Nat.le_refl _, Nat.le_refl _⟩ dX12_fed_14 (fun hz H locs G => ?_)
  obtain rfl := Option.some.inj hf
  exact xI_ret C G rfl dX12_fed_17
set_option maxHeartbeats 4000000 in
set_option maxRecDepth 100000 in
theorem c_M_match_m_N {l : Launch} {E : xE} {ad : Nat → Nat} {m_thrown m_trouble m_where m_taped m_size m_spot m_sort m_place m_number m_fault m_wrongAt m_acts m_images m_matchNow m_slopsNow m_matchesNow m_fedBest m_slopsBest m_sawBest m_leastNow m_stableNow m_fitsNow m_someNow m_everyNow m_askLeft : Int32} {m_rv : Value} {m_tape m_v m_x m_past m_kept m_slopped m_seatBest m_otherIn : Nat → Int32} {m_word : Int64} {R0 : Int32 × Int32 × Int32 × Int32} (hf : f_M_match_N = some R0) : xI l E yX12_match cX12_match 1 (some .int) 1 21 [.ref (ad 0)] (wN E ad m_thrown m_trouble m_where m_rv m_tape m_taped m_size m_spot m_sort m_place m_number m_fault m_wrongAt m_word m_v m_x m_past m_kept m_acts m_images m_matchNow m_slopsNow m_matchesNow m_slopped m_seatBest m_fedBest m_slopsBest m_sawBest m_leastNow m_stableNow m_fitsNow m_someNow m_everyNow m_otherIn m_askLeft) (wN E ad R0.2.1 R0.2.2.1 R0.2.2.2 m_rv m_tape m_taped m_size m_spot m_sort m_place m_number m_fault m_wrongAt m_word m_v m_x m_past m_kept m_acts m_images m_matchNow m_slopsNow m_matchesNow m_slopped m_seatBest m_fedBest m_slopsBest m_sawBest m_leastNow m_stableNow m_fitsNow m_someNow m_everyNow m_otherIn m_askLeft) R0.1 := by
  refine xI_of (by decide) (Nat.le_of_ble_eq_true rfl) (fun p e s m args below meth c A C ls hl G => ?_)
  have hx := C.1
  have hb := C.2.1
  have hl : lv_has ls 1 [(0, .ref (ad 0))] := hl
  unfold f_M_match_N at hf
  refine lv_aload_n hx hb dX12_match_0 rfl (lv_at hl 0 rfl) ?_
  refine lv_iconst (v := 0) hx hb dX12_match_1 (by decide) ?_
  refine x_put (ws' := (wN E ad (0 : Int32) m_trouble m_where m_rv m_tape m_taped m_size m_spot m_sort m_place m_number m_fault m_wrongAt m_word m_v m_x m_past m_kept m_acts m_images m_matchNow m_slopsNow m_matchesNow m_slopped m_seatBest m_fedBest m_slopsBest m_sawBest m_leastNow m_stableNow m_fitsNow m_someNow m_everyNow m_otherIn m_askLeft)) C G fX12_39 (wN_at0) rfl rfl (Nat.le_of_ble_eq_true rfl) wN_set_m_thrown dX12_match_2 (fun H locs G => ?_)
  refine lv_aload_n hx hb dX12_match_5 rfl (lv_at hl 0 rfl) ?_
  refine x_get C G fX12_298.g (wN_at0) rfl dX12_match_6 ?_
  refine lv_ifnonnullN hx hb dX12_match_9 ?_
  refine lv_aload_n hx hb dX12_match_12 rfl (lv_at hl 0 rfl) ?_
  refine lv_iconst (v := 1) hx hb dX12_match_13 (by decide) ?_
  obtain ⟨x1, hc, hf⟩ := bd_go hf
  refine xI_V C G (c_M_refused_m_N hc) mX12_refused kX12_45 (wN_at0) rfl ⟨Nat.le_of_ble_eq_true rfl, Nat.le_of_ble_eq_true rfl⟩ rfl hl.1 rfl (Nat.le_of_ble_eq_true rfl) ⟨Nat.le_refl _, Nat.le_refl _⟩ dX12_match_14 (fun hz H locs G => ?_)
  obtain rfl := Option.some.inj hf
  exact xI_ret C G rfl dX12_match_17
set_option maxHeartbeats 4000000 in
set_option maxRecDepth 100000 in
theorem c_M_slops_m_N {l : Launch} {E : xE} {ad : Nat → Nat} {m_thrown m_trouble m_where m_taped m_size m_spot m_sort m_place m_number m_fault m_wrongAt m_acts m_images m_matchNow m_slopsNow m_matchesNow m_fedBest m_slopsBest m_sawBest m_leastNow m_stableNow m_fitsNow m_someNow m_everyNow m_askLeft : Int32} {m_rv : Value} {m_tape m_v m_x m_past m_kept m_slopped m_seatBest m_otherIn : Nat → Int32} {m_word : Int64} {R0 : Int32 × Int32 × Int32 × Int32} (hf : f_M_slops_N = some R0) : xI l E yX12_slops cX12_slops 1 (some .int) 1 21 [.ref (ad 0)] (wN E ad m_thrown m_trouble m_where m_rv m_tape m_taped m_size m_spot m_sort m_place m_number m_fault m_wrongAt m_word m_v m_x m_past m_kept m_acts m_images m_matchNow m_slopsNow m_matchesNow m_slopped m_seatBest m_fedBest m_slopsBest m_sawBest m_leastNow m_stableNow m_fitsNow m_someNow m_everyNow m_otherIn m_askLeft) (wN E ad R0.2.1 R0.2.2.1 R0.2.2.2 m_rv m_tape m_taped m_size m_spot m_sort m_place m_number m_fault m_wrongAt m_word m_v m_x m_past m_kept m_acts m_images m_matchNow m_slopsNow m_matchesNow m_slopped m_seatBest m_fedBest m_slopsBest m_sawBest m_leastNow m_stableNow m_fitsNow m_someNow m_everyNow m_otherIn m_askLeft) R0.1 := by
  refine xI_of (by decide) (Nat.le_of_ble_eq_true rfl) (fun p e s m args below meth c A C ls hl G => ?_)
  have hx := C.1
  have hb := C.2.1
  have hl : lv_has ls 1 [(0, .ref (ad 0))] := hl
  unfold f_M_slops_N at hf
  refine lv_aload_n hx hb dX12_slops_0 rfl (lv_at hl 0 rfl) ?_
  refine lv_iconst (v := 0) hx hb dX12_slops_1 (by decide) ?_
  refine x_put (ws' := (wN E ad (0 : Int32) m_trouble m_where m_rv m_tape m_taped m_size m_spot m_sort m_place m_number m_fault m_wrongAt m_word m_v m_x m_past m_kept m_acts m_images m_matchNow m_slopsNow m_matchesNow m_slopped m_seatBest m_fedBest m_slopsBest m_sawBest m_leastNow m_stableNow m_fitsNow m_someNow m_everyNow m_otherIn m_askLeft)) C G fX12_39 (wN_at0) rfl rfl (Nat.le_of_ble_eq_true rfl) wN_set_m_thrown dX12_slops_2 (fun H locs G => ?_)
  refine lv_aload_n hx hb dX12_slops_5 rfl (lv_at hl 0 rfl) ?_
  refine x_get C G fX12_298.g (wN_at0) rfl dX12_slops_6 ?_
  refine lv_ifnonnullN hx hb dX12_slops_9 ?_
  refine lv_aload_n hx hb dX12_slops_12 rfl (lv_at hl 0 rfl) ?_
  refine lv_iconst (v := 1) hx hb dX12_slops_13 (by decide) ?_
  obtain ⟨x1, hc, hf⟩ := bd_go hf
  refine xI_V C G (c_M_refused_m_N hc) mX12_refused kX12_45 (wN_at0) rfl ⟨Nat.le_of_ble_eq_true rfl, Nat.le_of_ble_eq_true rfl⟩ rfl hl.1 rfl (Nat.le_of_ble_eq_true rfl) ⟨Nat.le_refl _, Nat.le_refl _⟩ dX12_slops_14 (fun hz H locs G => ?_)
  obtain rfl := Option.some.inj hf
  exact xI_ret C G rfl dX12_slops_17
set_option maxHeartbeats 4000000 in
set_option maxRecDepth 100000 in
theorem c_M_mate_m_N {l : Launch} {E : xE} {ad : Nat → Nat} {m_thrown m_trouble m_where m_taped m_size m_spot m_sort m_place m_number m_fault m_wrongAt m_acts m_images m_matchNow m_slopsNow m_matchesNow m_fedBest m_slopsBest m_sawBest m_leastNow m_stableNow m_fitsNow m_someNow m_everyNow m_askLeft : Int32} {m_rv : Value} {m_tape m_v m_x m_past m_kept m_slopped m_seatBest m_otherIn : Nat → Int32} {m_word : Int64} {l1 : Int32} {R0 : Int32 × Int32 × Int32 × Int32} (hf : f_M_mate_N l1 = some R0) : xI l E yX12_mate cX12_mate 2 (some .int) 1 21 [.ref (ad 0), .int l1] (wN E ad m_thrown m_trouble m_where m_rv m_tape m_taped m_size m_spot m_sort m_place m_number m_fault m_wrongAt m_word m_v m_x m_past m_kept m_acts m_images m_matchNow m_slopsNow m_matchesNow m_slopped m_seatBest m_fedBest m_slopsBest m_sawBest m_leastNow m_stableNow m_fitsNow m_someNow m_everyNow m_otherIn m_askLeft) (wN E ad R0.2.1 R0.2.2.1 R0.2.2.2 m_rv m_tape m_taped m_size m_spot m_sort m_place m_number m_fault m_wrongAt m_word m_v m_x m_past m_kept m_acts m_images m_matchNow m_slopsNow m_matchesNow m_slopped m_seatBest m_fedBest m_slopsBest m_sawBest m_leastNow m_stableNow m_fitsNow m_someNow m_everyNow m_otherIn m_askLeft) R0.1 := by
  refine xI_of (by decide) (Nat.le_of_ble_eq_true rfl) (fun p e s m args below meth c A C ls hl G => ?_)
  have hx := C.1
  have hb := C.2.1
  have hl : lv_has ls 2 [(0, .ref (ad 0)), (1, .int l1)] := hl
  unfold f_M_mate_N at hf
  refine lv_aload_n hx hb dX12_mate_0 rfl (lv_at hl 0 rfl) ?_
  refine lv_iconst (v := 0) hx hb dX12_mate_1 (by decide) ?_
  refine x_put (ws' := (wN E ad (0 : Int32) m_trouble m_where m_rv m_tape m_taped m_size m_spot m_sort m_place m_number m_fault m_wrongAt m_word m_v m_x m_past m_kept m_acts m_images m_matchNow m_slopsNow m_matchesNow m_slopped m_seatBest m_fedBest m_slopsBest m_sawBest m_leastNow m_stableNow m_fitsNow m_someNow m_everyNow m_otherIn m_askLeft)) C G fX12_39 (wN_at0) rfl rfl (Nat.le_of_ble_eq_true rfl) wN_set_m_thrown dX12_mate_2 (fun H locs G => ?_)
  refine lv_aload_n hx hb dX12_mate_5 rfl (lv_at hl 0 rfl) ?_
  refine lv_iload_n hx hb dX12_mate_6 rfl (lv_at hl 1 rfl) ?_
  obtain ⟨x1, hc, hf⟩ := bd_go hf
  refine xI_V C G (c_M_isPerson_m_N hc) mX12_isPerson kX12_309 (wN_at0) rfl ⟨Nat.le_of_ble_eq_true rfl, Nat.le_of_ble_eq_true rfl⟩ rfl hl.1 rfl (Nat.le_of_ble_eq_true rfl) ⟨Nat.le_refl _, Nat.le_refl _⟩ dX12_mate_7 (fun hz1 H locs G => ?_)
  refine lv_if_ne (tgt := 19) hx hb dX12_mate_10 (by decide) (fun h => ?_) (fun h => ?_)
  · have hf := it_f h hf
    refine lv_aload_n hx hb dX12_mate_19 rfl (lv_at hl 0 rfl) ?_
    exact nomatch hf
  · have hf := it_t h hf
    refine lv_aload_n hx hb dX12_mate_13 rfl (lv_at hl 0 rfl) ?_
    refine lv_iconst (v := 1) hx hb dX12_mate_14 (by decide) ?_
    obtain ⟨x2, hc, hf⟩ := bd_go hf
    refine xI_V C G (c_M_refused_m_N hc) mX12_refused kX12_45 (wN_at0) rfl ⟨Nat.le_of_ble_eq_true rfl, Nat.le_of_ble_eq_true rfl⟩ rfl hl.1 rfl (Nat.le_of_ble_eq_true rfl) ⟨Nat.le_refl _, Nat.le_refl _⟩ dX12_mate_15 (fun hz H locs G => ?_)
    obtain rfl := Option.some.inj hf
    exact xI_ret C G rfl dX12_mate_18
set_option maxHeartbeats 4000000 in
set_option maxRecDepth 100000 in
theorem c_M_starving_m_N {l : Launch} {E : xE} {ad : Nat → Nat} {m_thrown m_trouble m_where m_taped m_size m_spot m_sort m_place m_number m_fault m_wrongAt m_acts m_images m_matchNow m_slopsNow m_matchesNow m_fedBest m_slopsBest m_sawBest m_leastNow m_stableNow m_fitsNow m_someNow m_everyNow m_askLeft : Int32} {m_rv : Value} {m_tape m_v m_x m_past m_kept m_slopped m_seatBest m_otherIn : Nat → Int32} {m_word : Int64} {R0 : Int32 × Int32 × Int32 × Int32} (hf : f_M_starving_N = some R0) : xI l E yX12_starving cX12_starving 3 (some .int) 1 21 [.ref (ad 0)] (wN E ad m_thrown m_trouble m_where m_rv m_tape m_taped m_size m_spot m_sort m_place m_number m_fault m_wrongAt m_word m_v m_x m_past m_kept m_acts m_images m_matchNow m_slopsNow m_matchesNow m_slopped m_seatBest m_fedBest m_slopsBest m_sawBest m_leastNow m_stableNow m_fitsNow m_someNow m_everyNow m_otherIn m_askLeft) (wN E ad R0.2.1 R0.2.2.1 R0.2.2.2 m_rv m_tape m_taped m_size m_spot m_sort m_place m_number m_fault m_wrongAt m_word m_v m_x m_past m_kept m_acts m_images m_matchNow m_slopsNow m_matchesNow m_slopped m_seatBest m_fedBest m_slopsBest m_sawBest m_leastNow m_stableNow m_fitsNow m_someNow m_everyNow m_otherIn m_askLeft) R0.1 := by
  refine xI_of (by decide) (Nat.le_of_ble_eq_true rfl) (fun p e s m args below meth c A C ls hl G => ?_)
  have hx := C.1
  have hb := C.2.1
  have hl : lv_has ls 3 [(0, .ref (ad 0))] := hl
  unfold f_M_starving_N at hf
  refine lv_aload_n hx hb dX12_starving_0 rfl (lv_at hl 0 rfl) ?_
  refine lv_iconst (v := 0) hx hb dX12_starving_1 (by decide) ?_
  refine x_put (ws' := (wN E ad (0 : Int32) m_trouble m_where m_rv m_tape m_taped m_size m_spot m_sort m_place m_number m_fault m_wrongAt m_word m_v m_x m_past m_kept m_acts m_images m_matchNow m_slopsNow m_matchesNow m_slopped m_seatBest m_fedBest m_slopsBest m_sawBest m_leastNow m_stableNow m_fitsNow m_someNow m_everyNow m_otherIn m_askLeft)) C G fX12_39 (wN_at0) rfl rfl (Nat.le_of_ble_eq_true rfl) wN_set_m_thrown dX12_starving_2 (fun H locs G => ?_)
  refine lv_aload_n hx hb dX12_starving_5 rfl (lv_at hl 0 rfl) ?_
  refine x_get C G fX12_298.g (wN_at0) rfl dX12_starving_6 ?_
  refine lv_ifnonnullN hx hb dX12_starving_9 ?_
  refine lv_aload_n hx hb dX12_starving_12 rfl (lv_at hl 0 rfl) ?_
  refine lv_iconst (v := 1) hx hb dX12_starving_13 (by decide) ?_
  obtain ⟨x1, hc, hf⟩ := bd_go hf
  refine xI_V C G (c_M_refused_m_N hc) mX12_refused kX12_45 (wN_at0) rfl ⟨Nat.le_of_ble_eq_true rfl, Nat.le_of_ble_eq_true rfl⟩ rfl hl.1 rfl (Nat.le_of_ble_eq_true rfl) ⟨Nat.le_refl _, Nat.le_refl _⟩ dX12_starving_14 (fun hz H locs G => ?_)
  obtain rfl := Option.some.inj hf
  exact xI_ret C G rfl dX12_starving_17
set_option maxHeartbeats 4000000 in
set_option maxRecDepth 100000 in
theorem c_M_matches_m_N {l : Launch} {E : xE} {ad : Nat → Nat} {m_thrown m_trouble m_where m_taped m_size m_spot m_sort m_place m_number m_fault m_wrongAt m_acts m_images m_matchNow m_slopsNow m_matchesNow m_fedBest m_slopsBest m_sawBest m_leastNow m_stableNow m_fitsNow m_someNow m_everyNow m_askLeft : Int32} {m_rv : Value} {m_tape m_v m_x m_past m_kept m_slopped m_seatBest m_otherIn : Nat → Int32} {m_word : Int64} {R0 : Int32 × Int32 × Int32 × Int32} (hf : f_M_matches_N = some R0) : xI l E yX12_matches cX12_matches 1 (some .int) 1 21 [.ref (ad 0)] (wN E ad m_thrown m_trouble m_where m_rv m_tape m_taped m_size m_spot m_sort m_place m_number m_fault m_wrongAt m_word m_v m_x m_past m_kept m_acts m_images m_matchNow m_slopsNow m_matchesNow m_slopped m_seatBest m_fedBest m_slopsBest m_sawBest m_leastNow m_stableNow m_fitsNow m_someNow m_everyNow m_otherIn m_askLeft) (wN E ad R0.2.1 R0.2.2.1 R0.2.2.2 m_rv m_tape m_taped m_size m_spot m_sort m_place m_number m_fault m_wrongAt m_word m_v m_x m_past m_kept m_acts m_images m_matchNow m_slopsNow m_matchesNow m_slopped m_seatBest m_fedBest m_slopsBest m_sawBest m_leastNow m_stableNow m_fitsNow m_someNow m_everyNow m_otherIn m_askLeft) R0.1 := by
  refine xI_of (by decide) (Nat.le_of_ble_eq_true rfl) (fun p e s m args below meth c A C ls hl G => ?_)
  have hx := C.1
  have hb := C.2.1
  have hl : lv_has ls 1 [(0, .ref (ad 0))] := hl
  unfold f_M_matches_N at hf
  refine lv_aload_n hx hb dX12_matches_0 rfl (lv_at hl 0 rfl) ?_
  refine lv_iconst (v := 0) hx hb dX12_matches_1 (by decide) ?_
  refine x_put (ws' := (wN E ad (0 : Int32) m_trouble m_where m_rv m_tape m_taped m_size m_spot m_sort m_place m_number m_fault m_wrongAt m_word m_v m_x m_past m_kept m_acts m_images m_matchNow m_slopsNow m_matchesNow m_slopped m_seatBest m_fedBest m_slopsBest m_sawBest m_leastNow m_stableNow m_fitsNow m_someNow m_everyNow m_otherIn m_askLeft)) C G fX12_39 (wN_at0) rfl rfl (Nat.le_of_ble_eq_true rfl) wN_set_m_thrown dX12_matches_2 (fun H locs G => ?_)
  refine lv_aload_n hx hb dX12_matches_5 rfl (lv_at hl 0 rfl) ?_
  refine x_get C G fX12_298.g (wN_at0) rfl dX12_matches_6 ?_
  refine lv_ifnonnullN hx hb dX12_matches_9 ?_
  refine lv_aload_n hx hb dX12_matches_12 rfl (lv_at hl 0 rfl) ?_
  refine lv_iconst (v := 1) hx hb dX12_matches_13 (by decide) ?_
  obtain ⟨x1, hc, hf⟩ := bd_go hf
  refine xI_V C G (c_M_refused_m_N hc) mX12_refused kX12_45 (wN_at0) rfl ⟨Nat.le_of_ble_eq_true rfl, Nat.le_of_ble_eq_true rfl⟩ rfl hl.1 rfl (Nat.le_of_ble_eq_true rfl) ⟨Nat.le_refl _, Nat.le_refl _⟩ dX12_matches_14 (fun hz H locs G => ?_)
  obtain rfl := Option.some.inj hf
  exact xI_ret C G rfl dX12_matches_17
set_option maxHeartbeats 4000000 in
set_option maxRecDepth 100000 in
theorem c_M_refusesYears_m_N {l : Launch} {E : xE} {ad : Nat → Nat} {m_thrown m_trouble m_where m_taped m_size m_spot m_sort m_place m_number m_fault m_wrongAt m_acts m_images m_matchNow m_slopsNow m_matchesNow m_fedBest m_slopsBest m_sawBest m_leastNow m_stableNow m_fitsNow m_someNow m_everyNow m_askLeft : Int32} {m_rv : Value} {m_tape m_v m_x m_past m_kept m_slopped m_seatBest m_otherIn : Nat → Int32} {m_word : Int64} {l1 : Int32} {l2 : Int32} {R0 : Int32} (hf : f_M_refusesYears l1 l2 = some R0) : xI l E yX12_refusesYears cX12_refusesYears 3 (some .int) 1 22 [.ref (ad 0), .int l1, .int l2] (wN E ad m_thrown m_trouble m_where m_rv m_tape m_taped m_size m_spot m_sort m_place m_number m_fault m_wrongAt m_word m_v m_x m_past m_kept m_acts m_images m_matchNow m_slopsNow m_matchesNow m_slopped m_seatBest m_fedBest m_slopsBest m_sawBest m_leastNow m_stableNow m_fitsNow m_someNow m_everyNow m_otherIn m_askLeft) (wN E ad m_thrown m_trouble m_where m_rv m_tape m_taped m_size m_spot m_sort m_place m_number m_fault m_wrongAt m_word m_v m_x m_past m_kept m_acts m_images m_matchNow m_slopsNow m_matchesNow m_slopped m_seatBest m_fedBest m_slopsBest m_sawBest m_leastNow m_stableNow m_fitsNow m_someNow m_everyNow m_otherIn m_askLeft) R0 := by
  refine xI_of (by decide) (Nat.le_of_ble_eq_true rfl) (fun p e s m args below meth c A C ls hl G => ?_)
  have hx := C.1
  have hb := C.2.1
  have hl : lv_has ls 3 [(0, .ref (ad 0)), (1, .int l1), (2, .int l2)] := hl
  unfold f_M_refusesYears at hf
  refine lv_iload_n hx hb dX12_refusesYears_0 rfl (lv_at hl 1 rfl) ?_
  refine lv_if_ne (tgt := 8) hx hb dX12_refusesYears_1 (by decide) (fun h => ?_) (fun h => ?_)
  · have hf := it_f h hf
    refine lv_iload_n hx hb dX12_refusesYears_8 rfl (lv_at hl 2 rfl) ?_
    refine lv_iconst (v := 0) hx hb dX12_refusesYears_9 (by decide) ?_
    refine lv_bipush (v := 60) hx hb dX12_refusesYears_10 (by decide) ?_
    obtain ⟨x1, hc, hf⟩ := bd_go hf
    refine xI_S C G (c_M_in_any hc) mX12_in kX12_118 ⟨Nat.le_of_ble_eq_true rfl, Nat.le_of_ble_eq_true rfl⟩ rfl hl.1 rfl (Nat.le_of_ble_eq_true rfl) ⟨Nat.le_refl _, Nat.le_refl _⟩ dX12_refusesYears_12 (fun hz1 H locs G => ?_)
    refine lv_if_eq (tgt := 22) hx hb dX12_refusesYears_15 (by decide) (fun h => ?_) (fun h => ?_)
    · have hf := it_t h hf
      refine lv_iconst (v := 2) hx hb dX12_refusesYears_22 (by decide) ?_
      obtain rfl := Option.some.inj hf
      exact xI_ret C G rfl dX12_refusesYears_23
    · have hf := it_f h hf
      refine lv_iconst (v := 0) hx hb dX12_refusesYears_18 (by decide) ?_
      refine lv_goto (tgt := 23) hx hb dX12_refusesYears_19 (by decide) ?_
      obtain rfl := Option.some.inj hf
      exact xI_ret C G rfl dX12_refusesYears_23
  · have hf := it_t h hf
    refine lv_iconst (v := 1) hx hb dX12_refusesYears_4 (by decide) ?_
    refine lv_goto (tgt := 23) hx hb dX12_refusesYears_5 (by decide) ?_
    obtain rfl := Option.some.inj hf
    exact xI_ret C G rfl dX12_refusesYears_23
set_option maxHeartbeats 4000000 in
set_option maxRecDepth 100000 in
theorem c_M_handleIn_m_N {l : Launch} {E : xE} {ad : Nat → Nat} {m_thrown m_trouble m_where m_taped m_size m_spot m_sort m_place m_number m_fault m_wrongAt m_acts m_images m_matchNow m_slopsNow m_matchesNow m_fedBest m_slopsBest m_sawBest m_leastNow m_stableNow m_fitsNow m_someNow m_everyNow m_askLeft : Int32} {m_rv : Value} {m_tape m_v m_x m_past m_kept m_slopped m_seatBest m_otherIn : Nat → Int32} {m_word : Int64} {l1 : Int32} {l2 : Int32} {R0 : Int32 × Int32 × Int32 × Int32} (hf : f_M_handleIn_N l1 l2 = some R0) : xI l E yX12_handleIn cX12_handleIn 4 (some .int) 2 44 [.ref (ad 0), .int l1, .int l2] (wN E ad m_thrown m_trouble m_where m_rv m_tape m_taped m_size m_spot m_sort m_place m_number m_fault m_wrongAt m_word m_v m_x m_past m_kept m_acts m_images m_matchNow m_slopsNow m_matchesNow m_slopped m_seatBest m_fedBest m_slopsBest m_sawBest m_leastNow m_stableNow m_fitsNow m_someNow m_everyNow m_otherIn m_askLeft) (wN E ad R0.2.1 R0.2.2.1 R0.2.2.2 m_rv m_tape m_taped m_size m_spot m_sort m_place m_number m_fault m_wrongAt m_word m_v m_x m_past m_kept m_acts m_images m_matchNow m_slopsNow m_matchesNow m_slopped m_seatBest m_fedBest m_slopsBest m_sawBest m_leastNow m_stableNow m_fitsNow m_someNow m_everyNow m_otherIn m_askLeft) R0.1 := by
  refine xI_of (by decide) (Nat.le_of_ble_eq_true rfl) (fun p e s m args below meth c A C ls hl G => ?_)
  have hx := C.1
  have hb := C.2.1
  have hl : lv_has ls 4 [(0, .ref (ad 0)), (1, .int l1), (2, .int l2)] := hl
  unfold f_M_handleIn_N at hf
  refine lv_aload_n hx hb dX12_handleIn_0 rfl (lv_at hl 0 rfl) ?_
  refine lv_iconst (v := 0) hx hb dX12_handleIn_1 (by decide) ?_
  refine x_put (ws' := (wN E ad (0 : Int32) m_trouble m_where m_rv m_tape m_taped m_size m_spot m_sort m_place m_number m_fault m_wrongAt m_word m_v m_x m_past m_kept m_acts m_images m_matchNow m_slopsNow m_matchesNow m_slopped m_seatBest m_fedBest m_slopsBest m_sawBest m_leastNow m_stableNow m_fitsNow m_someNow m_everyNow m_otherIn m_askLeft)) C G fX12_39 (wN_at0) rfl rfl (Nat.le_of_ble_eq_true rfl) wN_set_m_thrown dX12_handleIn_2 (fun H locs G => ?_)
  refine lv_aload_n hx hb dX12_handleIn_5 rfl (lv_at hl 0 rfl) ?_
  refine lv_aload_n hx hb dX12_handleIn_6 rfl (lv_at hl 0 rfl) ?_
  refine lv_iload_n hx hb dX12_handleIn_7 rfl (lv_at hl 1 rfl) ?_
  obtain ⟨x1, hc, hf⟩ := bd_go hf
  refine xI_V C G (c_M_isPair_m_N hc) mX12_isPair kX12_330 (wN_at0) rfl ⟨Nat.le_of_ble_eq_true rfl, Nat.le_of_ble_eq_true rfl⟩ rfl hl.1 rfl (Nat.le_of_ble_eq_true rfl) ⟨Nat.le_refl _, Nat.le_refl _⟩ dX12_handleIn_8 (fun hz1 H locs G => ?_)
  refine lv_iload_n hx hb dX12_handleIn_11 rfl (lv_at hl 2 rfl) ?_
  obtain ⟨x2, hc, hf⟩ := bd_go hf
  refine xI_V C G (c_M_refusesYears_m_N hc) mX12_refusesYears kX12_372 (wN_at0) rfl ⟨Nat.le_of_ble_eq_true rfl, Nat.le_of_ble_eq_true rfl⟩ rfl hl.1 rfl (Nat.le_of_ble_eq_true rfl) ⟨Nat.le_refl _, Nat.le_refl _⟩ dX12_handleIn_12 (fun hz H locs G => ?_)
  refine lv_istore_n (lv' := [(3, .int x2), (0, .ref (ad 0)), (1, .int l1), (2, .int l2)]) hx hb dX12_handleIn_15 rfl hl (by decide) rfl (fun ls hl => ?_)
  refine lv_iload_n hx hb dX12_handleIn_16 rfl (lv_at hl 0 rfl) ?_
  refine lv_if_le (tgt := 26) hx hb dX12_handleIn_17 (by decide) (fun h => ?_) (fun h => ?_)
  · have hf := it_t h hf
    refine lv_aload_n hx hb dX12_handleIn_26 rfl (lv_at hl 1 rfl) ?_
    refine lv_iload_n hx hb dX12_handleIn_27 rfl (lv_at hl 3 rfl) ?_
    exact nomatch hf
  · have hf := it_f h hf
    refine lv_aload_n hx hb dX12_handleIn_20 rfl (lv_at hl 1 rfl) ?_
    refine lv_iload_n hx hb dX12_handleIn_21 rfl (lv_at hl 0 rfl) ?_
    obtain ⟨x3, hc, hf⟩ := bd_go hf
    refine xI_V C G (c_M_refused_m_N hc) mX12_refused kX12_45 (wN_at0) rfl ⟨Nat.le_of_ble_eq_true rfl, Nat.le_of_ble_eq_true rfl⟩ rfl hl.1 rfl (Nat.le_of_ble_eq_true rfl) ⟨Nat.le_refl _, Nat.le_refl _⟩ dX12_handleIn_22 (fun hz H locs G => ?_)
    obtain rfl := Option.some.inj hf
    exact xI_ret C G rfl dX12_handleIn_25
set_option maxHeartbeats 4000000 in
set_option maxRecDepth 100000 in
theorem c_M_feedsIn_m_N {l : Launch} {E : xE} {ad : Nat → Nat} {m_thrown m_trouble m_where m_taped m_size m_spot m_sort m_place m_number m_fault m_wrongAt m_acts m_images m_matchNow m_slopsNow m_matchesNow m_fedBest m_slopsBest m_sawBest m_leastNow m_stableNow m_fitsNow m_someNow m_everyNow m_askLeft : Int32} {m_rv : Value} {m_tape m_v m_x m_past m_kept m_slopped m_seatBest m_otherIn : Nat → Int32} {m_word : Int64} {l1 : Int32} {R0 : Int32 × Int32 × Int32 × Int32} (hf : f_M_feedsIn_N l1 = some R0) : xI l E yX12_feedsIn cX12_feedsIn 3 (some .int) 1 21 [.ref (ad 0), .int l1] (wN E ad m_thrown m_trouble m_where m_rv m_tape m_taped m_size m_spot m_sort m_place m_number m_fault m_wrongAt m_word m_v m_x m_past m_kept m_acts m_images m_matchNow m_slopsNow m_matchesNow m_slopped m_seatBest m_fedBest m_slopsBest m_sawBest m_leastNow m_stableNow m_fitsNow m_someNow m_everyNow m_otherIn m_askLeft) (wN E ad R0.2.1 R0.2.2.1 R0.2.2.2 m_rv m_tape m_taped m_size m_spot m_sort m_place m_number m_fault m_wrongAt m_word m_v m_x m_past m_kept m_acts m_images m_matchNow m_slopsNow m_matchesNow m_slopped m_seatBest m_fedBest m_slopsBest m_sawBest m_leastNow m_stableNow m_fitsNow m_someNow m_everyNow m_otherIn m_askLeft) R0.1 := by
  refine xI_of (by decide) (Nat.le_of_ble_eq_true rfl) (fun p e s m args below meth c A C ls hl G => ?_)
  have hx := C.1
  have hb := C.2.1
  have hl : lv_has ls 3 [(0, .ref (ad 0)), (1, .int l1)] := hl
  unfold f_M_feedsIn_N at hf
  refine lv_aload_n hx hb dX12_feedsIn_0 rfl (lv_at hl 0 rfl) ?_
  refine lv_iconst (v := 0) hx hb dX12_feedsIn_1 (by decide) ?_
  refine x_put (ws' := (wN E ad (0 : Int32) m_trouble m_where m_rv m_tape m_taped m_size m_spot m_sort m_place m_number m_fault m_wrongAt m_word m_v m_x m_past m_kept m_acts m_images m_matchNow m_slopsNow m_matchesNow m_slopped m_seatBest m_fedBest m_slopsBest m_sawBest m_leastNow m_stableNow m_fitsNow m_someNow m_everyNow m_otherIn m_askLeft)) C G fX12_39 (wN_at0) rfl rfl (Nat.le_of_ble_eq_true rfl) wN_set_m_thrown dX12_feedsIn_2 (fun H locs G => ?_)
  refine lv_aload_n hx hb dX12_feedsIn_5 rfl (lv_at hl 0 rfl) ?_
  refine lv_iload_n hx hb dX12_feedsIn_6 rfl (lv_at hl 1 rfl) ?_
  obtain ⟨x1, hc, hf⟩ := bd_go hf
  refine xI_V C G (c_M_isPair_m_N hc) mX12_isPair kX12_330 (wN_at0) rfl ⟨Nat.le_of_ble_eq_true rfl, Nat.le_of_ble_eq_true rfl⟩ rfl hl.1 rfl (Nat.le_of_ble_eq_true rfl) ⟨Nat.le_refl _, Nat.le_refl _⟩ dX12_feedsIn_7 (fun hz1 H locs G => ?_)
  refine lv_if_ne (tgt := 19) hx hb dX12_feedsIn_10 (by decide) (fun h => ?_) (fun h => ?_)
  · have hf := it_f h hf
    refine lv_iconst (v := 0) hx hb dX12_feedsIn_19 (by decide) ?_
    refine lv_istore_n (lv' := [(2, .int (0 : Int32)), (0, .ref (ad 0)), (1, .int l1)]) hx hb dX12_feedsIn_20 rfl hl (by decide) rfl (fun ls hl => ?_)
    refine lv_iload_n hx hb dX12_feedsIn_21 rfl (lv_at hl 0 rfl) ?_
    refine lv_bipush (v := 60) hx hb dX12_feedsIn_22 (by decide) ?_
    refine lv_icmp_gt (tgt := 52) hx hb dX12_feedsIn_24 (by decide) (fun h => ?_) (fun h => ?_)
    · have hf := it_t h hf
      refine lv_aload_n hx hb dX12_feedsIn_52 rfl (lv_at hl 1 rfl) ?_
      refine lv_bipush (v := -2) hx hb dX12_feedsIn_53 (by decide) ?_
      obtain ⟨x2, hc, hf⟩ := bd_go hf
      refine xI_V C G (c_M_good_m_N hc) mX12_good kX12_49 (wN_at0) rfl ⟨Nat.le_of_ble_eq_true rfl, Nat.le_of_ble_eq_true rfl⟩ rfl hl.1 rfl (Nat.le_of_ble_eq_true rfl) ⟨Nat.le_refl _, Nat.le_refl _⟩ dX12_feedsIn_55 (fun hz H locs G => ?_)
      obtain rfl := Option.some.inj hf
      exact xI_ret C G rfl dX12_feedsIn_58
    · have hf := it_f h hf
      refine lv_aload_n hx hb dX12_feedsIn_27 rfl (lv_at hl 1 rfl) ?_
      refine lv_iload_n hx hb dX12_feedsIn_28 rfl (lv_at hl 0 rfl) ?_
      exact nomatch hf
  · have hf := it_t h hf
    refine lv_aload_n hx hb dX12_feedsIn_13 rfl (lv_at hl 0 rfl) ?_
    refine lv_iconst (v := 1) hx hb dX12_feedsIn_14 (by decide) ?_
    obtain ⟨x3, hc, hf⟩ := bd_go hf
    refine xI_V C G (c_M_refused_m_N hc) mX12_refused kX12_45 (wN_at0) rfl ⟨Nat.le_of_ble_eq_true rfl, Nat.le_of_ble_eq_true rfl⟩ rfl hl.1 rfl (Nat.le_of_ble_eq_true rfl) ⟨Nat.le_refl _, Nat.le_refl _⟩ dX12_feedsIn_15 (fun hz H locs G => ?_)
    obtain rfl := Option.some.inj hf
    exact xI_ret C G rfl dX12_feedsIn_18
