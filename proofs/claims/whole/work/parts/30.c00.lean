set_option maxHeartbeats 4000000 in
set_option maxRecDepth 100000 in
theorem w_M_feed_m_M_L23 {p : Program} {l : Launch} {e : Env} {s : State} {m : MethodId} {args : Array Value} {below : List Frame} {meth : Method} {c : Code} {A : Nat → Prop} {E : xE} {Q : State → Prop} {ad : Nat → Nat} {m_thrown m_trouble m_where m_size m_spot m_sort m_place m_number m_fault m_wrongAt m_acts m_images m_matchNow m_slopsNow m_matchesNow m_fedBest m_slopsBest m_sawBest m_leastNow m_stableNow m_fitsNow m_someNow m_everyNow m_askLeft tb_seats tb_slack tb_saw tb_quarrel tb_people tb_pairs tb_forks tb_unsures tb_trieds tb_fed : Int32} {m_rv : Value} {m_word : Int64} {m_v m_x m_past m_kept m_slopped m_seatBest m_otherIn tb_seat tb_one tb_other tb_years tb_kind tb_unsure tb_may tb_tried : Nat → Int32} {tb_name : Nat → Int64} {l1 : Int32} {l2 : Int32} {l3 : Int32} {l4 : Int32} {l5 : Int32} {o : (Nat → Int32) × Int32} (C : xC p s m args meth c cX12_feed 8 RX12 E A (some .int)) (J : ∀ (H : Heap) (locs : List Loc) (ls : Array Slot), xG s E A (wM E ad m_thrown m_trouble m_where m_rv o.1 o.2 m_size m_spot m_sort m_place m_number m_fault m_wrongAt m_word m_v m_x m_past m_kept m_acts m_images m_matchNow m_slopsNow m_matchesNow m_slopped m_seatBest m_fedBest m_slopsBest m_sawBest m_leastNow m_stableNow m_fitsNow m_someNow m_everyNow m_otherIn m_askLeft tb_seats tb_slack tb_saw tb_quarrel tb_people tb_pairs tb_forks tb_unsures tb_trieds tb_fed tb_seat tb_one tb_other tb_years tb_kind tb_unsure tb_may tb_tried tb_name) H locs → lv_has ls 8 [(0, .ref (ad 0))] → W p l e (xR 0 0) s m args below meth c H locs 0 0 Q (F0 m 117 ls [])) :
    ∀ (n : Nat) (l6 : Int32) (m_tape : Nat → Int32) (m_taped : Int32) (H : Heap) (locs : List Loc) (ls : Array Slot), xG s E A (wM E ad m_thrown m_trouble m_where m_rv m_tape m_taped m_size m_spot m_sort m_place m_number m_fault m_wrongAt m_word m_v m_x m_past m_kept m_acts m_images m_matchNow m_slopsNow m_matchesNow m_slopped m_seatBest m_fedBest m_slopsBest m_sawBest m_leastNow m_stableNow m_fitsNow m_someNow m_everyNow m_otherIn m_askLeft tb_seats tb_slack tb_saw tb_quarrel tb_people tb_pairs tb_forks tb_unsures tb_trieds tb_fed tb_seat tb_one tb_other tb_years tb_kind tb_unsure tb_may tb_tried tb_name) H locs → lv_has ls 8 [(0, .ref (ad 0)), (1, .int l1), (2, .int l2), (3, .int l3), (4, .int l4), (5, .int l5), (6, .int l6)] → f_M_feed_L23 l1 l2 l3 l4 l5 n l6 m_tape m_taped = some o → W p l e (xR 0 0) s m args below meth c H locs 0 0 Q (F0 m 23 ls []) := by
  have hx := C.1
  have hb := C.2.1
  intro n
  induction n with
  | zero =>
    intro l6 m_tape m_taped H locs ls G hl hf
    exact nomatch (show (none : Option ((Nat → Int32) × Int32)) = some o from hf)
  | succ n ih =>
    intro l6 m_tape m_taped H locs ls G hl hf
    rw [f_M_feed_L23] at hf
    refine lv_iload hx hb dX12_feed_23 (lv_at hl 6 rfl) ?_
    refine lv_bipush (v := 20) hx hb dX12_feed_25 (by decide) ?_
    refine lv_icmp_ge (tgt := 117) hx hb dX12_feed_27 (by decide) (fun h => ?_) (fun h => ?_)
    · have hf := it_t h hf
      obtain rfl := Option.some.inj hf
      exact J _ _ _ G (lv_sub hl [0] rfl)
    · have hf := it_f h hf
      refine lv_iload hx hb dX12_feed_30 (lv_at hl 6 rfl) ?_
      refine lv_iconst (v := 4) hx hb dX12_feed_32 (by decide) ?_
      obtain ⟨x1, hrx1, hf⟩ := bd_go hf
      have Jx1 : ∀ (H : Heap) (locs : List Loc) (ls : Array Slot), xG s E A (wM E ad m_thrown m_trouble m_where m_rv m_tape m_taped m_size m_spot m_sort m_place m_number m_fault m_wrongAt m_word m_v m_x m_past m_kept m_acts m_images m_matchNow m_slopsNow m_matchesNow m_slopped m_seatBest m_fedBest m_slopsBest m_sawBest m_leastNow m_stableNow m_fitsNow m_someNow m_everyNow m_otherIn m_askLeft tb_seats tb_slack tb_saw tb_quarrel tb_people tb_pairs tb_forks tb_unsures tb_trieds tb_fed tb_seat tb_one tb_other tb_years tb_kind tb_unsure tb_may tb_tried tb_name) H locs → lv_has ls 8 [(0, .ref (ad 0)), (1, .int l1), (2, .int l2), (3, .int l3), (4, .int l4), (5, .int l5), (6, .int l6)] → W p l e (xR 0 0) s m args below meth c H locs 0 0 Q (F0 m 76 ls [.int x1]) := by
        intro H locs ls G hl
        refine lv_istore (lv' := [(7, .int x1), (0, .ref (ad 0)), (1, .int l1), (2, .int l2), (3, .int l3), (4, .int l4), (5, .int l5), (6, .int l6)]) hx hb dX12_feed_76 hl (by decide) rfl (fun ls hl => ?_)
        refine lv_aload_n hx hb dX12_feed_78 rfl (lv_at hl 1 rfl) ?_
        refine x_get C G fX12_13 (wM_at0) rfl dX12_feed_79 ?_
        refine lv_aload_n hx hb dX12_feed_82 rfl (lv_at hl 1 rfl) ?_
        refine x_get C G fX12_291.g (wM_at0) rfl dX12_feed_83 ?_
        refine lv_iload hx hb dX12_feed_86 (lv_at hl 0 rfl) ?_
        refine lv_bipush (v := 24) hx hb dX12_feed_88 (by decide) ?_
        refine lv_bipush (v := 8) hx hb dX12_feed_90 (by decide) ?_
        refine lv_iload hx hb dX12_feed_92 (lv_at hl 7 rfl) ?_
        refine lv_iconst (v := 4) hx hb dX12_feed_94 (by decide) ?_
        refine lv_irem hx hb dX12_feed_95 (by decide) ?_
        refine lv_imul hx hb dX12_feed_96 ?_
        refine lv_isub hx hb dX12_feed_97 ?_
        refine lv_ishr hx hb dX12_feed_98 ?_
        refine lv_i2b hx hb dX12_feed_99 rfl ?_
        have hi := ck_in hf
        have hf := ck_go hf
        refine x_bast (ws' := (wM E ad m_thrown m_trouble m_where m_rv (upd m_tape m_taped.toNatClampNeg (vp_nar .byte ((x1 >>> (((24 : Int32) - ((8 : Int32) * (l6 - l6 / (4 : Int32) * (4 : Int32)))) &&& 31)).toInt8.toInt32))) m_taped m_size m_spot m_sort m_place m_number m_fault m_wrongAt m_word m_v m_x m_past m_kept m_acts m_images m_matchNow m_slopsNow m_matchesNow m_slopped m_seatBest m_fedBest m_slopsBest m_sawBest m_leastNow m_stableNow m_fitsNow m_someNow m_everyNow m_otherIn m_askLeft tb_seats tb_slack tb_saw tb_quarrel tb_people tb_pairs tb_forks tb_unsures tb_trieds tb_fed tb_seat tb_one tb_other tb_years tb_kind tb_unsure tb_may tb_tried tb_name)) C G (wM_at1) hi wM_set_m_tape dX12_feed_100 (fun H locs G => ?_)
        refine lv_aload_n hx hb dX12_feed_101 rfl (lv_at hl 1 rfl) ?_
        refine lv_dup hx hb dX12_feed_102 rfl ?_
        refine x_get C G fX12_291.g (wM_at0) rfl dX12_feed_103 ?_
        refine lv_iconst (v := 1) hx hb dX12_feed_106 (by decide) ?_
        refine lv_iadd hx hb dX12_feed_107 ?_
        refine lv_topi (fun x2 ex2 => ?_)
        have hf := lt_go ex2 hf
        refine x_put (ws' := (wM E ad m_thrown m_trouble m_where m_rv (upd m_tape m_taped.toNatClampNeg (vp_nar .byte ((x1 >>> (((24 : Int32) - ((8 : Int32) * (l6 - l6 / (4 : Int32) * (4 : Int32)))) &&& 31)).toInt8.toInt32))) x2 m_size m_spot m_sort m_place m_number m_fault m_wrongAt m_word m_v m_x m_past m_kept m_acts m_images m_matchNow m_slopsNow m_matchesNow m_slopped m_seatBest m_fedBest m_slopsBest m_sawBest m_leastNow m_stableNow m_fitsNow m_someNow m_everyNow m_otherIn m_askLeft tb_seats tb_slack tb_saw tb_quarrel tb_people tb_pairs tb_forks tb_unsures tb_trieds tb_fed tb_seat tb_one tb_other tb_years tb_kind tb_unsure tb_may tb_tried tb_name)) C G fX12_291 (wM_at0) rfl rfl (Nat.le_of_ble_eq_true rfl) wM_set_m_taped dX12_feed_108 (fun H locs G => ?_)
        obtain ⟨x3, ex3⟩ : ∃ z : Int32, z = l6 + (1 : Int32) := ⟨_, rfl⟩
        have hf := lt_go ex3 hf
        refine lv_iinc (v := x3) (lv' := [(6, .int x3), (7, .int x1), (0, .ref (ad 0)), (1, .int l1), (2, .int l2), (3, .int l3), (4, .int l4), (5, .int l5)]) hx hb dX12_feed_111 hl (k := 7) rfl (by rw [ex3]; rfl) (by decide) rfl (fun ls hl => ?_)
        refine lv_goto (tgt := 23) hx hb dX12_feed_114 (by decide) ?_
        exact ih x3 (upd m_tape m_taped.toNatClampNeg (vp_nar .byte ((x1 >>> (((24 : Int32) - ((8 : Int32) * (l6 - l6 / (4 : Int32) * (4 : Int32)))) &&& 31)).toInt8.toInt32))) x2 _ _ _ G (lv_sub hl [2, 3, 4, 5, 6, 7, 0] rfl) hf
      have hf := hrx1
      refine lv_icmp_ge (tgt := 40) hx hb dX12_feed_33 (by decide) (fun h => ?_) (fun h => ?_)
      · have hf := it_t h hf
        refine lv_iload hx hb dX12_feed_40 (lv_at hl 6 rfl) ?_
        refine lv_bipush (v := 8) hx hb dX12_feed_42 (by decide) ?_
        refine lv_icmp_ge (tgt := 51) hx hb dX12_feed_44 (by decide) (fun h => ?_) (fun h => ?_)
        · have hf := it_t h hf
          refine lv_iload hx hb dX12_feed_51 (lv_at hl 6 rfl) ?_
          refine lv_bipush (v := 12) hx hb dX12_feed_53 (by decide) ?_
          refine lv_icmp_ge (tgt := 62) hx hb dX12_feed_55 (by decide) (fun h => ?_) (fun h => ?_)
          · have hf := it_t h hf
            refine lv_iload hx hb dX12_feed_62 (lv_at hl 6 rfl) ?_
            refine lv_bipush (v := 16) hx hb dX12_feed_64 (by decide) ?_
            refine lv_icmp_ge (tgt := 74) hx hb dX12_feed_66 (by decide) (fun h => ?_) (fun h => ?_)
            · have hf := it_t h hf
              refine lv_iload hx hb dX12_feed_74 (lv_at hl 5 rfl) ?_
              obtain rfl := Option.some.inj hf
              exact Jx1 _ _ _ G (lv_sub hl [0, 1, 2, 3, 4, 5, 6] rfl)
            · have hf := it_f h hf
              refine lv_iload hx hb dX12_feed_69 (lv_at hl 4 rfl) ?_
              refine lv_goto (tgt := 76) hx hb dX12_feed_71 (by decide) ?_
              obtain rfl := Option.some.inj hf
              exact Jx1 _ _ _ G (lv_sub hl [0, 1, 2, 3, 4, 5, 6] rfl)
          · have hf := it_f h hf
            refine lv_iload_n hx hb dX12_feed_58 rfl (lv_at hl 3 rfl) ?_
            refine lv_goto (tgt := 76) hx hb dX12_feed_59 (by decide) ?_
            obtain rfl := Option.some.inj hf
            exact Jx1 _ _ _ G (lv_sub hl [0, 1, 2, 3, 4, 5, 6] rfl)
        · have hf := it_f h hf
          refine lv_iload_n hx hb dX12_feed_47 rfl (lv_at hl 2 rfl) ?_
          refine lv_goto (tgt := 76) hx hb dX12_feed_48 (by decide) ?_
          obtain rfl := Option.some.inj hf
          exact Jx1 _ _ _ G (lv_sub hl [0, 1, 2, 3, 4, 5, 6] rfl)
      · have hf := it_f h hf
        refine lv_iload_n hx hb dX12_feed_36 rfl (lv_at hl 1 rfl) ?_
        refine lv_goto (tgt := 76) hx hb dX12_feed_37 (by decide) ?_
        obtain rfl := Option.some.inj hf
        exact Jx1 _ _ _ G (lv_sub hl [0, 1, 2, 3, 4, 5, 6] rfl)
set_option maxHeartbeats 4000000 in
set_option maxRecDepth 100000 in
theorem c_M_feed_m_M {l : Launch} {E : xE} {ad : Nat → Nat} {m_thrown m_trouble m_where m_taped m_size m_spot m_sort m_place m_number m_fault m_wrongAt m_acts m_images m_matchNow m_slopsNow m_matchesNow m_fedBest m_slopsBest m_sawBest m_leastNow m_stableNow m_fitsNow m_someNow m_everyNow m_askLeft tb_seats tb_slack tb_saw tb_quarrel tb_people tb_pairs tb_forks tb_unsures tb_trieds tb_fed : Int32} {m_rv : Value} {m_tape m_v m_x m_past m_kept m_slopped m_seatBest m_otherIn tb_seat tb_one tb_other tb_years tb_kind tb_unsure tb_may tb_tried : Nat → Int32} {m_word : Int64} {tb_name : Nat → Int64} {l1 : Int32} {l2 : Int32} {l3 : Int32} {l4 : Int32} {l5 : Int32} {R0 : Int32 × Int32 × (Nat → Int32) × Int32} (hf : f_M_feed l1 l2 l3 l4 l5 m_tape m_taped = some R0) : xI l E yX12_feed cX12_feed 8 (some .int) 0 0 [.ref (ad 0), .int l1, .int l2, .int l3, .int l4, .int l5] (wM E ad m_thrown m_trouble m_where m_rv m_tape m_taped m_size m_spot m_sort m_place m_number m_fault m_wrongAt m_word m_v m_x m_past m_kept m_acts m_images m_matchNow m_slopsNow m_matchesNow m_slopped m_seatBest m_fedBest m_slopsBest m_sawBest m_leastNow m_stableNow m_fitsNow m_someNow m_everyNow m_otherIn m_askLeft tb_seats tb_slack tb_saw tb_quarrel tb_people tb_pairs tb_forks tb_unsures tb_trieds tb_fed tb_seat tb_one tb_other tb_years tb_kind tb_unsure tb_may tb_tried tb_name) (wM E ad R0.2.1 m_trouble m_where m_rv R0.2.2.1 R0.2.2.2 m_size m_spot m_sort m_place m_number m_fault m_wrongAt m_word m_v m_x m_past m_kept m_acts m_images m_matchNow m_slopsNow m_matchesNow m_slopped m_seatBest m_fedBest m_slopsBest m_sawBest m_leastNow m_stableNow m_fitsNow m_someNow m_everyNow m_otherIn m_askLeft tb_seats tb_slack tb_saw tb_quarrel tb_people tb_pairs tb_forks tb_unsures tb_trieds tb_fed tb_seat tb_one tb_other tb_years tb_kind tb_unsure tb_may tb_tried tb_name) R0.1 := by
  refine xI_of (by decide) (Nat.le_of_ble_eq_true rfl) (fun p e s m args below meth c A C ls hl G => ?_)
  have hx := C.1
  have hb := C.2.1
  have hl : lv_has ls 8 [(0, .ref (ad 0)), (1, .int l1), (2, .int l2), (3, .int l3), (4, .int l4), (5, .int l5)] := hl
  unfold f_M_feed at hf
  refine lv_aload_n hx hb dX12_feed_0 rfl (lv_at hl 0 rfl) ?_
  refine lv_iconst (v := 0) hx hb dX12_feed_1 (by decide) ?_
  refine x_put (ws' := (wM E ad (0 : Int32) m_trouble m_where m_rv m_tape m_taped m_size m_spot m_sort m_place m_number m_fault m_wrongAt m_word m_v m_x m_past m_kept m_acts m_images m_matchNow m_slopsNow m_matchesNow m_slopped m_seatBest m_fedBest m_slopsBest m_sawBest m_leastNow m_stableNow m_fitsNow m_someNow m_everyNow m_otherIn m_askLeft tb_seats tb_slack tb_saw tb_quarrel tb_people tb_pairs tb_forks tb_unsures tb_trieds tb_fed tb_seat tb_one tb_other tb_years tb_kind tb_unsure tb_may tb_tried tb_name)) C G fX12_39 (wM_at0) rfl rfl (Nat.le_of_ble_eq_true rfl) wM_set_m_thrown dX12_feed_2 (fun H locs G => ?_)
  refine lv_aload_n hx hb dX12_feed_5 rfl (lv_at hl 0 rfl) ?_
  refine x_get C G fX12_291.g (wM_at0) rfl dX12_feed_6 ?_
  refine lv_bipush (v := 20) hx hb dX12_feed_9 (by decide) ?_
  refine lv_iadd hx hb dX12_feed_11 ?_
  refine lv_sipush (v := 800) hx hb dX12_feed_12 (by decide) ?_
  refine lv_icmp_le (tgt := 20) hx hb dX12_feed_15 (by decide) (fun h => ?_) (fun h => ?_)
  · have hf := it_t h hf
    refine lv_iconst (v := 0) hx hb dX12_feed_20 (by decide) ?_
    refine lv_istore (lv' := [(6, .int (0 : Int32)), (0, .ref (ad 0)), (1, .int l1), (2, .int l2), (3, .int l3), (4, .int l4), (5, .int l5)]) hx hb dX12_feed_21 hl (by decide) rfl (fun ls hl => ?_)
    obtain ⟨x4, hr, hf⟩ := bd_go hf
    have Jx4 : ∀ (H : Heap) (locs : List Loc) (ls : Array Slot), xG s E A (wM E ad (0 : Int32) m_trouble m_where m_rv x4.1 x4.2 m_size m_spot m_sort m_place m_number m_fault m_wrongAt m_word m_v m_x m_past m_kept m_acts m_images m_matchNow m_slopsNow m_matchesNow m_slopped m_seatBest m_fedBest m_slopsBest m_sawBest m_leastNow m_stableNow m_fitsNow m_someNow m_everyNow m_otherIn m_askLeft tb_seats tb_slack tb_saw tb_quarrel tb_people tb_pairs tb_forks tb_unsures tb_trieds tb_fed tb_seat tb_one tb_other tb_years tb_kind tb_unsure tb_may tb_tried tb_name) H locs → lv_has ls 8 [(0, .ref (ad 0))] → W p l e (xR 0 0) s m args below meth c H locs 0 0 (MQ below (xqI E A (wM E ad R0.2.1 m_trouble m_where m_rv R0.2.2.1 R0.2.2.2 m_size m_spot m_sort m_place m_number m_fault m_wrongAt m_word m_v m_x m_past m_kept m_acts m_images m_matchNow m_slopsNow m_matchesNow m_slopped m_seatBest m_fedBest m_slopsBest m_sawBest m_leastNow m_stableNow m_fitsNow m_someNow m_everyNow m_otherIn m_askLeft tb_seats tb_slack tb_saw tb_quarrel tb_people tb_pairs tb_forks tb_unsures tb_trieds tb_fed tb_seat tb_one tb_other tb_years tb_kind tb_unsure tb_may tb_tried tb_name) (some .int) R0.1) args s 0 0 A) (F0 m 117 ls []) := by
      intro H locs ls G hl
      refine lv_aload_n hx hb dX12_feed_117 rfl (lv_at hl 0 rfl) ?_
      refine x_get C G fX12_291.g (wM_at0) rfl dX12_feed_118 ?_
      obtain rfl := Option.some.inj hf
      exact xI_ret C G rfl dX12_feed_121
    exact w_M_feed_m_M_L23 C Jx4 fu _ _ _ _ _ _ G (lv_sub hl [1, 2, 3, 4, 5, 6, 0] rfl) hr
  · have hf := it_f h hf
    refine lv_iconst (v := -1) hx hb dX12_feed_18 (by decide) ?_
    obtain rfl := Option.some.inj hf
    exact xI_ret C G rfl dX12_feed_19
set_option maxHeartbeats 4000000 in
set_option maxRecDepth 100000 in
theorem c_M_fault_m_M {l : Launch} {E : xE} {ad : Nat → Nat} {m_thrown m_trouble m_where m_taped m_size m_spot m_sort m_place m_number m_fault m_wrongAt m_acts m_images m_matchNow m_slopsNow m_matchesNow m_fedBest m_slopsBest m_sawBest m_leastNow m_stableNow m_fitsNow m_someNow m_everyNow m_askLeft tb_seats tb_slack tb_saw tb_quarrel tb_people tb_pairs tb_forks tb_unsures tb_trieds tb_fed : Int32} {m_rv : Value} {m_tape m_v m_x m_past m_kept m_slopped m_seatBest m_otherIn tb_seat tb_one tb_other tb_years tb_kind tb_unsure tb_may tb_tried : Nat → Int32} {m_word : Int64} {tb_name : Nat → Int64} {R0 : Int32 × Int32} (hf : f_M_fault m_fault = some R0) : xI l E yX12_fault cX12_fault 1 (some .int) 0 0 [.ref (ad 0)] (wM E ad m_thrown m_trouble m_where m_rv m_tape m_taped m_size m_spot m_sort m_place m_number m_fault m_wrongAt m_word m_v m_x m_past m_kept m_acts m_images m_matchNow m_slopsNow m_matchesNow m_slopped m_seatBest m_fedBest m_slopsBest m_sawBest m_leastNow m_stableNow m_fitsNow m_someNow m_everyNow m_otherIn m_askLeft tb_seats tb_slack tb_saw tb_quarrel tb_people tb_pairs tb_forks tb_unsures tb_trieds tb_fed tb_seat tb_one tb_other tb_years tb_kind tb_unsure tb_may tb_tried tb_name) (wM E ad R0.2 m_trouble m_where m_rv m_tape m_taped m_size m_spot m_sort m_place m_number m_fault m_wrongAt m_word m_v m_x m_past m_kept m_acts m_images m_matchNow m_slopsNow m_matchesNow m_slopped m_seatBest m_fedBest m_slopsBest m_sawBest m_leastNow m_stableNow m_fitsNow m_someNow m_everyNow m_otherIn m_askLeft tb_seats tb_slack tb_saw tb_quarrel tb_people tb_pairs tb_forks tb_unsures tb_trieds tb_fed tb_seat tb_one tb_other tb_years tb_kind tb_unsure tb_may tb_tried tb_name) R0.1 := by
  refine xI_of (by decide) (Nat.le_of_ble_eq_true rfl) (fun p e s m args below meth c A C ls hl G => ?_)
  have hx := C.1
  have hb := C.2.1
  have hl : lv_has ls 1 [(0, .ref (ad 0))] := hl
  unfold f_M_fault at hf
  refine lv_aload_n hx hb dX12_fault_0 rfl (lv_at hl 0 rfl) ?_
  refine lv_iconst (v := 0) hx hb dX12_fault_1 (by decide) ?_
  refine x_put (ws' := (wM E ad (0 : Int32) m_trouble m_where m_rv m_tape m_taped m_size m_spot m_sort m_place m_number m_fault m_wrongAt m_word m_v m_x m_past m_kept m_acts m_images m_matchNow m_slopsNow m_matchesNow m_slopped m_seatBest m_fedBest m_slopsBest m_sawBest m_leastNow m_stableNow m_fitsNow m_someNow m_everyNow m_otherIn m_askLeft tb_seats tb_slack tb_saw tb_quarrel tb_people tb_pairs tb_forks tb_unsures tb_trieds tb_fed tb_seat tb_one tb_other tb_years tb_kind tb_unsure tb_may tb_tried tb_name)) C G fX12_39 (wM_at0) rfl rfl (Nat.le_of_ble_eq_true rfl) wM_set_m_thrown dX12_fault_2 (fun H locs G => ?_)
  refine lv_aload_n hx hb dX12_fault_5 rfl (lv_at hl 0 rfl) ?_
  refine x_get C G fX12_97.g (wM_at0) rfl dX12_fault_6 ?_
  obtain rfl := Option.some.inj hf
  exact xI_ret C G rfl dX12_fault_9
set_option maxHeartbeats 4000000 in
set_option maxRecDepth 100000 in
theorem c_M_where_m_M {l : Launch} {E : xE} {ad : Nat → Nat} {m_thrown m_trouble m_where m_taped m_size m_spot m_sort m_place m_number m_fault m_wrongAt m_acts m_images m_matchNow m_slopsNow m_matchesNow m_fedBest m_slopsBest m_sawBest m_leastNow m_stableNow m_fitsNow m_someNow m_everyNow m_askLeft tb_seats tb_slack tb_saw tb_quarrel tb_people tb_pairs tb_forks tb_unsures tb_trieds tb_fed : Int32} {m_rv : Value} {m_tape m_v m_x m_past m_kept m_slopped m_seatBest m_otherIn tb_seat tb_one tb_other tb_years tb_kind tb_unsure tb_may tb_tried : Nat → Int32} {m_word : Int64} {tb_name : Nat → Int64} {R0 : Int32 × Int32} (hf : f_M_where m_where = some R0) : xI l E yX12_where cX12_where 1 (some .int) 0 0 [.ref (ad 0)] (wM E ad m_thrown m_trouble m_where m_rv m_tape m_taped m_size m_spot m_sort m_place m_number m_fault m_wrongAt m_word m_v m_x m_past m_kept m_acts m_images m_matchNow m_slopsNow m_matchesNow m_slopped m_seatBest m_fedBest m_slopsBest m_sawBest m_leastNow m_stableNow m_fitsNow m_someNow m_everyNow m_otherIn m_askLeft tb_seats tb_slack tb_saw tb_quarrel tb_people tb_pairs tb_forks tb_unsures tb_trieds tb_fed tb_seat tb_one tb_other tb_years tb_kind tb_unsure tb_may tb_tried tb_name) (wM E ad R0.2 m_trouble m_where m_rv m_tape m_taped m_size m_spot m_sort m_place m_number m_fault m_wrongAt m_word m_v m_x m_past m_kept m_acts m_images m_matchNow m_slopsNow m_matchesNow m_slopped m_seatBest m_fedBest m_slopsBest m_sawBest m_leastNow m_stableNow m_fitsNow m_someNow m_everyNow m_otherIn m_askLeft tb_seats tb_slack tb_saw tb_quarrel tb_people tb_pairs tb_forks tb_unsures tb_trieds tb_fed tb_seat tb_one tb_other tb_years tb_kind tb_unsure tb_may tb_tried tb_name) R0.1 := by
  refine xI_of (by decide) (Nat.le_of_ble_eq_true rfl) (fun p e s m args below meth c A C ls hl G => ?_)
  have hx := C.1
  have hb := C.2.1
  have hl : lv_has ls 1 [(0, .ref (ad 0))] := hl
  unfold f_M_where at hf
  refine lv_aload_n hx hb dX12_where_0 rfl (lv_at hl 0 rfl) ?_
  refine lv_iconst (v := 0) hx hb dX12_where_1 (by decide) ?_
  refine x_put (ws' := (wM E ad (0 : Int32) m_trouble m_where m_rv m_tape m_taped m_size m_spot m_sort m_place m_number m_fault m_wrongAt m_word m_v m_x m_past m_kept m_acts m_images m_matchNow m_slopsNow m_matchesNow m_slopped m_seatBest m_fedBest m_slopsBest m_sawBest m_leastNow m_stableNow m_fitsNow m_someNow m_everyNow m_otherIn m_askLeft tb_seats tb_slack tb_saw tb_quarrel tb_people tb_pairs tb_forks tb_unsures tb_trieds tb_fed tb_seat tb_one tb_other tb_years tb_kind tb_unsure tb_may tb_tried tb_name)) C G fX12_39 (wM_at0) rfl rfl (Nat.le_of_ble_eq_true rfl) wM_set_m_thrown dX12_where_2 (fun H locs G => ?_)
  refine lv_aload_n hx hb dX12_where_5 rfl (lv_at hl 0 rfl) ?_
  refine x_get C G fX12_9.g (wM_at0) rfl dX12_where_6 ?_
  obtain rfl := Option.some.inj hf
  exact xI_ret C G rfl dX12_where_9
set_option maxHeartbeats 4000000 in
set_option maxRecDepth 100000 in
theorem c_M_isPerson_m_M {l : Launch} {E : xE} {ad : Nat → Nat} {m_thrown m_trouble m_where m_taped m_size m_spot m_sort m_place m_number m_fault m_wrongAt m_acts m_images m_matchNow m_slopsNow m_matchesNow m_fedBest m_slopsBest m_sawBest m_leastNow m_stableNow m_fitsNow m_someNow m_everyNow m_askLeft tb_seats tb_slack tb_saw tb_quarrel tb_people tb_pairs tb_forks tb_unsures tb_trieds tb_fed : Int32} {m_rv : Value} {m_tape m_v m_x m_past m_kept m_slopped m_seatBest m_otherIn tb_seat tb_one tb_other tb_years tb_kind tb_unsure tb_may tb_tried : Nat → Int32} {m_word : Int64} {tb_name : Nat → Int64} {l1 : Int32} {R0 : Int32} (hf : f_M_isPerson l1 tb_people = some R0) : xI l E yX12_isPerson cX12_isPerson 2 (some .boolean) 0 0 [.ref (ad 0), .int l1] (wM E ad m_thrown m_trouble m_where m_rv m_tape m_taped m_size m_spot m_sort m_place m_number m_fault m_wrongAt m_word m_v m_x m_past m_kept m_acts m_images m_matchNow m_slopsNow m_matchesNow m_slopped m_seatBest m_fedBest m_slopsBest m_sawBest m_leastNow m_stableNow m_fitsNow m_someNow m_everyNow m_otherIn m_askLeft tb_seats tb_slack tb_saw tb_quarrel tb_people tb_pairs tb_forks tb_unsures tb_trieds tb_fed tb_seat tb_one tb_other tb_years tb_kind tb_unsure tb_may tb_tried tb_name) (wM E ad m_thrown m_trouble m_where m_rv m_tape m_taped m_size m_spot m_sort m_place m_number m_fault m_wrongAt m_word m_v m_x m_past m_kept m_acts m_images m_matchNow m_slopsNow m_matchesNow m_slopped m_seatBest m_fedBest m_slopsBest m_sawBest m_leastNow m_stableNow m_fitsNow m_someNow m_everyNow m_otherIn m_askLeft tb_seats tb_slack tb_saw tb_quarrel tb_people tb_pairs tb_forks tb_unsures tb_trieds tb_fed tb_seat tb_one tb_other tb_years tb_kind tb_unsure tb_may tb_tried tb_name) R0 := by
  refine xI_of (by decide) (Nat.le_of_ble_eq_true rfl) (fun p e s m args below meth c A C ls hl G => ?_)
  have hx := C.1
  have hb := C.2.1
  have hl : lv_has ls 2 [(0, .ref (ad 0)), (1, .int l1)] := hl
  unfold f_M_isPerson at hf
  refine lv_aload_n hx hb dX12_isPerson_0 rfl (lv_at hl 0 rfl) ?_
  refine x_get C G fX12_298.g (wM_at0) rfl dX12_isPerson_1 ?_
  refine lv_ifnull hx hb dX12_isPerson_4 ?_
  refine lv_iload_n hx hb dX12_isPerson_7 rfl (lv_at hl 1 rfl) ?_
  obtain ⟨b1, hr, hf⟩ := bd_go hf
  cases b1 with
  | true =>
    have hf := it_t rfl hf
    have J : ∀ (H : Heap) (locs : List Loc), xG s E A (wM E ad m_thrown m_trouble m_where m_rv m_tape m_taped m_size m_spot m_sort m_place m_number m_fault m_wrongAt m_word m_v m_x m_past m_kept m_acts m_images m_matchNow m_slopsNow m_matchesNow m_slopped m_seatBest m_fedBest m_slopsBest m_sawBest m_leastNow m_stableNow m_fitsNow m_someNow m_everyNow m_otherIn m_askLeft tb_seats tb_slack tb_saw tb_quarrel tb_people tb_pairs tb_forks tb_unsures tb_trieds tb_fed tb_seat tb_one tb_other tb_years tb_kind tb_unsure tb_may tb_tried tb_name) H locs → W p l e (xR 0 0) s m args below meth c H locs 0 0 (MQ below (xqI E A (wM E ad m_thrown m_trouble m_where m_rv m_tape m_taped m_size m_spot m_sort m_place m_number m_fault m_wrongAt m_word m_v m_x m_past m_kept m_acts m_images m_matchNow m_slopsNow m_matchesNow m_slopped m_seatBest m_fedBest m_slopsBest m_sawBest m_leastNow m_stableNow m_fitsNow m_someNow m_everyNow m_otherIn m_askLeft tb_seats tb_slack tb_saw tb_quarrel tb_people tb_pairs tb_forks tb_unsures tb_trieds tb_fed tb_seat tb_one tb_other tb_years tb_kind tb_unsure tb_may tb_tried tb_name) (some .boolean) R0) args s 0 0 A) (F0 m 26 ls []) := by
      intro H locs G
      refine lv_iconst (v := 0) hx hb dX12_isPerson_26 (by decide) ?_
      obtain rfl := Option.some.inj hf
      exact xI_ret (r := (0 : Int32)) C G rfl dX12_isPerson_27
    have hf := hr
    clear hr
    refine lv_if_lt (tgt := 26) hx hb dX12_isPerson_8 (by decide) (fun h => ?_) (fun h => ?_)
    · have hf := it_t h hf
      exact J _ _ G
    · have hf := it_f h hf
      refine lv_iload_n hx hb dX12_isPerson_11 rfl (lv_at hl 1 rfl) ?_
      refine lv_aload_n hx hb dX12_isPerson_12 rfl (lv_at hl 0 rfl) ?_
      refine x_get C G fX12_298.g (wM_at0) rfl dX12_isPerson_13 ?_
      refine x_get C G fX12_177.g (wM_at9) rfl dX12_isPerson_16 ?_
      refine lv_icmp_ge (tgt := 26) hx hb dX12_isPerson_19 (by decide) (fun h => ?_) (fun h => ?_)
      · have hf := it_t h hf
        exact J _ _ G
      · have hf := it_f h hf
        exact absurd (Option.some.inj hf) (by decide)
  | false =>
    have hf := it_f (by decide) hf
    have J : ∀ (H : Heap) (locs : List Loc), xG s E A (wM E ad m_thrown m_trouble m_where m_rv m_tape m_taped m_size m_spot m_sort m_place m_number m_fault m_wrongAt m_word m_v m_x m_past m_kept m_acts m_images m_matchNow m_slopsNow m_matchesNow m_slopped m_seatBest m_fedBest m_slopsBest m_sawBest m_leastNow m_stableNow m_fitsNow m_someNow m_everyNow m_otherIn m_askLeft tb_seats tb_slack tb_saw tb_quarrel tb_people tb_pairs tb_forks tb_unsures tb_trieds tb_fed tb_seat tb_one tb_other tb_years tb_kind tb_unsure tb_may tb_tried tb_name) H locs → W p l e (xR 0 0) s m args below meth c H locs 0 0 (MQ below (xqI E A (wM E ad m_thrown m_trouble m_where m_rv m_tape m_taped m_size m_spot m_sort m_place m_number m_fault m_wrongAt m_word m_v m_x m_past m_kept m_acts m_images m_matchNow m_slopsNow m_matchesNow m_slopped m_seatBest m_fedBest m_slopsBest m_sawBest m_leastNow m_stableNow m_fitsNow m_someNow m_everyNow m_otherIn m_askLeft tb_seats tb_slack tb_saw tb_quarrel tb_people tb_pairs tb_forks tb_unsures tb_trieds tb_fed tb_seat tb_one tb_other tb_years tb_kind tb_unsure tb_may tb_tried tb_name) (some .boolean) R0) args s 0 0 A) (F0 m 22 ls []) := by
      intro H locs G
      refine lv_iconst (v := 1) hx hb dX12_isPerson_22 (by decide) ?_
      refine lv_goto (tgt := 27) hx hb dX12_isPerson_23 (by decide) ?_
      obtain rfl := Option.some.inj hf
      exact xI_ret (r := (1 : Int32)) C G rfl dX12_isPerson_27
    have hf := hr
    clear hr
    refine lv_if_lt (tgt := 26) hx hb dX12_isPerson_8 (by decide) (fun h => ?_) (fun h => ?_)
    · have hf := it_t h hf
      exact absurd (Option.some.inj hf) (by decide)
    · have hf := it_f h hf
      refine lv_iload_n hx hb dX12_isPerson_11 rfl (lv_at hl 1 rfl) ?_
      refine lv_aload_n hx hb dX12_isPerson_12 rfl (lv_at hl 0 rfl) ?_
      refine x_get C G fX12_298.g (wM_at0) rfl dX12_isPerson_13 ?_
      refine x_get C G fX12_177.g (wM_at9) rfl dX12_isPerson_16 ?_
      refine lv_icmp_ge (tgt := 26) hx hb dX12_isPerson_19 (by decide) (fun h => ?_) (fun h => ?_)
      · have hf := it_t h hf
        exact absurd (Option.some.inj hf) (by decide)
      · have hf := it_f h hf
        exact J _ _ G
set_option maxHeartbeats 4000000 in
set_option maxRecDepth 100000 in
theorem c_M_refused_m_M {l : Launch} {E : xE} {ad : Nat → Nat} {m_thrown m_trouble m_where m_taped m_size m_spot m_sort m_place m_number m_fault m_wrongAt m_acts m_images m_matchNow m_slopsNow m_matchesNow m_fedBest m_slopsBest m_sawBest m_leastNow m_stableNow m_fitsNow m_someNow m_everyNow m_askLeft tb_seats tb_slack tb_saw tb_quarrel tb_people tb_pairs tb_forks tb_unsures tb_trieds tb_fed : Int32} {m_rv : Value} {m_tape m_v m_x m_past m_kept m_slopped m_seatBest m_otherIn tb_seat tb_one tb_other tb_years tb_kind tb_unsure tb_may tb_tried : Nat → Int32} {m_word : Int64} {tb_name : Nat → Int64} {l1 : Int32} {R0 : Int32 × Int32 × Int32} (hf : f_M_refused l1 = some R0) : xI l E yX12_refused cX12_refused 2 (some .int) 0 0 [.ref (ad 0), .int l1] (wM E ad m_thrown m_trouble m_where m_rv m_tape m_taped m_size m_spot m_sort m_place m_number m_fault m_wrongAt m_word m_v m_x m_past m_kept m_acts m_images m_matchNow m_slopsNow m_matchesNow m_slopped m_seatBest m_fedBest m_slopsBest m_sawBest m_leastNow m_stableNow m_fitsNow m_someNow m_everyNow m_otherIn m_askLeft tb_seats tb_slack tb_saw tb_quarrel tb_people tb_pairs tb_forks tb_unsures tb_trieds tb_fed tb_seat tb_one tb_other tb_years tb_kind tb_unsure tb_may tb_tried tb_name) (wM E ad m_thrown R0.2.1 R0.2.2 m_rv m_tape m_taped m_size m_spot m_sort m_place m_number m_fault m_wrongAt m_word m_v m_x m_past m_kept m_acts m_images m_matchNow m_slopsNow m_matchesNow m_slopped m_seatBest m_fedBest m_slopsBest m_sawBest m_leastNow m_stableNow m_fitsNow m_someNow m_everyNow m_otherIn m_askLeft tb_seats tb_slack tb_saw tb_quarrel tb_people tb_pairs tb_forks tb_unsures tb_trieds tb_fed tb_seat tb_one tb_other tb_years tb_kind tb_unsure tb_may tb_tried tb_name) R0.1 := by
  refine xI_of (by decide) (Nat.le_of_ble_eq_true rfl) (fun p e s m args below meth c A C ls hl G => ?_)
  have hx := C.1
  have hb := C.2.1
  have hl : lv_has ls 2 [(0, .ref (ad 0)), (1, .int l1)] := hl
  unfold f_M_refused at hf
  refine lv_aload_n hx hb dX12_refused_0 rfl (lv_at hl 0 rfl) ?_
  refine lv_iload_n hx hb dX12_refused_1 rfl (lv_at hl 1 rfl) ?_
  refine x_put (ws' := (wM E ad m_thrown l1 m_where m_rv m_tape m_taped m_size m_spot m_sort m_place m_number m_fault m_wrongAt m_word m_v m_x m_past m_kept m_acts m_images m_matchNow m_slopsNow m_matchesNow m_slopped m_seatBest m_fedBest m_slopsBest m_sawBest m_leastNow m_stableNow m_fitsNow m_someNow m_everyNow m_otherIn m_askLeft tb_seats tb_slack tb_saw tb_quarrel tb_people tb_pairs tb_forks tb_unsures tb_trieds tb_fed tb_seat tb_one tb_other tb_years tb_kind tb_unsure tb_may tb_tried tb_name)) C G fX12_42 (wM_at0) rfl rfl (Nat.le_of_ble_eq_true rfl) wM_set_m_trouble dX12_refused_2 (fun H locs G => ?_)
  refine lv_aload_n hx hb dX12_refused_5 rfl (lv_at hl 0 rfl) ?_
  refine lv_iconst (v := -1) hx hb dX12_refused_6 (by decide) ?_
  refine x_put (ws' := (wM E ad m_thrown l1 (-1 : Int32) m_rv m_tape m_taped m_size m_spot m_sort m_place m_number m_fault m_wrongAt m_word m_v m_x m_past m_kept m_acts m_images m_matchNow m_slopsNow m_matchesNow m_slopped m_seatBest m_fedBest m_slopsBest m_sawBest m_leastNow m_stableNow m_fitsNow m_someNow m_everyNow m_otherIn m_askLeft tb_seats tb_slack tb_saw tb_quarrel tb_people tb_pairs tb_forks tb_unsures tb_trieds tb_fed tb_seat tb_one tb_other tb_years tb_kind tb_unsure tb_may tb_tried tb_name)) C G fX12_9 (wM_at0) rfl rfl (Nat.le_of_ble_eq_true rfl) wM_set_m_where dX12_refused_7 (fun H locs G => ?_)
  refine lv_iconst (v := -1) hx hb dX12_refused_10 (by decide) ?_
  obtain rfl := Option.some.inj hf
  exact xI_ret C G rfl dX12_refused_11
set_option maxHeartbeats 4000000 in
set_option maxRecDepth 100000 in
theorem c_M_good_m_M {l : Launch} {E : xE} {ad : Nat → Nat} {m_thrown m_trouble m_where m_taped m_size m_spot m_sort m_place m_number m_fault m_wrongAt m_acts m_images m_matchNow m_slopsNow m_matchesNow m_fedBest m_slopsBest m_sawBest m_leastNow m_stableNow m_fitsNow m_someNow m_everyNow m_askLeft tb_seats tb_slack tb_saw tb_quarrel tb_people tb_pairs tb_forks tb_unsures tb_trieds tb_fed : Int32} {m_rv : Value} {m_tape m_v m_x m_past m_kept m_slopped m_seatBest m_otherIn tb_seat tb_one tb_other tb_years tb_kind tb_unsure tb_may tb_tried : Nat → Int32} {m_word : Int64} {tb_name : Nat → Int64} {l1 : Int32} {R0 : Int32 × Int32 × Int32} (hf : f_M_good l1 = some R0) : xI l E yX12_good cX12_good 2 (some .int) 0 0 [.ref (ad 0), .int l1] (wM E ad m_thrown m_trouble m_where m_rv m_tape m_taped m_size m_spot m_sort m_place m_number m_fault m_wrongAt m_word m_v m_x m_past m_kept m_acts m_images m_matchNow m_slopsNow m_matchesNow m_slopped m_seatBest m_fedBest m_slopsBest m_sawBest m_leastNow m_stableNow m_fitsNow m_someNow m_everyNow m_otherIn m_askLeft tb_seats tb_slack tb_saw tb_quarrel tb_people tb_pairs tb_forks tb_unsures tb_trieds tb_fed tb_seat tb_one tb_other tb_years tb_kind tb_unsure tb_may tb_tried tb_name) (wM E ad m_thrown R0.2.1 R0.2.2 m_rv m_tape m_taped m_size m_spot m_sort m_place m_number m_fault m_wrongAt m_word m_v m_x m_past m_kept m_acts m_images m_matchNow m_slopsNow m_matchesNow m_slopped m_seatBest m_fedBest m_slopsBest m_sawBest m_leastNow m_stableNow m_fitsNow m_someNow m_everyNow m_otherIn m_askLeft tb_seats tb_slack tb_saw tb_quarrel tb_people tb_pairs tb_forks tb_unsures tb_trieds tb_fed tb_seat tb_one tb_other tb_years tb_kind tb_unsure tb_may tb_tried tb_name) R0.1 := by
  refine xI_of (by decide) (Nat.le_of_ble_eq_true rfl) (fun p e s m args below meth c A C ls hl G => ?_)
  have hx := C.1
  have hb := C.2.1
  have hl : lv_has ls 2 [(0, .ref (ad 0)), (1, .int l1)] := hl
  unfold f_M_good at hf
  refine lv_aload_n hx hb dX12_good_0 rfl (lv_at hl 0 rfl) ?_
  refine lv_iconst (v := 0) hx hb dX12_good_1 (by decide) ?_
  refine x_put (ws' := (wM E ad m_thrown (0 : Int32) m_where m_rv m_tape m_taped m_size m_spot m_sort m_place m_number m_fault m_wrongAt m_word m_v m_x m_past m_kept m_acts m_images m_matchNow m_slopsNow m_matchesNow m_slopped m_seatBest m_fedBest m_slopsBest m_sawBest m_leastNow m_stableNow m_fitsNow m_someNow m_everyNow m_otherIn m_askLeft tb_seats tb_slack tb_saw tb_quarrel tb_people tb_pairs tb_forks tb_unsures tb_trieds tb_fed tb_seat tb_one tb_other tb_years tb_kind tb_unsure tb_may tb_tried tb_name)) C G fX12_42 (wM_at0) rfl rfl (Nat.le_of_ble_eq_true rfl) wM_set_m_trouble dX12_good_2 (fun H locs G => ?_)
  refine lv_aload_n hx hb dX12_good_5 rfl (lv_at hl 0 rfl) ?_
  refine lv_iconst (v := -1) hx hb dX12_good_6 (by decide) ?_
  refine x_put (ws' := (wM E ad m_thrown (0 : Int32) (-1 : Int32) m_rv m_tape m_taped m_size m_spot m_sort m_place m_number m_fault m_wrongAt m_word m_v m_x m_past m_kept m_acts m_images m_matchNow m_slopsNow m_matchesNow m_slopped m_seatBest m_fedBest m_slopsBest m_sawBest m_leastNow m_stableNow m_fitsNow m_someNow m_everyNow m_otherIn m_askLeft tb_seats tb_slack tb_saw tb_quarrel tb_people tb_pairs tb_forks tb_unsures tb_trieds tb_fed tb_seat tb_one tb_other tb_years tb_kind tb_unsure tb_may tb_tried tb_name)) C G fX12_9 (wM_at0) rfl rfl (Nat.le_of_ble_eq_true rfl) wM_set_m_where dX12_good_7 (fun H locs G => ?_)
  refine lv_iload_n hx hb dX12_good_10 rfl (lv_at hl 1 rfl) ?_
  obtain rfl := Option.some.inj hf
  exact xI_ret C G rfl dX12_good_11
set_option maxHeartbeats 4000000 in
set_option maxRecDepth 100000 in
theorem c_M_seat_m_M {l : Launch} {E : xE} {ad : Nat → Nat} {m_thrown m_trouble m_where m_taped m_size m_spot m_sort m_place m_number m_fault m_wrongAt m_acts m_images m_matchNow m_slopsNow m_matchesNow m_fedBest m_slopsBest m_sawBest m_leastNow m_stableNow m_fitsNow m_someNow m_everyNow m_askLeft tb_seats tb_slack tb_saw tb_quarrel tb_people tb_pairs tb_forks tb_unsures tb_trieds tb_fed : Int32} {m_rv : Value} {m_tape m_v m_x m_past m_kept m_slopped m_seatBest m_otherIn tb_seat tb_one tb_other tb_years tb_kind tb_unsure tb_may tb_tried : Nat → Int32} {m_word : Int64} {tb_name : Nat → Int64} {l1 : Int32} {R0 : Int32 × Int32 × Int32 × Int32} (hf : f_M_seat l1 m_v tb_people = some R0) : xI l E yX12_seat cX12_seat 2 (some .int) 1 21 [.ref (ad 0), .int l1] (wM E ad m_thrown m_trouble m_where m_rv m_tape m_taped m_size m_spot m_sort m_place m_number m_fault m_wrongAt m_word m_v m_x m_past m_kept m_acts m_images m_matchNow m_slopsNow m_matchesNow m_slopped m_seatBest m_fedBest m_slopsBest m_sawBest m_leastNow m_stableNow m_fitsNow m_someNow m_everyNow m_otherIn m_askLeft tb_seats tb_slack tb_saw tb_quarrel tb_people tb_pairs tb_forks tb_unsures tb_trieds tb_fed tb_seat tb_one tb_other tb_years tb_kind tb_unsure tb_may tb_tried tb_name) (wM E ad R0.2.1 R0.2.2.1 R0.2.2.2 m_rv m_tape m_taped m_size m_spot m_sort m_place m_number m_fault m_wrongAt m_word m_v m_x m_past m_kept m_acts m_images m_matchNow m_slopsNow m_matchesNow m_slopped m_seatBest m_fedBest m_slopsBest m_sawBest m_leastNow m_stableNow m_fitsNow m_someNow m_everyNow m_otherIn m_askLeft tb_seats tb_slack tb_saw tb_quarrel tb_people tb_pairs tb_forks tb_unsures tb_trieds tb_fed tb_seat tb_one tb_other tb_years tb_kind tb_unsure tb_may tb_tried tb_name) R0.1 := by
  refine xI_of (by decide) (Nat.le_of_ble_eq_true rfl) (fun p e s m args below meth c A C ls hl G => ?_)
  have hx := C.1
  have hb := C.2.1
  have hl : lv_has ls 2 [(0, .ref (ad 0)), (1, .int l1)] := hl
  unfold f_M_seat at hf
  refine lv_aload_n hx hb dX12_seat_0 rfl (lv_at hl 0 rfl) ?_
  refine lv_iconst (v := 0) hx hb dX12_seat_1 (by decide) ?_
  refine x_put (ws' := (wM E ad (0 : Int32) m_trouble m_where m_rv m_tape m_taped m_size m_spot m_sort m_place m_number m_fault m_wrongAt m_word m_v m_x m_past m_kept m_acts m_images m_matchNow m_slopsNow m_matchesNow m_slopped m_seatBest m_fedBest m_slopsBest m_sawBest m_leastNow m_stableNow m_fitsNow m_someNow m_everyNow m_otherIn m_askLeft tb_seats tb_slack tb_saw tb_quarrel tb_people tb_pairs tb_forks tb_unsures tb_trieds tb_fed tb_seat tb_one tb_other tb_years tb_kind tb_unsure tb_may tb_tried tb_name)) C G fX12_39 (wM_at0) rfl rfl (Nat.le_of_ble_eq_true rfl) wM_set_m_thrown dX12_seat_2 (fun H locs G => ?_)
  refine lv_aload_n hx hb dX12_seat_5 rfl (lv_at hl 0 rfl) ?_
  refine lv_iload_n hx hb dX12_seat_6 rfl (lv_at hl 1 rfl) ?_
  obtain ⟨x1, hc, hf⟩ := bd_go hf
  refine xI_V C G (c_M_isPerson_m_M hc) mX12_isPerson kX12_309 (wM_at0) rfl ⟨Nat.le_of_ble_eq_true rfl, Nat.le_of_ble_eq_true rfl⟩ rfl hl.1 rfl (Nat.le_of_ble_eq_true rfl) ⟨Nat.le_refl _, Nat.le_refl _⟩ dX12_seat_7 (fun hz1 H locs G => ?_)
  refine lv_if_eq (tgt := 26) hx hb dX12_seat_10 (by decide) (fun h => ?_) (fun h => ?_)
  · have hf := it_t h hf
    refine lv_aload_n hx hb dX12_seat_26 rfl (lv_at hl 0 rfl) ?_
    refine lv_iconst (v := 1) hx hb dX12_seat_27 (by decide) ?_
    obtain ⟨x2, hc, hf⟩ := bd_go hf
    refine xI_V C G (c_M_refused_m_M hc) mX12_refused kX12_45 (wM_at0) rfl ⟨Nat.le_of_ble_eq_true rfl, Nat.le_of_ble_eq_true rfl⟩ rfl hl.1 rfl (Nat.le_of_ble_eq_true rfl) ⟨Nat.le_refl _, Nat.le_refl _⟩ dX12_seat_28 (fun hz H locs G => ?_)
    obtain rfl := Option.some.inj hf
    exact xI_ret C G rfl dX12_seat_31
  · have hf := it_f h hf
    refine lv_aload_n hx hb dX12_seat_13 rfl (lv_at hl 0 rfl) ?_
    refine lv_aload_n hx hb dX12_seat_14 rfl (lv_at hl 0 rfl) ?_
    refine x_get C G fX12_17 (wM_at0) rfl dX12_seat_15 ?_
    refine lv_iload_n hx hb dX12_seat_18 rfl (lv_at hl 1 rfl) ?_
    have hi := ck_in hf
    have hf := ck_go hf
    refine x_iald C G (wM_at2) hi dX12_seat_19 ?_
    obtain ⟨x3, hc, hf⟩ := bd_go hf
    refine xI_V C G (c_M_good_m_M hc) mX12_good kX12_49 (wM_at0) rfl ⟨Nat.le_of_ble_eq_true rfl, Nat.le_of_ble_eq_true rfl⟩ rfl hl.1 rfl (Nat.le_of_ble_eq_true rfl) ⟨Nat.le_refl _, Nat.le_refl _⟩ dX12_seat_20 (fun hz H locs G => ?_)
    refine lv_goto (tgt := 31) hx hb dX12_seat_23 (by decide) ?_
    obtain rfl := Option.some.inj hf
    exact xI_ret C G rfl dX12_seat_31
set_option maxHeartbeats 4000000 in
set_option maxRecDepth 100000 in
theorem c_M_isPair_m_M {l : Launch} {E : xE} {ad : Nat → Nat} {m_thrown m_trouble m_where m_taped m_size m_spot m_sort m_place m_number m_fault m_wrongAt m_acts m_images m_matchNow m_slopsNow m_matchesNow m_fedBest m_slopsBest m_sawBest m_leastNow m_stableNow m_fitsNow m_someNow m_everyNow m_askLeft tb_seats tb_slack tb_saw tb_quarrel tb_people tb_pairs tb_forks tb_unsures tb_trieds tb_fed : Int32} {m_rv : Value} {m_tape m_v m_x m_past m_kept m_slopped m_seatBest m_otherIn tb_seat tb_one tb_other tb_years tb_kind tb_unsure tb_may tb_tried : Nat → Int32} {m_word : Int64} {tb_name : Nat → Int64} {l1 : Int32} {R0 : Int32} (hf : f_M_isPair l1 m_v = some R0) : xI l E yX12_isPair cX12_isPair 2 (some .boolean) 0 0 [.ref (ad 0), .int l1] (wM E ad m_thrown m_trouble m_where m_rv m_tape m_taped m_size m_spot m_sort m_place m_number m_fault m_wrongAt m_word m_v m_x m_past m_kept m_acts m_images m_matchNow m_slopsNow m_matchesNow m_slopped m_seatBest m_fedBest m_slopsBest m_sawBest m_leastNow m_stableNow m_fitsNow m_someNow m_everyNow m_otherIn m_askLeft tb_seats tb_slack tb_saw tb_quarrel tb_people tb_pairs tb_forks tb_unsures tb_trieds tb_fed tb_seat tb_one tb_other tb_years tb_kind tb_unsure tb_may tb_tried tb_name) (wM E ad m_thrown m_trouble m_where m_rv m_tape m_taped m_size m_spot m_sort m_place m_number m_fault m_wrongAt m_word m_v m_x m_past m_kept m_acts m_images m_matchNow m_slopsNow m_matchesNow m_slopped m_seatBest m_fedBest m_slopsBest m_sawBest m_leastNow m_stableNow m_fitsNow m_someNow m_everyNow m_otherIn m_askLeft tb_seats tb_slack tb_saw tb_quarrel tb_people tb_pairs tb_forks tb_unsures tb_trieds tb_fed tb_seat tb_one tb_other tb_years tb_kind tb_unsure tb_may tb_tried tb_name) R0 := by
  refine xI_of (by decide) (Nat.le_of_ble_eq_true rfl) (fun p e s m args below meth c A C ls hl G => ?_)
  have hx := C.1
  have hb := C.2.1
  have hl : lv_has ls 2 [(0, .ref (ad 0)), (1, .int l1)] := hl
  unfold f_M_isPair at hf
  refine lv_aload_n hx hb dX12_isPair_0 rfl (lv_at hl 0 rfl) ?_
  refine x_get C G fX12_298.g (wM_at0) rfl dX12_isPair_1 ?_
  refine lv_ifnull hx hb dX12_isPair_4 ?_
  refine lv_iload_n hx hb dX12_isPair_7 rfl (lv_at hl 1 rfl) ?_
  obtain ⟨b1, hr, hf⟩ := bd_go hf
  cases b1 with
  | true =>
    have hf := it_t rfl hf
    have J : ∀ (H : Heap) (locs : List Loc), xG s E A (wM E ad m_thrown m_trouble m_where m_rv m_tape m_taped m_size m_spot m_sort m_place m_number m_fault m_wrongAt m_word m_v m_x m_past m_kept m_acts m_images m_matchNow m_slopsNow m_matchesNow m_slopped m_seatBest m_fedBest m_slopsBest m_sawBest m_leastNow m_stableNow m_fitsNow m_someNow m_everyNow m_otherIn m_askLeft tb_seats tb_slack tb_saw tb_quarrel tb_people tb_pairs tb_forks tb_unsures tb_trieds tb_fed tb_seat tb_one tb_other tb_years tb_kind tb_unsure tb_may tb_tried tb_name) H locs → W p l e (xR 0 0) s m args below meth c H locs 0 0 (MQ below (xqI E A (wM E ad m_thrown m_trouble m_where m_rv m_tape m_taped m_size m_spot m_sort m_place m_number m_fault m_wrongAt m_word m_v m_x m_past m_kept m_acts m_images m_matchNow m_slopsNow m_matchesNow m_slopped m_seatBest m_fedBest m_slopsBest m_sawBest m_leastNow m_stableNow m_fitsNow m_someNow m_everyNow m_otherIn m_askLeft tb_seats tb_slack tb_saw tb_quarrel tb_people tb_pairs tb_forks tb_unsures tb_trieds tb_fed tb_seat tb_one tb_other tb_years tb_kind tb_unsure tb_may tb_tried tb_name) (some .boolean) R0) args s 0 0 A) (F0 m 26 ls []) := by
      intro H locs G
      refine lv_iconst (v := 0) hx hb dX12_isPair_26 (by decide) ?_
      obtain rfl := Option.some.inj hf
      exact xI_ret (r := (0 : Int32)) C G rfl dX12_isPair_27
    have hf := hr
    clear hr
    refine lv_if_lt (tgt := 26) hx hb dX12_isPair_8 (by decide) (fun h => ?_) (fun h => ?_)
    · have hf := it_t h hf
      exact J _ _ G
    · have hf := it_f h hf
      refine lv_iload_n hx hb dX12_isPair_11 rfl (lv_at hl 1 rfl) ?_
      refine lv_aload_n hx hb dX12_isPair_12 rfl (lv_at hl 0 rfl) ?_
      refine x_get C G fX12_17 (wM_at0) rfl dX12_isPair_13 ?_
      refine lv_bipush (v := 55) hx hb dX12_isPair_16 (by decide) ?_
      have hi := ck_in hf
      have hf := ck_go hf
      refine x_iald C G (wM_at2) hi dX12_isPair_18 ?_
      refine lv_icmp_ge (tgt := 26) hx hb dX12_isPair_19 (by decide) (fun h => ?_) (fun h => ?_)
      · have hf := it_t h hf
        exact J _ _ G
      · have hf := it_f h hf
        exact absurd (Option.some.inj hf) (by decide)
  | false =>
    have hf := it_f (by decide) hf
    have J : ∀ (H : Heap) (locs : List Loc), xG s E A (wM E ad m_thrown m_trouble m_where m_rv m_tape m_taped m_size m_spot m_sort m_place m_number m_fault m_wrongAt m_word m_v m_x m_past m_kept m_acts m_images m_matchNow m_slopsNow m_matchesNow m_slopped m_seatBest m_fedBest m_slopsBest m_sawBest m_leastNow m_stableNow m_fitsNow m_someNow m_everyNow m_otherIn m_askLeft tb_seats tb_slack tb_saw tb_quarrel tb_people tb_pairs tb_forks tb_unsures tb_trieds tb_fed tb_seat tb_one tb_other tb_years tb_kind tb_unsure tb_may tb_tried tb_name) H locs → W p l e (xR 0 0) s m args below meth c H locs 0 0 (MQ below (xqI E A (wM E ad m_thrown m_trouble m_where m_rv m_tape m_taped m_size m_spot m_sort m_place m_number m_fault m_wrongAt m_word m_v m_x m_past m_kept m_acts m_images m_matchNow m_slopsNow m_matchesNow m_slopped m_seatBest m_fedBest m_slopsBest m_sawBest m_leastNow m_stableNow m_fitsNow m_someNow m_everyNow m_otherIn m_askLeft tb_seats tb_slack tb_saw tb_quarrel tb_people tb_pairs tb_forks tb_unsures tb_trieds tb_fed tb_seat tb_one tb_other tb_years tb_kind tb_unsure tb_may tb_tried tb_name) (some .boolean) R0) args s 0 0 A) (F0 m 22 ls []) := by
      intro H locs G
      refine lv_iconst (v := 1) hx hb dX12_isPair_22 (by decide) ?_
      refine lv_goto (tgt := 27) hx hb dX12_isPair_23 (by decide) ?_
      obtain rfl := Option.some.inj hf
      exact xI_ret (r := (1 : Int32)) C G rfl dX12_isPair_27
    have hf := hr
    clear hr
    refine lv_if_lt (tgt := 26) hx hb dX12_isPair_8 (by decide) (fun h => ?_) (fun h => ?_)
    · have hf := it_t h hf
      exact absurd (Option.some.inj hf) (by decide)
    · have hf := it_f h hf
      refine lv_iload_n hx hb dX12_isPair_11 rfl (lv_at hl 1 rfl) ?_
      refine lv_aload_n hx hb dX12_isPair_12 rfl (lv_at hl 0 rfl) ?_
      refine x_get C G fX12_17 (wM_at0) rfl dX12_isPair_13 ?_
      refine lv_bipush (v := 55) hx hb dX12_isPair_16 (by decide) ?_
      have hi := ck_in hf
      have hf := ck_go hf
      refine x_iald C G (wM_at2) hi dX12_isPair_18 ?_
      refine lv_icmp_ge (tgt := 26) hx hb dX12_isPair_19 (by decide) (fun h => ?_) (fun h => ?_)
      · have hf := it_t h hf
        exact absurd (Option.some.inj hf) (by decide)
      · have hf := it_f h hf
        exact J _ _ G
set_option maxHeartbeats 4000000 in
set_option maxRecDepth 100000 in
theorem c_M_in_any {l : Launch} {E : xE} {ws : va_W} {l0 : Int32} {l1 : Int32} {l2 : Int32} {R0 : Int32} (hf : f_M_in l0 l1 l2 = some R0) : xI l E yX12_in cX12_in 3 (some .boolean) 0 0 [.int l0, .int l1, .int l2] ws ws R0 := by
  refine xI_of (by decide) (Nat.le_of_ble_eq_true rfl) (fun p e s m args below meth c A C ls hl G => ?_)
  have hx := C.1
  have hb := C.2.1
  have hl : lv_has ls 3 [(0, .int l0), (1, .int l1), (2, .int l2)] := hl
  unfold f_M_in at hf
  refine lv_iload_n hx hb dX12_in_0 rfl (lv_at hl 0 rfl) ?_
  refine lv_iload_n hx hb dX12_in_1 rfl (lv_at hl 1 rfl) ?_
  obtain ⟨b1, hr, hf⟩ := bd_go hf
  cases b1 with
  | true =>
    have hf := it_t rfl hf
    have J : ∀ (H : Heap) (locs : List Loc), xG s E A ws H locs → W p l e (xR 0 0) s m args below meth c H locs 0 0 (MQ below (xqI E A ws (some .boolean) R0) args s 0 0 A) (F0 m 14 ls []) := by
      intro H locs G
      refine lv_iconst (v := 0) hx hb dX12_in_14 (by decide) ?_
      obtain rfl := Option.some.inj hf
      exact xI_ret (r := (0 : Int32)) C G rfl dX12_in_15
    have hf := hr
    clear hr
    refine lv_icmp_lt (tgt := 14) hx hb dX12_in_2 (by decide) (fun h => ?_) (fun h => ?_)
    · have hf := it_t h hf
      exact J _ _ G
    · have hf := it_f h hf
      refine lv_iload_n hx hb dX12_in_5 rfl (lv_at hl 0 rfl) ?_
      refine lv_iload_n hx hb dX12_in_6 rfl (lv_at hl 2 rfl) ?_
      refine lv_icmp_gt (tgt := 14) hx hb dX12_in_7 (by decide) (fun h => ?_) (fun h => ?_)
      · have hf := it_t h hf
        exact J _ _ G
      · have hf := it_f h hf
        exact absurd (Option.some.inj hf) (by decide)
  | false =>
    have hf := it_f (by decide) hf
    have J : ∀ (H : Heap) (locs : List Loc), xG s E A ws H locs → W p l e (xR 0 0) s m args below meth c H locs 0 0 (MQ below (xqI E A ws (some .boolean) R0) args s 0 0 A) (F0 m 10 ls []) := by
      intro H locs G
      refine lv_iconst (v := 1) hx hb dX12_in_10 (by decide) ?_
      refine lv_goto (tgt := 15) hx hb dX12_in_11 (by decide) ?_
      obtain rfl := Option.some.inj hf
      exact xI_ret (r := (1 : Int32)) C G rfl dX12_in_15
    have hf := hr
    clear hr
    refine lv_icmp_lt (tgt := 14) hx hb dX12_in_2 (by decide) (fun h => ?_) (fun h => ?_)
    · have hf := it_t h hf
      exact absurd (Option.some.inj hf) (by decide)
    · have hf := it_f h hf
      refine lv_iload_n hx hb dX12_in_5 rfl (lv_at hl 0 rfl) ?_
      refine lv_iload_n hx hb dX12_in_6 rfl (lv_at hl 2 rfl) ?_
      refine lv_icmp_gt (tgt := 14) hx hb dX12_in_7 (by decide) (fun h => ?_) (fun h => ?_)
      · have hf := it_t h hf
        exact absurd (Option.some.inj hf) (by decide)
      · have hf := it_f h hf
        exact J _ _ G
set_option maxHeartbeats 4000000 in
set_option maxRecDepth 100000 in
theorem w_M_works_m_M_L2 {p : Program} {l : Launch} {e : Env} {s : State} {m : MethodId} {args : Array Value} {below : List Frame} {meth : Method} {c : Code} {A : Nat → Prop} {E : xE} {Q : State → Prop} {ad : Nat → Nat} {m_thrown m_trouble m_where m_taped m_size m_spot m_sort m_place m_number m_fault m_wrongAt m_acts m_images m_matchNow m_slopsNow m_matchesNow m_fedBest m_slopsBest m_sawBest m_leastNow m_stableNow m_fitsNow m_someNow m_everyNow m_askLeft tb_seats tb_slack tb_saw tb_quarrel tb_people tb_pairs tb_forks tb_unsures tb_trieds tb_fed : Int32} {m_rv : Value} {m_tape m_v m_past m_kept m_slopped m_seatBest m_otherIn tb_seat tb_one tb_other tb_years tb_kind tb_unsure tb_may tb_tried : Nat → Int32} {m_word : Int64} {tb_name : Nat → Int64} {o : (Nat → Int32)} (C : xC p s m args meth c cX12_works 2 RX12 E A none) (J : ∀ (H : Heap) (locs : List Loc) (ls : Array Slot), xG s E A (wM E ad m_thrown m_trouble m_where m_rv m_tape m_taped m_size m_spot m_sort m_place m_number m_fault m_wrongAt m_word m_v o m_past m_kept m_acts m_images m_matchNow m_slopsNow m_matchesNow m_slopped m_seatBest m_fedBest m_slopsBest m_sawBest m_leastNow m_stableNow m_fitsNow m_someNow m_everyNow m_otherIn m_askLeft tb_seats tb_slack tb_saw tb_quarrel tb_people tb_pairs tb_forks tb_unsures tb_trieds tb_fed tb_seat tb_one tb_other tb_years tb_kind tb_unsure tb_may tb_tried tb_name) H locs → lv_has ls 2 [] → W p l e (xR 0 0) s m args below meth c H locs 0 0 Q (F0 m 26 ls [])) :
    ∀ (n : Nat) (l1 : Int32) (m_x : Nat → Int32) (H : Heap) (locs : List Loc) (ls : Array Slot), xG s E A (wM E ad m_thrown m_trouble m_where m_rv m_tape m_taped m_size m_spot m_sort m_place m_number m_fault m_wrongAt m_word m_v m_x m_past m_kept m_acts m_images m_matchNow m_slopsNow m_matchesNow m_slopped m_seatBest m_fedBest m_slopsBest m_sawBest m_leastNow m_stableNow m_fitsNow m_someNow m_everyNow m_otherIn m_askLeft tb_seats tb_slack tb_saw tb_quarrel tb_people tb_pairs tb_forks tb_unsures tb_trieds tb_fed tb_seat tb_one tb_other tb_years tb_kind tb_unsure tb_may tb_tried tb_name) H locs → lv_has ls 2 [(0, .ref (ad 0)), (1, .int l1)] → f_M_works_L2 m_v n l1 m_x = some o → W p l e (xR 0 0) s m args below meth c H locs 0 0 Q (F0 m 2 ls []) := by
  have hx := C.1
  have hb := C.2.1
  intro n
  induction n with
  | zero =>
    intro l1 m_x H locs ls G hl hf
    exact nomatch (show (none : Option ((Nat → Int32))) = some o from hf)
  | succ n ih =>
    intro l1 m_x H locs ls G hl hf
    rw [f_M_works_L2] at hf
    refine lv_iload_n hx hb dX12_works_2 rfl (lv_at hl 1 rfl) ?_
    refine lv_bipush (v := 58) hx hb dX12_works_3 (by decide) ?_
    refine lv_icmp_ge (tgt := 26) hx hb dX12_works_5 (by decide) (fun h => ?_) (fun h => ?_)
    · have hf := it_t h hf
      obtain rfl := Option.some.inj hf
      exact J _ _ _ G (lv_sub hl [] rfl)
    · have hf := it_f h hf
      refine lv_aload_n hx hb dX12_works_8 rfl (lv_at hl 0 rfl) ?_
      refine x_get C G fX12_21 (wM_at0) rfl dX12_works_9 ?_
      refine lv_iload_n hx hb dX12_works_12 rfl (lv_at hl 1 rfl) ?_
      refine lv_aload_n hx hb dX12_works_13 rfl (lv_at hl 0 rfl) ?_
      refine x_get C G fX12_17 (wM_at0) rfl dX12_works_14 ?_
      refine lv_iload_n hx hb dX12_works_17 rfl (lv_at hl 1 rfl) ?_
      have hi := ck_in hf
      have hf := ck_go hf
      refine x_iald C G (wM_at2) hi dX12_works_18 ?_
      have hi := ck_in hf
      have hf := ck_go hf
      refine x_iast (ws' := (wM E ad m_thrown m_trouble m_where m_rv m_tape m_taped m_size m_spot m_sort m_place m_number m_fault m_wrongAt m_word m_v (upd m_x l1.toNatClampNeg (m_v l1.toNatClampNeg)) m_past m_kept m_acts m_images m_matchNow m_slopsNow m_matchesNow m_slopped m_seatBest m_fedBest m_slopsBest m_sawBest m_leastNow m_stableNow m_fitsNow m_someNow m_everyNow m_otherIn m_askLeft tb_seats tb_slack tb_saw tb_quarrel tb_people tb_pairs tb_forks tb_unsures tb_trieds tb_fed tb_seat tb_one tb_other tb_years tb_kind tb_unsure tb_may tb_tried tb_name)) C G (wM_at3) hi wM_set_m_x dX12_works_19 (fun H locs G => ?_)
      obtain ⟨x1, ex1⟩ : ∃ z : Int32, z = l1 + (1 : Int32) := ⟨_, rfl⟩
      have hf := lt_go ex1 hf
      refine lv_iinc (v := x1) (lv' := [(1, .int x1), (0, .ref (ad 0))]) hx hb dX12_works_20 hl (k := 1) rfl (by rw [ex1]; rfl) (by decide) rfl (fun ls hl => ?_)
      refine lv_goto (tgt := 2) hx hb dX12_works_23 (by decide) ?_
      exact ih x1 (upd m_x l1.toNatClampNeg (m_v l1.toNatClampNeg)) _ _ _ G (lv_sub hl [1, 0] rfl) hf
set_option maxHeartbeats 4000000 in
set_option maxRecDepth 100000 in
theorem c_M_works_m_M {l : Launch} {E : xE} {ad : Nat → Nat} {m_thrown m_trouble m_where m_taped m_size m_spot m_sort m_place m_number m_fault m_wrongAt m_acts m_images m_matchNow m_slopsNow m_matchesNow m_fedBest m_slopsBest m_sawBest m_leastNow m_stableNow m_fitsNow m_someNow m_everyNow m_askLeft tb_seats tb_slack tb_saw tb_quarrel tb_people tb_pairs tb_forks tb_unsures tb_trieds tb_fed : Int32} {m_rv : Value} {m_tape m_v m_x m_past m_kept m_slopped m_seatBest m_otherIn tb_seat tb_one tb_other tb_years tb_kind tb_unsure tb_may tb_tried : Nat → Int32} {m_word : Int64} {tb_name : Nat → Int64} {R0 : (Nat → Int32)} (hf : f_M_works m_v m_x = some R0) : xV l E yX12_works cX12_works 2 none 0 0 [.ref (ad 0)] (wM E ad m_thrown m_trouble m_where m_rv m_tape m_taped m_size m_spot m_sort m_place m_number m_fault m_wrongAt m_word m_v m_x m_past m_kept m_acts m_images m_matchNow m_slopsNow m_matchesNow m_slopped m_seatBest m_fedBest m_slopsBest m_sawBest m_leastNow m_stableNow m_fitsNow m_someNow m_everyNow m_otherIn m_askLeft tb_seats tb_slack tb_saw tb_quarrel tb_people tb_pairs tb_forks tb_unsures tb_trieds tb_fed tb_seat tb_one tb_other tb_years tb_kind tb_unsure tb_may tb_tried tb_name) (wM E ad m_thrown m_trouble m_where m_rv m_tape m_taped m_size m_spot m_sort m_place m_number m_fault m_wrongAt m_word m_v R0 m_past m_kept m_acts m_images m_matchNow m_slopsNow m_matchesNow m_slopped m_seatBest m_fedBest m_slopsBest m_sawBest m_leastNow m_stableNow m_fitsNow m_someNow m_everyNow m_otherIn m_askLeft tb_seats tb_slack tb_saw tb_quarrel tb_people tb_pairs tb_forks tb_unsures tb_trieds tb_fed tb_seat tb_one tb_other tb_years tb_kind tb_unsure tb_may tb_tried tb_name) := by
  refine xV_of (by decide) (Nat.le_of_ble_eq_true rfl) (fun p e s m args below meth c A C ls hl G => ?_)
  have hx := C.1
  have hb := C.2.1
  have hl : lv_has ls 2 [(0, .ref (ad 0))] := hl
  unfold f_M_works at hf
  refine lv_iconst (v := 0) hx hb dX12_works_0 (by decide) ?_
  refine lv_istore_n (lv' := [(1, .int (0 : Int32)), (0, .ref (ad 0))]) hx hb dX12_works_1 rfl hl (by decide) rfl (fun ls hl => ?_)
  obtain ⟨x2, hr, hf⟩ := bd_go hf
  have Jx2 : ∀ (H : Heap) (locs : List Loc) (ls : Array Slot), xG s E A (wM E ad m_thrown m_trouble m_where m_rv m_tape m_taped m_size m_spot m_sort m_place m_number m_fault m_wrongAt m_word m_v x2 m_past m_kept m_acts m_images m_matchNow m_slopsNow m_matchesNow m_slopped m_seatBest m_fedBest m_slopsBest m_sawBest m_leastNow m_stableNow m_fitsNow m_someNow m_everyNow m_otherIn m_askLeft tb_seats tb_slack tb_saw tb_quarrel tb_people tb_pairs tb_forks tb_unsures tb_trieds tb_fed tb_seat tb_one tb_other tb_years tb_kind tb_unsure tb_may tb_tried tb_name) H locs → lv_has ls 2 [] → W p l e (xR 0 0) s m args below meth c H locs 0 0 (MQ below (xqV E A (wM E ad m_thrown m_trouble m_where m_rv m_tape m_taped m_size m_spot m_sort m_place m_number m_fault m_wrongAt m_word m_v R0 m_past m_kept m_acts m_images m_matchNow m_slopsNow m_matchesNow m_slopped m_seatBest m_fedBest m_slopsBest m_sawBest m_leastNow m_stableNow m_fitsNow m_someNow m_everyNow m_otherIn m_askLeft tb_seats tb_slack tb_saw tb_quarrel tb_people tb_pairs tb_forks tb_unsures tb_trieds tb_fed tb_seat tb_one tb_other tb_years tb_kind tb_unsure tb_may tb_tried tb_name)) args s 0 0 A) (F0 m 26 ls []) := by
    intro H locs ls G hl
    obtain rfl := Option.some.inj hf
    exact xV_ret C G dX12_works_26
  exact w_M_works_m_M_L2 C Jx2 fu _ _ _ _ _ G (lv_sub hl [1, 0] rfl) hr
set_option maxHeartbeats 4000000 in
set_option maxRecDepth 100000 in
theorem c_M_handleOf_m_M {l : Launch} {E : xE} {ad : Nat → Nat} {m_thrown m_trouble m_where m_taped m_size m_spot m_sort m_place m_number m_fault m_wrongAt m_acts m_images m_matchNow m_slopsNow m_matchesNow m_fedBest m_slopsBest m_sawBest m_leastNow m_stableNow m_fitsNow m_someNow m_everyNow m_askLeft tb_seats tb_slack tb_saw tb_quarrel tb_people tb_pairs tb_forks tb_unsures tb_trieds tb_fed : Int32} {m_rv : Value} {m_tape m_v m_x m_past m_kept m_slopped m_seatBest m_otherIn tb_seat tb_one tb_other tb_years tb_kind tb_unsure tb_may tb_tried : Nat → Int32} {m_word : Int64} {tb_name : Nat → Int64} {l1 : Int32} {R0 : Int32} (hf : f_M_handleOf l1 m_x = some R0) : xI l E yX12_handleOf cX12_handleOf 2 (some .int) 0 0 [.ref (ad 0), .int l1] (wM E ad m_thrown m_trouble m_where m_rv m_tape m_taped m_size m_spot m_sort m_place m_number m_fault m_wrongAt m_word m_v m_x m_past m_kept m_acts m_images m_matchNow m_slopsNow m_matchesNow m_slopped m_seatBest m_fedBest m_slopsBest m_sawBest m_leastNow m_stableNow m_fitsNow m_someNow m_everyNow m_otherIn m_askLeft tb_seats tb_slack tb_saw tb_quarrel tb_people tb_pairs tb_forks tb_unsures tb_trieds tb_fed tb_seat tb_one tb_other tb_years tb_kind tb_unsure tb_may tb_tried tb_name) (wM E ad m_thrown m_trouble m_where m_rv m_tape m_taped m_size m_spot m_sort m_place m_number m_fault m_wrongAt m_word m_v m_x m_past m_kept m_acts m_images m_matchNow m_slopsNow m_matchesNow m_slopped m_seatBest m_fedBest m_slopsBest m_sawBest m_leastNow m_stableNow m_fitsNow m_someNow m_everyNow m_otherIn m_askLeft tb_seats tb_slack tb_saw tb_quarrel tb_people tb_pairs tb_forks tb_unsures tb_trieds tb_fed tb_seat tb_one tb_other tb_years tb_kind tb_unsure tb_may tb_tried tb_name) R0 := by
  refine xI_of (by decide) (Nat.le_of_ble_eq_true rfl) (fun p e s m args below meth c A C ls hl G => ?_)
  have hx := C.1
  have hb := C.2.1
  have hl : lv_has ls 2 [(0, .ref (ad 0)), (1, .int l1)] := hl
  unfold f_M_handleOf at hf
  refine lv_aload_n hx hb dX12_handleOf_0 rfl (lv_at hl 0 rfl) ?_
  refine x_get C G fX12_21 (wM_at0) rfl dX12_handleOf_1 ?_
  refine lv_bipush (v := 45) hx hb dX12_handleOf_4 (by decide) ?_
  refine lv_iload_n hx hb dX12_handleOf_6 rfl (lv_at hl 1 rfl) ?_
  refine lv_iadd hx hb dX12_handleOf_7 ?_
  have hi := ck_in hf
  have hf := ck_go hf
  refine x_iald C G (wM_at3) hi dX12_handleOf_8 ?_
  refine lv_iconst (v := 2) hx hb dX12_handleOf_9 (by decide) ?_
  refine lv_icmp_ne (tgt := 15) hx hb dX12_handleOf_10 (by decide) (fun h => ?_) (fun h => ?_)
  · have hf := it_f h hf
    refine lv_aload_n hx hb dX12_handleOf_15 rfl (lv_at hl 0 rfl) ?_
    refine x_get C G fX12_21 (wM_at0) rfl dX12_handleOf_16 ?_
    refine lv_bipush (v := 25) hx hb dX12_handleOf_19 (by decide) ?_
    refine lv_iload_n hx hb dX12_handleOf_21 rfl (lv_at hl 1 rfl) ?_
    refine lv_iadd hx hb dX12_handleOf_22 ?_
    have hi := ck_in hf
    have hf := ck_go hf
    refine x_iald C G (wM_at3) hi dX12_handleOf_23 ?_
    refine lv_aload_n hx hb dX12_handleOf_24 rfl (lv_at hl 0 rfl) ?_
    refine x_get C G fX12_21 (wM_at0) rfl dX12_handleOf_25 ?_
    refine lv_bipush (v := 35) hx hb dX12_handleOf_28 (by decide) ?_
    refine lv_iload_n hx hb dX12_handleOf_30 rfl (lv_at hl 1 rfl) ?_
    refine lv_iadd hx hb dX12_handleOf_31 ?_
    have hi := ck_in hf
    have hf := ck_go hf
    refine x_iald C G (wM_at3) hi dX12_handleOf_32 ?_
    refine lv_icmp_le (tgt := 58) hx hb dX12_handleOf_33 (by decide) (fun h => ?_) (fun h => ?_)
    · have hf := it_t h hf
      refine lv_iconst (v := 0) hx hb dX12_handleOf_58 (by decide) ?_
      obtain rfl := Option.some.inj hf
      exact xI_ret C G rfl dX12_handleOf_59
    · have hf := it_f h hf
      refine lv_aload_n hx hb dX12_handleOf_36 rfl (lv_at hl 0 rfl) ?_
      refine x_get C G fX12_21 (wM_at0) rfl dX12_handleOf_37 ?_
      refine lv_bipush (v := 25) hx hb dX12_handleOf_40 (by decide) ?_
      refine lv_iload_n hx hb dX12_handleOf_42 rfl (lv_at hl 1 rfl) ?_
      refine lv_iadd hx hb dX12_handleOf_43 ?_
      have hi := ck_in hf
      have hf := ck_go hf
      refine x_iald C G (wM_at3) hi dX12_handleOf_44 ?_
      refine lv_aload_n hx hb dX12_handleOf_45 rfl (lv_at hl 0 rfl) ?_
      refine x_get C G fX12_21 (wM_at0) rfl dX12_handleOf_46 ?_
      refine lv_bipush (v := 35) hx hb dX12_handleOf_49 (by decide) ?_
      refine lv_iload_n hx hb dX12_handleOf_51 rfl (lv_at hl 1 rfl) ?_
      refine lv_iadd hx hb dX12_handleOf_52 ?_
      have hi := ck_in hf
      have hf := ck_go hf
      refine x_iald C G (wM_at3) hi dX12_handleOf_53 ?_
      refine lv_isub hx hb dX12_handleOf_54 ?_
      refine lv_goto (tgt := 59) hx hb dX12_handleOf_55 (by decide) ?_
      obtain rfl := Option.some.inj hf
      exact xI_ret C G rfl dX12_handleOf_59
  · have hf := it_t h hf
    refine lv_iconst (v := 1) hx hb dX12_handleOf_13 (by decide) ?_
    obtain rfl := Option.some.inj hf
    exact xI_ret C G rfl dX12_handleOf_14
set_option maxHeartbeats 4000000 in
set_option maxRecDepth 100000 in
theorem c_M_farOf_m_M {l : Launch} {E : xE} {ad : Nat → Nat} {m_thrown m_trouble m_where m_taped m_size m_spot m_sort m_place m_number m_fault m_wrongAt m_acts m_images m_matchNow m_slopsNow m_matchesNow m_fedBest m_slopsBest m_sawBest m_leastNow m_stableNow m_fitsNow m_someNow m_everyNow m_askLeft tb_seats tb_slack tb_saw tb_quarrel tb_people tb_pairs tb_forks tb_unsures tb_trieds tb_fed : Int32} {m_rv : Value} {m_tape m_v m_x m_past m_kept m_slopped m_seatBest m_otherIn tb_seat tb_one tb_other tb_years tb_kind tb_unsure tb_may tb_tried : Nat → Int32} {m_word : Int64} {tb_name : Nat → Int64} {l1 : Int32} {l2 : Int32} {R0 : Int32} (hf : f_M_farOf l1 l2 m_x = some R0) : xI l E yX12_farOf cX12_farOf 3 (some .int) 0 0 [.ref (ad 0), .int l1, .int l2] (wM E ad m_thrown m_trouble m_where m_rv m_tape m_taped m_size m_spot m_sort m_place m_number m_fault m_wrongAt m_word m_v m_x m_past m_kept m_acts m_images m_matchNow m_slopsNow m_matchesNow m_slopped m_seatBest m_fedBest m_slopsBest m_sawBest m_leastNow m_stableNow m_fitsNow m_someNow m_everyNow m_otherIn m_askLeft tb_seats tb_slack tb_saw tb_quarrel tb_people tb_pairs tb_forks tb_unsures tb_trieds tb_fed tb_seat tb_one tb_other tb_years tb_kind tb_unsure tb_may tb_tried tb_name) (wM E ad m_thrown m_trouble m_where m_rv m_tape m_taped m_size m_spot m_sort m_place m_number m_fault m_wrongAt m_word m_v m_x m_past m_kept m_acts m_images m_matchNow m_slopsNow m_matchesNow m_slopped m_seatBest m_fedBest m_slopsBest m_sawBest m_leastNow m_stableNow m_fitsNow m_someNow m_everyNow m_otherIn m_askLeft tb_seats tb_slack tb_saw tb_quarrel tb_people tb_pairs tb_forks tb_unsures tb_trieds tb_fed tb_seat tb_one tb_other tb_years tb_kind tb_unsure tb_may tb_tried tb_name) R0 := by
  refine xI_of (by decide) (Nat.le_of_ble_eq_true rfl) (fun p e s m args below meth c A C ls hl G => ?_)
  have hx := C.1
  have hb := C.2.1
  have hl : lv_has ls 3 [(0, .ref (ad 0)), (1, .int l1), (2, .int l2)] := hl
  unfold f_M_farOf at hf
  refine lv_aload_n hx hb dX12_farOf_0 rfl (lv_at hl 0 rfl) ?_
  refine x_get C G fX12_21 (wM_at0) rfl dX12_farOf_1 ?_
  refine lv_iload_n hx hb dX12_farOf_4 rfl (lv_at hl 1 rfl) ?_
  have hi := ck_in hf
  have hf := ck_go hf
  refine x_iald C G (wM_at3) hi dX12_farOf_5 ?_
  refine lv_aload_n hx hb dX12_farOf_6 rfl (lv_at hl 0 rfl) ?_
  refine x_get C G fX12_21 (wM_at0) rfl dX12_farOf_7 ?_
  refine lv_iload_n hx hb dX12_farOf_10 rfl (lv_at hl 2 rfl) ?_
  have hi := ck_in hf
  have hf := ck_go hf
  refine x_iald C G (wM_at3) hi dX12_farOf_11 ?_
  refine lv_icmp_le (tgt := 31) hx hb dX12_farOf_12 (by decide) (fun h => ?_) (fun h => ?_)
  · have hf := it_t h hf
    refine lv_aload_n hx hb dX12_farOf_31 rfl (lv_at hl 0 rfl) ?_
    refine x_get C G fX12_21 (wM_at0) rfl dX12_farOf_32 ?_
    refine lv_iload_n hx hb dX12_farOf_35 rfl (lv_at hl 2 rfl) ?_
    have hi := ck_in hf
    have hf := ck_go hf
    refine x_iald C G (wM_at3) hi dX12_farOf_36 ?_
    refine lv_aload_n hx hb dX12_farOf_37 rfl (lv_at hl 0 rfl) ?_
    refine x_get C G fX12_21 (wM_at0) rfl dX12_farOf_38 ?_
    refine lv_iload_n hx hb dX12_farOf_41 rfl (lv_at hl 1 rfl) ?_
    have hi := ck_in hf
    have hf := ck_go hf
    refine x_iald C G (wM_at3) hi dX12_farOf_42 ?_
    refine lv_isub hx hb dX12_farOf_43 ?_
    obtain rfl := Option.some.inj hf
    exact xI_ret C G rfl dX12_farOf_44
  · have hf := it_f h hf
    refine lv_aload_n hx hb dX12_farOf_15 rfl (lv_at hl 0 rfl) ?_
    refine x_get C G fX12_21 (wM_at0) rfl dX12_farOf_16 ?_
    refine lv_iload_n hx hb dX12_farOf_19 rfl (lv_at hl 1 rfl) ?_
    have hi := ck_in hf
    have hf := ck_go hf
    refine x_iald C G (wM_at3) hi dX12_farOf_20 ?_
    refine lv_aload_n hx hb dX12_farOf_21 rfl (lv_at hl 0 rfl) ?_
    refine x_get C G fX12_21 (wM_at0) rfl dX12_farOf_22 ?_
    refine lv_iload_n hx hb dX12_farOf_25 rfl (lv_at hl 2 rfl) ?_
    have hi := ck_in hf
    have hf := ck_go hf
    refine x_iald C G (wM_at3) hi dX12_farOf_26 ?_
    refine lv_isub hx hb dX12_farOf_27 ?_
    refine lv_goto (tgt := 44) hx hb dX12_farOf_28 (by decide) ?_
    obtain rfl := Option.some.inj hf
    exact xI_ret C G rfl dX12_farOf_44
set_option maxHeartbeats 4000000 in
set_option maxRecDepth 100000 in
theorem c_M_farPair_m_M {l : Launch} {E : xE} {ad : Nat → Nat} {m_thrown m_trouble m_where m_taped m_size m_spot m_sort m_place m_number m_fault m_wrongAt m_acts m_images m_matchNow m_slopsNow m_matchesNow m_fedBest m_slopsBest m_sawBest m_leastNow m_stableNow m_fitsNow m_someNow m_everyNow m_askLeft tb_seats tb_slack tb_saw tb_quarrel tb_people tb_pairs tb_forks tb_unsures tb_trieds tb_fed : Int32} {m_rv : Value} {m_tape m_v m_x m_past m_kept m_slopped m_seatBest m_otherIn tb_seat tb_one tb_other tb_years tb_kind tb_unsure tb_may tb_tried : Nat → Int32} {m_word : Int64} {tb_name : Nat → Int64} {l1 : Int32} {R0 : Int32} (hf : f_M_farPair l1 m_x = some R0) : xI l E yX12_farPair cX12_farPair 2 (some .int) 1 22 [.ref (ad 0), .int l1] (wM E ad m_thrown m_trouble m_where m_rv m_tape m_taped m_size m_spot m_sort m_place m_number m_fault m_wrongAt m_word m_v m_x m_past m_kept m_acts m_images m_matchNow m_slopsNow m_matchesNow m_slopped m_seatBest m_fedBest m_slopsBest m_sawBest m_leastNow m_stableNow m_fitsNow m_someNow m_everyNow m_otherIn m_askLeft tb_seats tb_slack tb_saw tb_quarrel tb_people tb_pairs tb_forks tb_unsures tb_trieds tb_fed tb_seat tb_one tb_other tb_years tb_kind tb_unsure tb_may tb_tried tb_name) (wM E ad m_thrown m_trouble m_where m_rv m_tape m_taped m_size m_spot m_sort m_place m_number m_fault m_wrongAt m_word m_v m_x m_past m_kept m_acts m_images m_matchNow m_slopsNow m_matchesNow m_slopped m_seatBest m_fedBest m_slopsBest m_sawBest m_leastNow m_stableNow m_fitsNow m_someNow m_everyNow m_otherIn m_askLeft tb_seats tb_slack tb_saw tb_quarrel tb_people tb_pairs tb_forks tb_unsures tb_trieds tb_fed tb_seat tb_one tb_other tb_years tb_kind tb_unsure tb_may tb_tried tb_name) R0 := by
  refine xI_of (by decide) (Nat.le_of_ble_eq_true rfl) (fun p e s m args below meth c A C ls hl G => ?_)
  have hx := C.1
  have hb := C.2.1
  have hl : lv_has ls 2 [(0, .ref (ad 0)), (1, .int l1)] := hl
  unfold f_M_farPair at hf
  refine lv_aload_n hx hb dX12_farPair_0 rfl (lv_at hl 0 rfl) ?_
  refine lv_aload_n hx hb dX12_farPair_1 rfl (lv_at hl 0 rfl) ?_
  refine x_get C G fX12_21 (wM_at0) rfl dX12_farPair_2 ?_
  refine lv_iconst (v := 5) hx hb dX12_farPair_5 (by decide) ?_
  refine lv_iload_n hx hb dX12_farPair_6 rfl (lv_at hl 1 rfl) ?_
  refine lv_iadd hx hb dX12_farPair_7 ?_
  have hi := ck_in hf
  have hf := ck_go hf
  refine x_iald C G (wM_at3) hi dX12_farPair_8 ?_
  refine lv_aload_n hx hb dX12_farPair_9 rfl (lv_at hl 0 rfl) ?_
  refine x_get C G fX12_21 (wM_at0) rfl dX12_farPair_10 ?_
  refine lv_bipush (v := 15) hx hb dX12_farPair_13 (by decide) ?_
  refine lv_iload_n hx hb dX12_farPair_15 rfl (lv_at hl 1 rfl) ?_
  refine lv_iadd hx hb dX12_farPair_16 ?_
  have hi := ck_in hf
  have hf := ck_go hf
  refine x_iald C G (wM_at3) hi dX12_farPair_17 ?_
  obtain ⟨x1, hc, hf⟩ := bd_go hf
  refine xI_V C G (c_M_farOf_m_M hc) mX12_farOf kX12_312 (wM_at0) rfl ⟨Nat.le_of_ble_eq_true rfl, Nat.le_of_ble_eq_true rfl⟩ rfl hl.1 rfl (Nat.le_of_ble_eq_true rfl) ⟨Nat.le_refl _, Nat.le_refl _⟩ dX12_farPair_18 (fun hz H locs G => ?_)
  obtain rfl := Option.some.inj hf
  exact xI_ret C G rfl dX12_farPair_21
set_option maxHeartbeats 4000000 in
set_option maxRecDepth 100000 in
theorem c_M_feedsBy_m_M {l : Launch} {E : xE} {ad : Nat → Nat} {m_thrown m_trouble m_where m_taped m_size m_spot m_sort m_place m_number m_fault m_wrongAt m_acts m_images m_matchNow m_slopsNow m_matchesNow m_fedBest m_slopsBest m_sawBest m_leastNow m_stableNow m_fitsNow m_someNow m_everyNow m_askLeft tb_seats tb_slack tb_saw tb_quarrel tb_people tb_pairs tb_forks tb_unsures tb_trieds tb_fed : Int32} {m_rv : Value} {m_tape m_v m_x m_past m_kept m_slopped m_seatBest m_otherIn tb_seat tb_one tb_other tb_years tb_kind tb_unsure tb_may tb_tried : Nat → Int32} {m_word : Int64} {tb_name : Nat → Int64} {l1 : Int32} {l2 : Int32} {R0 : Int32} (hf : f_M_feedsBy l1 l2 m_x tb_slack = some R0) : xI l E yX12_feedsBy cX12_feedsBy 4 (some .boolean) 2 43 [.ref (ad 0), .int l1, .int l2] (wM E ad m_thrown m_trouble m_where m_rv m_tape m_taped m_size m_spot m_sort m_place m_number m_fault m_wrongAt m_word m_v m_x m_past m_kept m_acts m_images m_matchNow m_slopsNow m_matchesNow m_slopped m_seatBest m_fedBest m_slopsBest m_sawBest m_leastNow m_stableNow m_fitsNow m_someNow m_everyNow m_otherIn m_askLeft tb_seats tb_slack tb_saw tb_quarrel tb_people tb_pairs tb_forks tb_unsures tb_trieds tb_fed tb_seat tb_one tb_other tb_years tb_kind tb_unsure tb_may tb_tried tb_name) (wM E ad m_thrown m_trouble m_where m_rv m_tape m_taped m_size m_spot m_sort m_place m_number m_fault m_wrongAt m_word m_v m_x m_past m_kept m_acts m_images m_matchNow m_slopsNow m_matchesNow m_slopped m_seatBest m_fedBest m_slopsBest m_sawBest m_leastNow m_stableNow m_fitsNow m_someNow m_everyNow m_otherIn m_askLeft tb_seats tb_slack tb_saw tb_quarrel tb_people tb_pairs tb_forks tb_unsures tb_trieds tb_fed tb_seat tb_one tb_other tb_years tb_kind tb_unsure tb_may tb_tried tb_name) R0 := by
  refine xI_of (by decide) (Nat.le_of_ble_eq_true rfl) (fun p e s m args below meth c A C ls hl G => ?_)
  have hx := C.1
  have hb := C.2.1
  have hl : lv_has ls 4 [(0, .ref (ad 0)), (1, .int l1), (2, .int l2)] := hl
  unfold f_M_feedsBy at hf
  refine lv_aload_n hx hb dX12_feedsBy_0 rfl (lv_at hl 0 rfl) ?_
  refine lv_iload_n hx hb dX12_feedsBy_1 rfl (lv_at hl 1 rfl) ?_
  obtain ⟨x1, hc, hf⟩ := bd_go hf
  refine xI_V C G (c_M_farPair_m_M hc) mX12_farPair kX12_315 (wM_at0) rfl ⟨Nat.le_of_ble_eq_true rfl, Nat.le_of_ble_eq_true rfl⟩ rfl hl.1 rfl (Nat.le_of_ble_eq_true rfl) ⟨Nat.le_refl _, Nat.le_refl _⟩ dX12_feedsBy_2 (fun hz H locs G => ?_)
  refine lv_istore_n (lv' := [(3, .int x1), (0, .ref (ad 0)), (1, .int l1), (2, .int l2)]) hx hb dX12_feedsBy_5 rfl hl (by decide) rfl (fun ls hl => ?_)
  refine lv_iload_n hx hb dX12_feedsBy_6 rfl (lv_at hl 0 rfl) ?_
  refine lv_iload_n hx hb dX12_feedsBy_7 rfl (lv_at hl 3 rfl) ?_
  refine lv_isub hx hb dX12_feedsBy_8 ?_
  refine lv_aload_n hx hb dX12_feedsBy_9 rfl (lv_at hl 1 rfl) ?_
  refine x_get C G fX12_298.g (wM_at0) rfl dX12_feedsBy_10 ?_
  refine x_get C G fX12_209.g (wM_at9) rfl dX12_feedsBy_13 ?_
  refine lv_ineg hx hb dX12_feedsBy_16 ?_
  refine lv_aload_n hx hb dX12_feedsBy_17 rfl (lv_at hl 1 rfl) ?_
  refine x_get C G fX12_298.g (wM_at0) rfl dX12_feedsBy_18 ?_
  refine x_get C G fX12_209.g (wM_at9) rfl dX12_feedsBy_21 ?_
  obtain ⟨x2, hc, hf⟩ := bd_go hf
  refine xI_S C G (c_M_in_any hc) mX12_in kX12_118 ⟨Nat.le_of_ble_eq_true rfl, Nat.le_of_ble_eq_true rfl⟩ rfl hl.1 rfl (Nat.le_of_ble_eq_true rfl) ⟨Nat.le_refl _, Nat.le_refl _⟩ dX12_feedsBy_24 (fun hz2 H locs G => ?_)
  obtain ⟨b3, hr, hf⟩ := bd_go hf
  cases b3 with
  | true =>
    have hf := it_t rfl hf
    have J : ∀ (H : Heap) (locs : List Loc), xG s E A (wM E ad m_thrown m_trouble m_where m_rv m_tape m_taped m_size m_spot m_sort m_place m_number m_fault m_wrongAt m_word m_v m_x m_past m_kept m_acts m_images m_matchNow m_slopsNow m_matchesNow m_slopped m_seatBest m_fedBest m_slopsBest m_sawBest m_leastNow m_stableNow m_fitsNow m_someNow m_everyNow m_otherIn m_askLeft tb_seats tb_slack tb_saw tb_quarrel tb_people tb_pairs tb_forks tb_unsures tb_trieds tb_fed tb_seat tb_one tb_other tb_years tb_kind tb_unsure tb_may tb_tried tb_name) H locs → W p l e (xR 2 43) s m args below meth c H locs 0 0 (MQ below (xqI E A (wM E ad m_thrown m_trouble m_where m_rv m_tape m_taped m_size m_spot m_sort m_place m_number m_fault m_wrongAt m_word m_v m_x m_past m_kept m_acts m_images m_matchNow m_slopsNow m_matchesNow m_slopped m_seatBest m_fedBest m_slopsBest m_sawBest m_leastNow m_stableNow m_fitsNow m_someNow m_everyNow m_otherIn m_askLeft tb_seats tb_slack tb_saw tb_quarrel tb_people tb_pairs tb_forks tb_unsures tb_trieds tb_fed tb_seat tb_one tb_other tb_years tb_kind tb_unsure tb_may tb_tried tb_name) (some .boolean) R0) args s 0 0 A) (F0 m 69 ls []) := by
      intro H locs G
      refine lv_iconst (v := 1) hx hb dX12_feedsBy_69 (by decide) ?_
      refine lv_goto (tgt := 74) hx hb dX12_feedsBy_70 (by decide) ?_
      obtain rfl := Option.some.inj hf
      exact xI_ret (r := (1 : Int32)) C G rfl dX12_feedsBy_74
    have hf := hr
    clear hr
    refine lv_if_ne (tgt := 69) hx hb dX12_feedsBy_27 (by decide) (fun h => ?_) (fun h => ?_)
    · have hf := it_f h hf
      exact J _ _ G
    · have hf := it_t h hf
      refine lv_aload_n hx hb dX12_feedsBy_30 rfl (lv_at hl 1 rfl) ?_
      refine x_get C G fX12_21 (wM_at0) rfl dX12_feedsBy_31 ?_
      refine lv_bipush (v := 45) hx hb dX12_feedsBy_34 (by decide) ?_
      refine lv_iload_n hx hb dX12_feedsBy_36 rfl (lv_at hl 2 rfl) ?_
      refine lv_iadd hx hb dX12_feedsBy_37 ?_
      have hi := ck_in hf
      have hf := ck_go hf
      refine x_iald C G (wM_at3) hi dX12_feedsBy_38 ?_
      refine lv_iconst (v := 1) hx hb dX12_feedsBy_39 (by decide) ?_
      refine lv_icmp_ne (tgt := 73) hx hb dX12_feedsBy_40 (by decide) (fun h => ?_) (fun h => ?_)
      · have hf := it_f h hf
        exact absurd (Option.some.inj hf) (by decide)
      · have hf := it_t h hf
        refine lv_iload_n hx hb dX12_feedsBy_43 rfl (lv_at hl 0 rfl) ?_
        refine lv_iload_n hx hb dX12_feedsBy_44 rfl (lv_at hl 3 rfl) ?_
        refine lv_iconst (v := 2) hx hb dX12_feedsBy_45 (by decide) ?_
        refine lv_idiv hx hb dX12_feedsBy_46 (by decide) ?_
        refine lv_isub hx hb dX12_feedsBy_47 ?_
        refine lv_aload_n hx hb dX12_feedsBy_48 rfl (lv_at hl 1 rfl) ?_
        refine x_get C G fX12_298.g (wM_at0) rfl dX12_feedsBy_49 ?_
        refine x_get C G fX12_209.g (wM_at9) rfl dX12_feedsBy_52 ?_
        refine lv_ineg hx hb dX12_feedsBy_55 ?_
        refine lv_aload_n hx hb dX12_feedsBy_56 rfl (lv_at hl 1 rfl) ?_
        refine x_get C G fX12_298.g (wM_at0) rfl dX12_feedsBy_57 ?_
        refine x_get C G fX12_209.g (wM_at9) rfl dX12_feedsBy_60 ?_
        obtain ⟨x4, hc, hf⟩ := bd_go hf
        refine xI_S C G (c_M_in_any hc) mX12_in kX12_118 ⟨Nat.le_of_ble_eq_true rfl, Nat.le_of_ble_eq_true rfl⟩ rfl hl.1 rfl (Nat.le_of_ble_eq_true rfl) ⟨Nat.le_refl _, Nat.le_refl _⟩ dX12_feedsBy_63 (fun hz4 H locs G => ?_)
        refine lv_if_eq (tgt := 73) hx hb dX12_feedsBy_66 (by decide) (fun h => ?_) (fun h => ?_)
        · have hf := it_t h hf
          exact absurd (Option.some.inj hf) (by decide)
        · have hf := it_f h hf
          exact J _ _ G
  | false =>
    have hf := it_f (by decide) hf
    have J : ∀ (H : Heap) (locs : List Loc), xG s E A (wM E ad m_thrown m_trouble m_where m_rv m_tape m_taped m_size m_spot m_sort m_place m_number m_fault m_wrongAt m_word m_v m_x m_past m_kept m_acts m_images m_matchNow m_slopsNow m_matchesNow m_slopped m_seatBest m_fedBest m_slopsBest m_sawBest m_leastNow m_stableNow m_fitsNow m_someNow m_everyNow m_otherIn m_askLeft tb_seats tb_slack tb_saw tb_quarrel tb_people tb_pairs tb_forks tb_unsures tb_trieds tb_fed tb_seat tb_one tb_other tb_years tb_kind tb_unsure tb_may tb_tried tb_name) H locs → W p l e (xR 2 43) s m args below meth c H locs 0 0 (MQ below (xqI E A (wM E ad m_thrown m_trouble m_where m_rv m_tape m_taped m_size m_spot m_sort m_place m_number m_fault m_wrongAt m_word m_v m_x m_past m_kept m_acts m_images m_matchNow m_slopsNow m_matchesNow m_slopped m_seatBest m_fedBest m_slopsBest m_sawBest m_leastNow m_stableNow m_fitsNow m_someNow m_everyNow m_otherIn m_askLeft tb_seats tb_slack tb_saw tb_quarrel tb_people tb_pairs tb_forks tb_unsures tb_trieds tb_fed tb_seat tb_one tb_other tb_years tb_kind tb_unsure tb_may tb_tried tb_name) (some .boolean) R0) args s 0 0 A) (F0 m 73 ls []) := by
      intro H locs G
      refine lv_iconst (v := 0) hx hb dX12_feedsBy_73 (by decide) ?_
      obtain rfl := Option.some.inj hf
      exact xI_ret (r := (0 : Int32)) C G rfl dX12_feedsBy_74
    have hf := hr
    clear hr
    refine lv_if_ne (tgt := 69) hx hb dX12_feedsBy_27 (by decide) (fun h => ?_) (fun h => ?_)
    · have hf := it_f h hf
      exact absurd (Option.some.inj hf) (by decide)
    · have hf := it_t h hf
      refine lv_aload_n hx hb dX12_feedsBy_30 rfl (lv_at hl 1 rfl) ?_
      refine x_get C G fX12_21 (wM_at0) rfl dX12_feedsBy_31 ?_
      refine lv_bipush (v := 45) hx hb dX12_feedsBy_34 (by decide) ?_
      refine lv_iload_n hx hb dX12_feedsBy_36 rfl (lv_at hl 2 rfl) ?_
      refine lv_iadd hx hb dX12_feedsBy_37 ?_
      have hi := ck_in hf
      have hf := ck_go hf
      refine x_iald C G (wM_at3) hi dX12_feedsBy_38 ?_
      refine lv_iconst (v := 1) hx hb dX12_feedsBy_39 (by decide) ?_
      refine lv_icmp_ne (tgt := 73) hx hb dX12_feedsBy_40 (by decide) (fun h => ?_) (fun h => ?_)
      · have hf := it_f h hf
        exact J _ _ G
      · have hf := it_t h hf
        refine lv_iload_n hx hb dX12_feedsBy_43 rfl (lv_at hl 0 rfl) ?_
        refine lv_iload_n hx hb dX12_feedsBy_44 rfl (lv_at hl 3 rfl) ?_
        refine lv_iconst (v := 2) hx hb dX12_feedsBy_45 (by decide) ?_
        refine lv_idiv hx hb dX12_feedsBy_46 (by decide) ?_
        refine lv_isub hx hb dX12_feedsBy_47 ?_
        refine lv_aload_n hx hb dX12_feedsBy_48 rfl (lv_at hl 1 rfl) ?_
        refine x_get C G fX12_298.g (wM_at0) rfl dX12_feedsBy_49 ?_
        refine x_get C G fX12_209.g (wM_at9) rfl dX12_feedsBy_52 ?_
        refine lv_ineg hx hb dX12_feedsBy_55 ?_
        refine lv_aload_n hx hb dX12_feedsBy_56 rfl (lv_at hl 1 rfl) ?_
        refine x_get C G fX12_298.g (wM_at0) rfl dX12_feedsBy_57 ?_
        refine x_get C G fX12_209.g (wM_at9) rfl dX12_feedsBy_60 ?_
        obtain ⟨x5, hc, hf⟩ := bd_go hf
        refine xI_S C G (c_M_in_any hc) mX12_in kX12_118 ⟨Nat.le_of_ble_eq_true rfl, Nat.le_of_ble_eq_true rfl⟩ rfl hl.1 rfl (Nat.le_of_ble_eq_true rfl) ⟨Nat.le_refl _, Nat.le_refl _⟩ dX12_feedsBy_63 (fun hz5 H locs G => ?_)
        refine lv_if_eq (tgt := 73) hx hb dX12_feedsBy_66 (by decide) (fun h => ?_) (fun h => ?_)
        · have hf := it_t h hf
          exact J _ _ G
        · have hf := it_f h hf
          exact absurd (Option.some.inj hf) (by decide)
set_option maxHeartbeats 4000000 in
set_option maxRecDepth 100000 in
theorem c_M_isFeeding_m_M {l : Launch} {E : xE} {ad : Nat → Nat} {m_thrown m_trouble m_where m_taped m_size m_spot m_sort m_place m_number m_fault m_wrongAt m_acts m_images m_matchNow m_slopsNow m_matchesNow m_fedBest m_slopsBest m_sawBest m_leastNow m_stableNow m_fitsNow m_someNow m_everyNow m_askLeft tb_seats tb_slack tb_saw tb_quarrel tb_people tb_pairs tb_forks tb_unsures tb_trieds tb_fed : Int32} {m_rv : Value} {m_tape m_v m_x m_past m_kept m_slopped m_seatBest m_otherIn tb_seat tb_one tb_other tb_years tb_kind tb_unsure tb_may tb_tried : Nat → Int32} {m_word : Int64} {tb_name : Nat → Int64} {l1 : Int32} {R0 : Int32} (hf : f_M_isFeeding l1 m_x tb_slack = some R0) : xI l E yX12_isFeeding cX12_isFeeding 2 (some .boolean) 3 66 [.ref (ad 0), .int l1] (wM E ad m_thrown m_trouble m_where m_rv m_tape m_taped m_size m_spot m_sort m_place m_number m_fault m_wrongAt m_word m_v m_x m_past m_kept m_acts m_images m_matchNow m_slopsNow m_matchesNow m_slopped m_seatBest m_fedBest m_slopsBest m_sawBest m_leastNow m_stableNow m_fitsNow m_someNow m_everyNow m_otherIn m_askLeft tb_seats tb_slack tb_saw tb_quarrel tb_people tb_pairs tb_forks tb_unsures tb_trieds tb_fed tb_seat tb_one tb_other tb_years tb_kind tb_unsure tb_may tb_tried tb_name) (wM E ad m_thrown m_trouble m_where m_rv m_tape m_taped m_size m_spot m_sort m_place m_number m_fault m_wrongAt m_word m_v m_x m_past m_kept m_acts m_images m_matchNow m_slopsNow m_matchesNow m_slopped m_seatBest m_fedBest m_slopsBest m_sawBest m_leastNow m_stableNow m_fitsNow m_someNow m_everyNow m_otherIn m_askLeft tb_seats tb_slack tb_saw tb_quarrel tb_people tb_pairs tb_forks tb_unsures tb_trieds tb_fed tb_seat tb_one tb_other tb_years tb_kind tb_unsure tb_may tb_tried tb_name) R0 := by
  refine xI_of (by decide) (Nat.le_of_ble_eq_true rfl) (fun p e s m args below meth c A C ls hl G => ?_)
  have hx := C.1
  have hb := C.2.1
  have hl : lv_has ls 2 [(0, .ref (ad 0)), (1, .int l1)] := hl
  unfold f_M_isFeeding at hf
  refine lv_aload_n hx hb dX12_isFeeding_0 rfl (lv_at hl 0 rfl) ?_
  refine lv_iload_n hx hb dX12_isFeeding_1 rfl (lv_at hl 1 rfl) ?_
  refine lv_aload_n hx hb dX12_isFeeding_2 rfl (lv_at hl 0 rfl) ?_
  refine lv_iload_n hx hb dX12_isFeeding_3 rfl (lv_at hl 1 rfl) ?_
  obtain ⟨x1, hc, hf⟩ := bd_go hf
  refine xI_V C G (c_M_handleOf_m_M hc) mX12_handleOf kX12_321 (wM_at0) rfl ⟨Nat.le_of_ble_eq_true rfl, Nat.le_of_ble_eq_true rfl⟩ rfl hl.1 rfl (Nat.le_of_ble_eq_true rfl) ⟨Nat.le_refl _, Nat.le_refl _⟩ dX12_isFeeding_4 (fun hz H locs G => ?_)
  obtain ⟨x2, hc, hf⟩ := bd_go hf
  refine xI_V C G (c_M_feedsBy_m_M hc) mX12_feedsBy kX12_324 (wM_at0) rfl ⟨Nat.le_of_ble_eq_true rfl, Nat.le_of_ble_eq_true rfl⟩ rfl hl.1 rfl (Nat.le_of_ble_eq_true rfl) ⟨Nat.le_refl _, Nat.le_refl _⟩ dX12_isFeeding_7 (fun hz2 H locs G => ?_)
  obtain rfl := Option.some.inj hf
  exact xI_ret (r := x2) C G (hz2 _ rfl) dX12_isFeeding_10
set_option maxHeartbeats 4000000 in
set_option maxRecDepth 100000 in
theorem c_M_bit_any {l : Launch} {E : xE} {ws : va_W} {l0 : Int32} {l1 : Int32} {R0 : Int32} (hf : f_M_bit l0 l1 = some R0) : xI l E yX12_bit cX12_bit 2 (some .boolean) 0 0 [.int l0, .int l1] ws ws R0 := by
  refine xI_of (by decide) (Nat.le_of_ble_eq_true rfl) (fun p e s m args below meth c A C ls hl G => ?_)
  have hx := C.1
  have hb := C.2.1
  have hl : lv_has ls 2 [(0, .int l0), (1, .int l1)] := hl
  unfold f_M_bit at hf
  refine lv_iload_n hx hb dX12_bit_0 rfl (lv_at hl 0 rfl) ?_
  refine lv_iload_n hx hb dX12_bit_1 rfl (lv_at hl 1 rfl) ?_
  refine lv_ishr hx hb dX12_bit_2 ?_
  refine lv_iconst (v := 1) hx hb dX12_bit_3 (by decide) ?_
  refine lv_iand hx hb dX12_bit_4 ?_
  refine lv_iconst (v := 1) hx hb dX12_bit_5 (by decide) ?_
  refine lv_icmp_ne (tgt := 13) hx hb dX12_bit_6 (by decide) (fun h => ?_) (fun h => ?_)
  · have hf := it_f h hf
    refine lv_iconst (v := 0) hx hb dX12_bit_13 (by decide) ?_
    obtain rfl := Option.some.inj hf
    exact xI_ret (r := (0 : Int32)) C G rfl dX12_bit_14
  · have hf := it_t h hf
    refine lv_iconst (v := 1) hx hb dX12_bit_9 (by decide) ?_
    refine lv_goto (tgt := 14) hx hb dX12_bit_10 (by decide) ?_
    obtain rfl := Option.some.inj hf
    exact xI_ret (r := (1 : Int32)) C G rfl dX12_bit_14
set_option maxHeartbeats 4000000 in
set_option maxRecDepth 100000 in
theorem w_M_forksOf_m_M_L5 {p : Program} {l : Launch} {e : Env} {s : State} {m : MethodId} {args : Array Value} {below : List Frame} {meth : Method} {c : Code} {A : Nat → Prop} {E : xE} {Q : State → Prop} {ad : Nat → Nat} {m_thrown m_trouble m_where m_taped m_size m_spot m_sort m_place m_number m_fault m_wrongAt m_acts m_images m_matchNow m_slopsNow m_matchesNow m_fedBest m_slopsBest m_sawBest m_leastNow m_stableNow m_fitsNow m_someNow m_everyNow m_askLeft tb_seats tb_slack tb_saw tb_quarrel tb_people tb_pairs tb_forks tb_unsures tb_trieds tb_fed : Int32} {m_rv : Value} {m_tape m_v m_x m_past m_kept m_slopped m_seatBest m_otherIn tb_seat tb_one tb_other tb_years tb_kind tb_unsure tb_may tb_tried : Nat → Int32} {m_word : Int64} {tb_name : Nat → Int64} {l1 : Int32} {l2 : Int32} {o : Int32} (C : xC p s m args meth c cX12_forksOf 5 RX12 E A (some .int)) (J : ∀ (H : Heap) (locs : List Loc) (ls : Array Slot), xG s E A (wM E ad m_thrown m_trouble m_where m_rv m_tape m_taped m_size m_spot m_sort m_place m_number m_fault m_wrongAt m_word m_v m_x m_past m_kept m_acts m_images m_matchNow m_slopsNow m_matchesNow m_slopped m_seatBest m_fedBest m_slopsBest m_sawBest m_leastNow m_stableNow m_fitsNow m_someNow m_everyNow m_otherIn m_askLeft tb_seats tb_slack tb_saw tb_quarrel tb_people tb_pairs tb_forks tb_unsures tb_trieds tb_fed tb_seat tb_one tb_other tb_years tb_kind tb_unsure tb_may tb_tried tb_name) H locs → lv_has ls 5 [(3, .int o)] → W p l e (xR 1 21) s m args below meth c H locs 0 0 Q (F0 m 103 ls [])) :
    ∀ (n : Nat) (l3 : Int32) (l4 : Int32) (H : Heap) (locs : List Loc) (ls : Array Slot), xG s E A (wM E ad m_thrown m_trouble m_where m_rv m_tape m_taped m_size m_spot m_sort m_place m_number m_fault m_wrongAt m_word m_v m_x m_past m_kept m_acts m_images m_matchNow m_slopsNow m_matchesNow m_slopped m_seatBest m_fedBest m_slopsBest m_sawBest m_leastNow m_stableNow m_fitsNow m_someNow m_everyNow m_otherIn m_askLeft tb_seats tb_slack tb_saw tb_quarrel tb_people tb_pairs tb_forks tb_unsures tb_trieds tb_fed tb_seat tb_one tb_other tb_years tb_kind tb_unsure tb_may tb_tried tb_name) H locs → lv_has ls 5 [(0, .ref (ad 0)), (1, .int l1), (2, .int l2), (3, .int l3), (4, .int l4)] → f_M_forksOf_L5 l1 l2 m_x tb_seats n l3 l4 = some o → W p l e (xR 1 21) s m args below meth c H locs 0 0 Q (F0 m 5 ls []) := by
  have hx := C.1
  have hb := C.2.1
  intro n
  induction n with
  | zero =>
    intro l3 l4 H locs ls G hl hf
    exact nomatch (show (none : Option (Int32)) = some o from hf)
  | succ n ih =>
    intro l3 l4 H locs ls G hl hf
    rw [f_M_forksOf_L5] at hf
    refine lv_iload hx hb dX12_forksOf_5 (lv_at hl 4 rfl) ?_
    refine lv_aload_n hx hb dX12_forksOf_7 rfl (lv_at hl 0 rfl) ?_
    refine x_get C G fX12_298.g (wM_at0) rfl dX12_forksOf_8 ?_
    refine x_get C G fX12_149.g (wM_at9) rfl dX12_forksOf_11 ?_
    refine lv_icmp_ge (tgt := 103) hx hb dX12_forksOf_14 (by decide) (fun h => ?_) (fun h => ?_)
    · have hf := it_t h hf
      obtain rfl := Option.some.inj hf
      exact J _ _ _ G (lv_sub hl [3] rfl)
    · have hf := it_f h hf
      refine lv_iload_n hx hb dX12_forksOf_17 rfl (lv_at hl 3 rfl) ?_
      refine lv_aload_n hx hb dX12_forksOf_18 rfl (lv_at hl 0 rfl) ?_
      refine x_get C G fX12_21 (wM_at0) rfl dX12_forksOf_19 ?_
      refine lv_bipush (v := 56) hx hb dX12_forksOf_22 (by decide) ?_
      have hi := ck_in hf
      have hf := ck_go hf
      refine x_iald C G (wM_at3) hi dX12_forksOf_24 ?_
      refine lv_iload hx hb dX12_forksOf_25 (lv_at hl 4 rfl) ?_
      obtain ⟨x1, hc, hf⟩ := bd_go hf
      refine xI_S C G (c_M_bit_any hc) mX12_bit kX12_237 ⟨Nat.le_of_ble_eq_true rfl, Nat.le_of_ble_eq_true rfl⟩ rfl hl.1 rfl (Nat.le_of_ble_eq_true rfl) ⟨Nat.le_refl _, Nat.le_refl _⟩ dX12_forksOf_27 (fun hz1 H locs G => ?_)
      refine lv_if_eq (tgt := 94) hx hb dX12_forksOf_30 (by decide) (fun h => ?_) (fun h => ?_)
      · have hf := it_t h hf
        refine lv_iconst (v := 0) hx hb dX12_forksOf_94 (by decide) ?_
        refine lv_iadd hx hb dX12_forksOf_95 ?_
        refine lv_topi (fun x2 ex2 => ?_)
        have hf := lt_go ex2 hf
        refine lv_istore_n (lv' := [(3, .int x2), (0, .ref (ad 0)), (1, .int l1), (2, .int l2), (4, .int l4)]) hx hb dX12_forksOf_96 rfl hl (by decide) rfl (fun ls hl => ?_)
        obtain ⟨x3, ex3⟩ : ∃ z : Int32, z = l4 + (1 : Int32) := ⟨_, rfl⟩
        have hf := lt_go ex3 hf
        refine lv_iinc (v := x3) (lv' := [(4, .int x3), (3, .int x2), (0, .ref (ad 0)), (1, .int l1), (2, .int l2)]) hx hb dX12_forksOf_97 hl (k := 4) rfl (by rw [ex3]; rfl) (by decide) rfl (fun ls hl => ?_)
        refine lv_goto (tgt := 5) hx hb dX12_forksOf_100 (by decide) ?_
        exact ih x2 x3 _ _ _ G (lv_sub hl [2, 3, 4, 1, 0] rfl) hf
      · have hf := it_f h hf
        refine lv_iload hx hb dX12_forksOf_33 (lv_at hl 4 rfl) ?_
        refine lv_aload_n hx hb dX12_forksOf_35 rfl (lv_at hl 0 rfl) ?_
        refine x_get C G fX12_21 (wM_at0) rfl dX12_forksOf_36 ?_
        refine lv_iload_n hx hb dX12_forksOf_39 rfl (lv_at hl 1 rfl) ?_
        have hi := ck_in hf
        have hf := ck_go hf
        refine x_iald C G (wM_at3) hi dX12_forksOf_40 ?_
        obtain ⟨x4, hrx4, hf⟩ := bd_go hf
        have Jx4 : ∀ (H : Heap) (locs : List Loc) (ls : Array Slot), xG s E A (wM E ad m_thrown m_trouble m_where m_rv m_tape m_taped m_size m_spot m_sort m_place m_number m_fault m_wrongAt m_word m_v m_x m_past m_kept m_acts m_images m_matchNow m_slopsNow m_matchesNow m_slopped m_seatBest m_fedBest m_slopsBest m_sawBest m_leastNow m_stableNow m_fitsNow m_someNow m_everyNow m_otherIn m_askLeft tb_seats tb_slack tb_saw tb_quarrel tb_people tb_pairs tb_forks tb_unsures tb_trieds tb_fed tb_seat tb_one tb_other tb_years tb_kind tb_unsure tb_may tb_tried tb_name) H locs → lv_has ls 5 [(0, .ref (ad 0)), (1, .int l1), (2, .int l2), (4, .int l4)] → W p l e (xR 1 21) s m args below meth c H locs 0 0 Q (F0 m 49 ls [.int x4, .int l3]) := by
          intro H locs ls G hl
          refine lv_iload hx hb dX12_forksOf_49 (lv_at hl 3 rfl) ?_
          refine lv_aload_n hx hb dX12_forksOf_51 rfl (lv_at hl 0 rfl) ?_
          refine x_get C G fX12_21 (wM_at0) rfl dX12_forksOf_52 ?_
          refine lv_iload_n hx hb dX12_forksOf_55 rfl (lv_at hl 2 rfl) ?_
          have hi := ck_in hf
          have hf := ck_go hf
          refine x_iald C G (wM_at3) hi dX12_forksOf_56 ?_
          obtain ⟨x5, hrx5, hf⟩ := bd_go hf
          have Jx5 : ∀ (H : Heap) (locs : List Loc) (ls : Array Slot), xG s E A (wM E ad m_thrown m_trouble m_where m_rv m_tape m_taped m_size m_spot m_sort m_place m_number m_fault m_wrongAt m_word m_v m_x m_past m_kept m_acts m_images m_matchNow m_slopsNow m_matchesNow m_slopped m_seatBest m_fedBest m_slopsBest m_sawBest m_leastNow m_stableNow m_fitsNow m_someNow m_everyNow m_otherIn m_askLeft tb_seats tb_slack tb_saw tb_quarrel tb_people tb_pairs tb_forks tb_unsures tb_trieds tb_fed tb_seat tb_one tb_other tb_years tb_kind tb_unsure tb_may tb_tried tb_name) H locs → lv_has ls 5 [(0, .ref (ad 0)), (1, .int l1), (2, .int l2), (4, .int l4)] → W p l e (xR 1 21) s m args below meth c H locs 0 0 Q (F0 m 65 ls [.int x5, .int x4, .int l3]) := by
            intro H locs ls G hl
            obtain ⟨x6, hrx6, hf⟩ := bd_go hf
            have Jx6 : ∀ (H : Heap) (locs : List Loc) (ls : Array Slot), xG s E A (wM E ad m_thrown m_trouble m_where m_rv m_tape m_taped m_size m_spot m_sort m_place m_number m_fault m_wrongAt m_word m_v m_x m_past m_kept m_acts m_images m_matchNow m_slopsNow m_matchesNow m_slopped m_seatBest m_fedBest m_slopsBest m_sawBest m_leastNow m_stableNow m_fitsNow m_someNow m_everyNow m_otherIn m_askLeft tb_seats tb_slack tb_saw tb_quarrel tb_people tb_pairs tb_forks tb_unsures tb_trieds tb_fed tb_seat tb_one tb_other tb_years tb_kind tb_unsure tb_may tb_tried tb_name) H locs → lv_has ls 5 [(0, .ref (ad 0)), (1, .int l1), (2, .int l2), (4, .int l4)] → W p l e (xR 1 21) s m args below meth c H locs 0 0 Q (F0 m 95 ls [.int x6, .int l3]) := by
              intro H locs ls G hl
              refine lv_iadd hx hb dX12_forksOf_95 ?_
              refine lv_topi (fun x7 ex7 => ?_)
              have hf := lt_go ex7 hf
              refine lv_istore_n (lv' := [(3, .int x7), (0, .ref (ad 0)), (1, .int l1), (2, .int l2), (4, .int l4)]) hx hb dX12_forksOf_96 rfl hl (by decide) rfl (fun ls hl => ?_)
              obtain ⟨x8, ex8⟩ : ∃ z : Int32, z = l4 + (1 : Int32) := ⟨_, rfl⟩
              have hf := lt_go ex8 hf
              refine lv_iinc (v := x8) (lv' := [(4, .int x8), (3, .int x7), (0, .ref (ad 0)), (1, .int l1), (2, .int l2)]) hx hb dX12_forksOf_97 hl (k := 4) rfl (by rw [ex8]; rfl) (by decide) rfl (fun ls hl => ?_)
              refine lv_goto (tgt := 5) hx hb dX12_forksOf_100 (by decide) ?_
              exact ih x7 x8 _ _ _ G (lv_sub hl [2, 3, 4, 1, 0] rfl) hf
            have hf := hrx6
            obtain ⟨b9, hr, hf⟩ := bd_go hf
            cases b9 with
            | true =>
              have hf := it_t rfl hf
              have J : ∀ (H : Heap) (locs : List Loc), xG s E A (wM E ad m_thrown m_trouble m_where m_rv m_tape m_taped m_size m_spot m_sort m_place m_number m_fault m_wrongAt m_word m_v m_x m_past m_kept m_acts m_images m_matchNow m_slopsNow m_matchesNow m_slopped m_seatBest m_fedBest m_slopsBest m_sawBest m_leastNow m_stableNow m_fitsNow m_someNow m_everyNow m_otherIn m_askLeft tb_seats tb_slack tb_saw tb_quarrel tb_people tb_pairs tb_forks tb_unsures tb_trieds tb_fed tb_seat tb_one tb_other tb_years tb_kind tb_unsure tb_may tb_tried tb_name) H locs → W p l e (xR 1 21) s m args below meth c H locs 0 0 Q (F0 m 94 ls [.int l3]) := by
                intro H locs G
                refine lv_iconst (v := 0) hx hb dX12_forksOf_94 (by decide) ?_
                obtain rfl := Option.some.inj hf
                exact Jx6 _ _ _ G (lv_sub hl [0, 1, 2, 3] rfl)
              have hf := hr
              clear hr
              refine lv_icmp_eq (tgt := 94) hx hb dX12_forksOf_65 (by decide) (fun h => ?_) (fun h => ?_)
              · have hf := it_t h hf
                exact J _ _ G
              · have hf := it_f h hf
                refine lv_iload hx hb dX12_forksOf_68 (lv_at hl 3 rfl) ?_
                refine lv_aload_n hx hb dX12_forksOf_70 rfl (lv_at hl 0 rfl) ?_
                refine x_get C G fX12_21 (wM_at0) rfl dX12_forksOf_71 ?_
                refine lv_iload_n hx hb dX12_forksOf_74 rfl (lv_at hl 1 rfl) ?_
                have hi := ck_in hf
                have hf := ck_go hf
                refine x_iald C G (wM_at3) hi dX12_forksOf_75 ?_
                refine lv_icmp_eq (tgt := 94) hx hb dX12_forksOf_76 (by decide) (fun h => ?_) (fun h => ?_)
                · have hf := it_t h hf
                  exact J _ _ G
                · have hf := it_f h hf
                  refine lv_iload hx hb dX12_forksOf_79 (lv_at hl 3 rfl) ?_
                  refine lv_aload_n hx hb dX12_forksOf_81 rfl (lv_at hl 0 rfl) ?_
                  refine x_get C G fX12_21 (wM_at0) rfl dX12_forksOf_82 ?_
                  refine lv_iload_n hx hb dX12_forksOf_85 rfl (lv_at hl 2 rfl) ?_
                  have hi := ck_in hf
                  have hf := ck_go hf
                  refine x_iald C G (wM_at3) hi dX12_forksOf_86 ?_
                  refine lv_icmp_eq (tgt := 94) hx hb dX12_forksOf_87 (by decide) (fun h => ?_) (fun h => ?_)
                  · have hf := it_t h hf
                    exact J _ _ G
                  · have hf := it_f h hf
                    exact absurd (Option.some.inj hf) (by decide)
            | false =>
              have hf := it_f (by decide) hf
              have J : ∀ (H : Heap) (locs : List Loc), xG s E A (wM E ad m_thrown m_trouble m_where m_rv m_tape m_taped m_size m_spot m_sort m_place m_number m_fault m_wrongAt m_word m_v m_x m_past m_kept m_acts m_images m_matchNow m_slopsNow m_matchesNow m_slopped m_seatBest m_fedBest m_slopsBest m_sawBest m_leastNow m_stableNow m_fitsNow m_someNow m_everyNow m_otherIn m_askLeft tb_seats tb_slack tb_saw tb_quarrel tb_people tb_pairs tb_forks tb_unsures tb_trieds tb_fed tb_seat tb_one tb_other tb_years tb_kind tb_unsure tb_may tb_tried tb_name) H locs → W p l e (xR 1 21) s m args below meth c H locs 0 0 Q (F0 m 90 ls [.int l3]) := by
                intro H locs G
                refine lv_iconst (v := 1) hx hb dX12_forksOf_90 (by decide) ?_
                refine lv_goto (tgt := 95) hx hb dX12_forksOf_91 (by decide) ?_
                obtain rfl := Option.some.inj hf
                exact Jx6 _ _ _ G (lv_sub hl [0, 1, 2, 3] rfl)
              have hf := hr
              clear hr
              refine lv_icmp_eq (tgt := 94) hx hb dX12_forksOf_65 (by decide) (fun h => ?_) (fun h => ?_)
              · have hf := it_t h hf
                exact absurd (Option.some.inj hf) (by decide)
              · have hf := it_f h hf
                refine lv_iload hx hb dX12_forksOf_68 (lv_at hl 3 rfl) ?_
                refine lv_aload_n hx hb dX12_forksOf_70 rfl (lv_at hl 0 rfl) ?_
                refine x_get C G fX12_21 (wM_at0) rfl dX12_forksOf_71 ?_
                refine lv_iload_n hx hb dX12_forksOf_74 rfl (lv_at hl 1 rfl) ?_
                have hi := ck_in hf
                have hf := ck_go hf
                refine x_iald C G (wM_at3) hi dX12_forksOf_75 ?_
                refine lv_icmp_eq (tgt := 94) hx hb dX12_forksOf_76 (by decide) (fun h => ?_) (fun h => ?_)
                · have hf := it_t h hf
                  exact absurd (Option.some.inj hf) (by decide)
                · have hf := it_f h hf
                  refine lv_iload hx hb dX12_forksOf_79 (lv_at hl 3 rfl) ?_
                  refine lv_aload_n hx hb dX12_forksOf_81 rfl (lv_at hl 0 rfl) ?_
                  refine x_get C G fX12_21 (wM_at0) rfl dX12_forksOf_82 ?_
                  refine lv_iload_n hx hb dX12_forksOf_85 rfl (lv_at hl 2 rfl) ?_
                  have hi := ck_in hf
                  have hf := ck_go hf
                  refine x_iald C G (wM_at3) hi dX12_forksOf_86 ?_
                  refine lv_icmp_eq (tgt := 94) hx hb dX12_forksOf_87 (by decide) (fun h => ?_) (fun h => ?_)
                  · have hf := it_t h hf
                    exact absurd (Option.some.inj hf) (by decide)
                  · have hf := it_f h hf
                    exact J _ _ G
          have hf := hrx5
          refine lv_icmp_le (tgt := 64) hx hb dX12_forksOf_57 (by decide) (fun h => ?_) (fun h => ?_)
          · have hf := it_t h hf
            refine lv_iconst (v := 0) hx hb dX12_forksOf_64 (by decide) ?_
            obtain rfl := Option.some.inj hf
            exact Jx5 _ _ _ G (lv_sub hl [0, 1, 2, 3] rfl)
          · have hf := it_f h hf
            refine lv_iconst (v := 1) hx hb dX12_forksOf_60 (by decide) ?_
            refine lv_goto (tgt := 65) hx hb dX12_forksOf_61 (by decide) ?_
            obtain rfl := Option.some.inj hf
            exact Jx5 _ _ _ G (lv_sub hl [0, 1, 2, 3] rfl)
        have hf := hrx4
        refine lv_icmp_le (tgt := 48) hx hb dX12_forksOf_41 (by decide) (fun h => ?_) (fun h => ?_)
        · have hf := it_t h hf
          refine lv_iconst (v := 0) hx hb dX12_forksOf_48 (by decide) ?_
          obtain rfl := Option.some.inj hf
          exact Jx4 _ _ _ G (lv_sub hl [0, 1, 2, 4] rfl)
        · have hf := it_f h hf
          refine lv_iconst (v := 1) hx hb dX12_forksOf_44 (by decide) ?_
          refine lv_goto (tgt := 49) hx hb dX12_forksOf_45 (by decide) ?_
          obtain rfl := Option.some.inj hf
          exact Jx4 _ _ _ G (lv_sub hl [0, 1, 2, 4] rfl)
set_option maxHeartbeats 4000000 in
set_option maxRecDepth 100000 in
theorem c_M_forksOf_m_M {l : Launch} {E : xE} {ad : Nat → Nat} {m_thrown m_trouble m_where m_taped m_size m_spot m_sort m_place m_number m_fault m_wrongAt m_acts m_images m_matchNow m_slopsNow m_matchesNow m_fedBest m_slopsBest m_sawBest m_leastNow m_stableNow m_fitsNow m_someNow m_everyNow m_askLeft tb_seats tb_slack tb_saw tb_quarrel tb_people tb_pairs tb_forks tb_unsures tb_trieds tb_fed : Int32} {m_rv : Value} {m_tape m_v m_x m_past m_kept m_slopped m_seatBest m_otherIn tb_seat tb_one tb_other tb_years tb_kind tb_unsure tb_may tb_tried : Nat → Int32} {m_word : Int64} {tb_name : Nat → Int64} {l1 : Int32} {l2 : Int32} {R0 : Int32} (hf : f_M_forksOf l1 l2 m_x tb_seats = some R0) : xI l E yX12_forksOf cX12_forksOf 5 (some .int) 1 21 [.ref (ad 0), .int l1, .int l2] (wM E ad m_thrown m_trouble m_where m_rv m_tape m_taped m_size m_spot m_sort m_place m_number m_fault m_wrongAt m_word m_v m_x m_past m_kept m_acts m_images m_matchNow m_slopsNow m_matchesNow m_slopped m_seatBest m_fedBest m_slopsBest m_sawBest m_leastNow m_stableNow m_fitsNow m_someNow m_everyNow m_otherIn m_askLeft tb_seats tb_slack tb_saw tb_quarrel tb_people tb_pairs tb_forks tb_unsures tb_trieds tb_fed tb_seat tb_one tb_other tb_years tb_kind tb_unsure tb_may tb_tried tb_name) (wM E ad m_thrown m_trouble m_where m_rv m_tape m_taped m_size m_spot m_sort m_place m_number m_fault m_wrongAt m_word m_v m_x m_past m_kept m_acts m_images m_matchNow m_slopsNow m_matchesNow m_slopped m_seatBest m_fedBest m_slopsBest m_sawBest m_leastNow m_stableNow m_fitsNow m_someNow m_everyNow m_otherIn m_askLeft tb_seats tb_slack tb_saw tb_quarrel tb_people tb_pairs tb_forks tb_unsures tb_trieds tb_fed tb_seat tb_one tb_other tb_years tb_kind tb_unsure tb_may tb_tried tb_name) R0 := by
  refine xI_of (by decide) (Nat.le_of_ble_eq_true rfl) (fun p e s m args below meth c A C ls hl G => ?_)
  have hx := C.1
  have hb := C.2.1
  have hl : lv_has ls 5 [(0, .ref (ad 0)), (1, .int l1), (2, .int l2)] := hl
  unfold f_M_forksOf at hf
  refine lv_iconst (v := 0) hx hb dX12_forksOf_0 (by decide) ?_
  refine lv_istore_n (lv' := [(3, .int (0 : Int32)), (0, .ref (ad 0)), (1, .int l1), (2, .int l2)]) hx hb dX12_forksOf_1 rfl hl (by decide) rfl (fun ls hl => ?_)
  refine lv_iconst (v := 0) hx hb dX12_forksOf_2 (by decide) ?_
  refine lv_istore (lv' := [(4, .int (0 : Int32)), (3, .int (0 : Int32)), (0, .ref (ad 0)), (1, .int l1), (2, .int l2)]) hx hb dX12_forksOf_3 hl (by decide) rfl (fun ls hl => ?_)
  obtain ⟨x10, hr, hf⟩ := bd_go hf
  have Jx10 : ∀ (H : Heap) (locs : List Loc) (ls : Array Slot), xG s E A (wM E ad m_thrown m_trouble m_where m_rv m_tape m_taped m_size m_spot m_sort m_place m_number m_fault m_wrongAt m_word m_v m_x m_past m_kept m_acts m_images m_matchNow m_slopsNow m_matchesNow m_slopped m_seatBest m_fedBest m_slopsBest m_sawBest m_leastNow m_stableNow m_fitsNow m_someNow m_everyNow m_otherIn m_askLeft tb_seats tb_slack tb_saw tb_quarrel tb_people tb_pairs tb_forks tb_unsures tb_trieds tb_fed tb_seat tb_one tb_other tb_years tb_kind tb_unsure tb_may tb_tried tb_name) H locs → lv_has ls 5 [(3, .int x10)] → W p l e (xR 1 21) s m args below meth c H locs 0 0 (MQ below (xqI E A (wM E ad m_thrown m_trouble m_where m_rv m_tape m_taped m_size m_spot m_sort m_place m_number m_fault m_wrongAt m_word m_v m_x m_past m_kept m_acts m_images m_matchNow m_slopsNow m_matchesNow m_slopped m_seatBest m_fedBest m_slopsBest m_sawBest m_leastNow m_stableNow m_fitsNow m_someNow m_everyNow m_otherIn m_askLeft tb_seats tb_slack tb_saw tb_quarrel tb_people tb_pairs tb_forks tb_unsures tb_trieds tb_fed tb_seat tb_one tb_other tb_years tb_kind tb_unsure tb_may tb_tried tb_name) (some .int) R0) args s 0 0 A) (F0 m 103 ls []) := by
    intro H locs ls G hl
    refine lv_iload_n hx hb dX12_forksOf_103 rfl (lv_at hl 0 rfl) ?_
    obtain rfl := Option.some.inj hf
    exact xI_ret C G rfl dX12_forksOf_104
  exact w_M_forksOf_m_M_L5 C Jx10 fu _ _ _ _ _ G (lv_sub hl [2, 3, 4, 1, 0] rfl) hr
set_option maxHeartbeats 4000000 in
set_option maxRecDepth 100000 in
theorem c_M_slopsOf_m_M {l : Launch} {E : xE} {ad : Nat → Nat} {m_thrown m_trouble m_where m_taped m_size m_spot m_sort m_place m_number m_fault m_wrongAt m_acts m_images m_matchNow m_slopsNow m_matchesNow m_fedBest m_slopsBest m_sawBest m_leastNow m_stableNow m_fitsNow m_someNow m_everyNow m_askLeft tb_seats tb_slack tb_saw tb_quarrel tb_people tb_pairs tb_forks tb_unsures tb_trieds tb_fed : Int32} {m_rv : Value} {m_tape m_v m_x m_past m_kept m_slopped m_seatBest m_otherIn tb_seat tb_one tb_other tb_years tb_kind tb_unsure tb_may tb_tried : Nat → Int32} {m_word : Int64} {tb_name : Nat → Int64} {l1 : Int32} {R0 : Int32} (hf : f_M_slopsOf l1 m_x tb_seats = some R0) : xI l E yX12_slopsOf cX12_slopsOf 3 (some .int) 2 45 [.ref (ad 0), .int l1] (wM E ad m_thrown m_trouble m_where m_rv m_tape m_taped m_size m_spot m_sort m_place m_number m_fault m_wrongAt m_word m_v m_x m_past m_kept m_acts m_images m_matchNow m_slopsNow m_matchesNow m_slopped m_seatBest m_fedBest m_slopsBest m_sawBest m_leastNow m_stableNow m_fitsNow m_someNow m_everyNow m_otherIn m_askLeft tb_seats tb_slack tb_saw tb_quarrel tb_people tb_pairs tb_forks tb_unsures tb_trieds tb_fed tb_seat tb_one tb_other tb_years tb_kind tb_unsure tb_may tb_tried tb_name) (wM E ad m_thrown m_trouble m_where m_rv m_tape m_taped m_size m_spot m_sort m_place m_number m_fault m_wrongAt m_word m_v m_x m_past m_kept m_acts m_images m_matchNow m_slopsNow m_matchesNow m_slopped m_seatBest m_fedBest m_slopsBest m_sawBest m_leastNow m_stableNow m_fitsNow m_someNow m_everyNow m_otherIn m_askLeft tb_seats tb_slack tb_saw tb_quarrel tb_people tb_pairs tb_forks tb_unsures tb_trieds tb_fed tb_seat tb_one tb_other tb_years tb_kind tb_unsure tb_may tb_tried tb_name) R0 := by
  refine xI_of (by decide) (Nat.le_of_ble_eq_true rfl) (fun p e s m args below meth c A C ls hl G => ?_)
  have hx := C.1
  have hb := C.2.1
  have hl : lv_has ls 3 [(0, .ref (ad 0)), (1, .int l1)] := hl
  unfold f_M_slopsOf at hf
  refine lv_aload_n hx hb dX12_slopsOf_0 rfl (lv_at hl 0 rfl) ?_
  refine lv_iload_n hx hb dX12_slopsOf_1 rfl (lv_at hl 1 rfl) ?_
  obtain ⟨x1, hc, hf⟩ := bd_go hf
  refine xI_V C G (c_M_farPair_m_M hc) mX12_farPair kX12_315 (wM_at0) rfl ⟨Nat.le_of_ble_eq_true rfl, Nat.le_of_ble_eq_true rfl⟩ rfl hl.1 rfl (Nat.le_of_ble_eq_true rfl) ⟨Nat.le_refl _, Nat.le_refl _⟩ dX12_slopsOf_2 (fun hz H locs G => ?_)
  refine lv_iconst (v := 3) hx hb dX12_slopsOf_5 (by decide) ?_
  refine lv_aload_n hx hb dX12_slopsOf_6 rfl (lv_at hl 0 rfl) ?_
  refine lv_aload_n hx hb dX12_slopsOf_7 rfl (lv_at hl 0 rfl) ?_
  refine x_get C G fX12_21 (wM_at0) rfl dX12_slopsOf_8 ?_
  refine lv_iconst (v := 5) hx hb dX12_slopsOf_11 (by decide) ?_
  refine lv_iload_n hx hb dX12_slopsOf_12 rfl (lv_at hl 1 rfl) ?_
  refine lv_iadd hx hb dX12_slopsOf_13 ?_
  have hi := ck_in hf
  have hf := ck_go hf
  refine x_iald C G (wM_at3) hi dX12_slopsOf_14 ?_
  refine lv_aload_n hx hb dX12_slopsOf_15 rfl (lv_at hl 0 rfl) ?_
  refine x_get C G fX12_21 (wM_at0) rfl dX12_slopsOf_16 ?_
  refine lv_bipush (v := 15) hx hb dX12_slopsOf_19 (by decide) ?_
  refine lv_iload_n hx hb dX12_slopsOf_21 rfl (lv_at hl 1 rfl) ?_
  refine lv_iadd hx hb dX12_slopsOf_22 ?_
  have hi := ck_in hf
  have hf := ck_go hf
  refine x_iald C G (wM_at3) hi dX12_slopsOf_23 ?_
  obtain ⟨x2, hc, hf⟩ := bd_go hf
  refine xI_V C G (c_M_forksOf_m_M hc) mX12_forksOf kX12_318 (wM_at0) rfl ⟨Nat.le_of_ble_eq_true rfl, Nat.le_of_ble_eq_true rfl⟩ rfl hl.1 rfl (Nat.le_of_ble_eq_true rfl) ⟨Nat.le_refl _, Nat.le_refl _⟩ dX12_slopsOf_24 (fun hz H locs G => ?_)
  refine lv_imul hx hb dX12_slopsOf_27 ?_
  refine lv_isub hx hb dX12_slopsOf_28 ?_
  refine lv_topi (fun x3 ex3 => ?_)
  have hf := lt_go ex3 hf
  refine lv_istore_n (lv' := [(2, .int x3), (0, .ref (ad 0)), (1, .int l1)]) hx hb dX12_slopsOf_29 rfl hl (by decide) rfl (fun ls hl => ?_)
  refine lv_iload_n hx hb dX12_slopsOf_30 rfl (lv_at hl 0 rfl) ?_
  refine lv_if_le (tgt := 38) hx hb dX12_slopsOf_31 (by decide) (fun h => ?_) (fun h => ?_)
  · have hf := it_t h hf
    refine lv_iconst (v := 0) hx hb dX12_slopsOf_38 (by decide) ?_
    obtain rfl := Option.some.inj hf
    exact xI_ret C G rfl dX12_slopsOf_39
  · have hf := it_f h hf
    refine lv_iload_n hx hb dX12_slopsOf_34 rfl (lv_at hl 0 rfl) ?_
    refine lv_goto (tgt := 39) hx hb dX12_slopsOf_35 (by decide) ?_
    obtain rfl := Option.some.inj hf
    exact xI_ret C G rfl dX12_slopsOf_39
set_option maxHeartbeats 4000000 in
set_option maxRecDepth 100000 in
theorem c_M_pair_m_M {l : Launch} {E : xE} {ad : Nat → Nat} {m_thrown m_trouble m_where m_taped m_size m_spot m_sort m_place m_number m_fault m_wrongAt m_acts m_images m_matchNow m_slopsNow m_matchesNow m_fedBest m_slopsBest m_sawBest m_leastNow m_stableNow m_fitsNow m_someNow m_everyNow m_askLeft tb_seats tb_slack tb_saw tb_quarrel tb_people tb_pairs tb_forks tb_unsures tb_trieds tb_fed : Int32} {m_rv : Value} {m_tape m_v m_x m_past m_kept m_slopped m_seatBest m_otherIn tb_seat tb_one tb_other tb_years tb_kind tb_unsure tb_may tb_tried : Nat → Int32} {m_word : Int64} {tb_name : Nat → Int64} {l1 : Int32} {l2 : Int32} {R0 : Int32 × Int32 × Int32 × Int32 × (Nat → Int32)} (hf : f_M_pair l1 l2 m_v m_x tb_seats tb_slack = some R0) : xI l E yX12_pair cX12_pair 3 (some .int) 4 87 [.ref (ad 0), .int l1, .int l2] (wM E ad m_thrown m_trouble m_where m_rv m_tape m_taped m_size m_spot m_sort m_place m_number m_fault m_wrongAt m_word m_v m_x m_past m_kept m_acts m_images m_matchNow m_slopsNow m_matchesNow m_slopped m_seatBest m_fedBest m_slopsBest m_sawBest m_leastNow m_stableNow m_fitsNow m_someNow m_everyNow m_otherIn m_askLeft tb_seats tb_slack tb_saw tb_quarrel tb_people tb_pairs tb_forks tb_unsures tb_trieds tb_fed tb_seat tb_one tb_other tb_years tb_kind tb_unsure tb_may tb_tried tb_name) (wM E ad R0.2.1 R0.2.2.1 R0.2.2.2.1 m_rv m_tape m_taped m_size m_spot m_sort m_place m_number m_fault m_wrongAt m_word m_v R0.2.2.2.2 m_past m_kept m_acts m_images m_matchNow m_slopsNow m_matchesNow m_slopped m_seatBest m_fedBest m_slopsBest m_sawBest m_leastNow m_stableNow m_fitsNow m_someNow m_everyNow m_otherIn m_askLeft tb_seats tb_slack tb_saw tb_quarrel tb_people tb_pairs tb_forks tb_unsures tb_trieds tb_fed tb_seat tb_one tb_other tb_years tb_kind tb_unsure tb_may tb_tried tb_name) R0.1 := by
  refine xI_of (by decide) (Nat.le_of_ble_eq_true rfl) (fun p e s m args below meth c A C ls hl G => ?_)
  have hx := C.1
  have hb := C.2.1
  have hl : lv_has ls 3 [(0, .ref (ad 0)), (1, .int l1), (2, .int l2)] := hl
  unfold f_M_pair at hf
  refine lv_aload_n hx hb dX12_pair_0 rfl (lv_at hl 0 rfl) ?_
  refine lv_iconst (v := 0) hx hb dX12_pair_1 (by decide) ?_
  refine x_put (ws' := (wM E ad (0 : Int32) m_trouble m_where m_rv m_tape m_taped m_size m_spot m_sort m_place m_number m_fault m_wrongAt m_word m_v m_x m_past m_kept m_acts m_images m_matchNow m_slopsNow m_matchesNow m_slopped m_seatBest m_fedBest m_slopsBest m_sawBest m_leastNow m_stableNow m_fitsNow m_someNow m_everyNow m_otherIn m_askLeft tb_seats tb_slack tb_saw tb_quarrel tb_people tb_pairs tb_forks tb_unsures tb_trieds tb_fed tb_seat tb_one tb_other tb_years tb_kind tb_unsure tb_may tb_tried tb_name)) C G fX12_39 (wM_at0) rfl rfl (Nat.le_of_ble_eq_true rfl) wM_set_m_thrown dX12_pair_2 (fun H locs G => ?_)
  refine lv_aload_n hx hb dX12_pair_5 rfl (lv_at hl 0 rfl) ?_
  refine lv_iload_n hx hb dX12_pair_6 rfl (lv_at hl 1 rfl) ?_
  obtain ⟨x1, hc, hf⟩ := bd_go hf
  refine xI_V C G (c_M_isPair_m_M hc) mX12_isPair kX12_330 (wM_at0) rfl ⟨Nat.le_of_ble_eq_true rfl, Nat.le_of_ble_eq_true rfl⟩ rfl hl.1 rfl (Nat.le_of_ble_eq_true rfl) ⟨Nat.le_refl _, Nat.le_refl _⟩ dX12_pair_7 (fun hz1 H locs G => ?_)
  obtain ⟨b2, hr, hf⟩ := bd_go hf
  cases b2 with
  | true =>
    have hf := it_t rfl hf
    have J : ∀ (H : Heap) (locs : List Loc), xG s E A (wM E ad (0 : Int32) m_trouble m_where m_rv m_tape m_taped m_size m_spot m_sort m_place m_number m_fault m_wrongAt m_word m_v m_x m_past m_kept m_acts m_images m_matchNow m_slopsNow m_matchesNow m_slopped m_seatBest m_fedBest m_slopsBest m_sawBest m_leastNow m_stableNow m_fitsNow m_someNow m_everyNow m_otherIn m_askLeft tb_seats tb_slack tb_saw tb_quarrel tb_people tb_pairs tb_forks tb_unsures tb_trieds tb_fed tb_seat tb_one tb_other tb_years tb_kind tb_unsure tb_may tb_tried tb_name) H locs → W p l e (xR 4 87) s m args below meth c H locs 0 0 (MQ below (xqI E A (wM E ad R0.2.1 R0.2.2.1 R0.2.2.2.1 m_rv m_tape m_taped m_size m_spot m_sort m_place m_number m_fault m_wrongAt m_word m_v R0.2.2.2.2 m_past m_kept m_acts m_images m_matchNow m_slopsNow m_matchesNow m_slopped m_seatBest m_fedBest m_slopsBest m_sawBest m_leastNow m_stableNow m_fitsNow m_someNow m_everyNow m_otherIn m_askLeft tb_seats tb_slack tb_saw tb_quarrel tb_people tb_pairs tb_forks tb_unsures tb_trieds tb_fed tb_seat tb_one tb_other tb_years tb_kind tb_unsure tb_may tb_tried tb_name) (some .int) R0.1) args s 0 0 A) (F0 m 23 ls []) := by
      intro H locs G
      refine lv_aload_n hx hb dX12_pair_23 rfl (lv_at hl 0 rfl) ?_
      refine lv_iconst (v := 1) hx hb dX12_pair_24 (by decide) ?_
      obtain ⟨x3, hc, hf⟩ := bd_go hf
      refine xI_V C G (c_M_refused_m_M hc) mX12_refused kX12_45 (wM_at0) rfl ⟨Nat.le_of_ble_eq_true rfl, Nat.le_of_ble_eq_true rfl⟩ rfl hl.1 rfl (Nat.le_of_ble_eq_true rfl) ⟨Nat.le_refl _, Nat.le_refl _⟩ dX12_pair_25 (fun hz H locs G => ?_)
      obtain rfl := Option.some.inj hf
      exact xI_ret C G rfl dX12_pair_28
    have hf := hr
    clear hr
    refine lv_if_eq (tgt := 23) hx hb dX12_pair_10 (by decide) (fun h => ?_) (fun h => ?_)
    · have hf := it_t h hf
      exact J _ _ G
    · have hf := it_f h hf
      refine lv_iload_n hx hb dX12_pair_13 rfl (lv_at hl 2 rfl) ?_
      refine lv_iconst (v := 0) hx hb dX12_pair_14 (by decide) ?_
      refine lv_bipush (v := 7) hx hb dX12_pair_15 (by decide) ?_
      obtain ⟨x4, hc, hf⟩ := bd_go hf
      refine xI_S C G (c_M_in_any hc) mX12_in kX12_118 ⟨Nat.le_of_ble_eq_true rfl, Nat.le_of_ble_eq_true rfl⟩ rfl hl.1 rfl (Nat.le_of_ble_eq_true rfl) ⟨Nat.le_refl _, Nat.le_refl _⟩ dX12_pair_17 (fun hz4 H locs G => ?_)
      refine lv_if_ne (tgt := 29) hx hb dX12_pair_20 (by decide) (fun h => ?_) (fun h => ?_)
      · have hf := it_f h hf
        exact absurd (Option.some.inj hf) (by decide)
      · have hf := it_t h hf
        exact J _ _ G
  | false =>
    have hf := it_f (by decide) hf
    have J : ∀ (H : Heap) (locs : List Loc), xG s E A (wM E ad (0 : Int32) m_trouble m_where m_rv m_tape m_taped m_size m_spot m_sort m_place m_number m_fault m_wrongAt m_word m_v m_x m_past m_kept m_acts m_images m_matchNow m_slopsNow m_matchesNow m_slopped m_seatBest m_fedBest m_slopsBest m_sawBest m_leastNow m_stableNow m_fitsNow m_someNow m_everyNow m_otherIn m_askLeft tb_seats tb_slack tb_saw tb_quarrel tb_people tb_pairs tb_forks tb_unsures tb_trieds tb_fed tb_seat tb_one tb_other tb_years tb_kind tb_unsure tb_may tb_tried tb_name) H locs → W p l e (xR 4 87) s m args below meth c H locs 0 0 (MQ below (xqI E A (wM E ad R0.2.1 R0.2.2.1 R0.2.2.2.1 m_rv m_tape m_taped m_size m_spot m_sort m_place m_number m_fault m_wrongAt m_word m_v R0.2.2.2.2 m_past m_kept m_acts m_images m_matchNow m_slopsNow m_matchesNow m_slopped m_seatBest m_fedBest m_slopsBest m_sawBest m_leastNow m_stableNow m_fitsNow m_someNow m_everyNow m_otherIn m_askLeft tb_seats tb_slack tb_saw tb_quarrel tb_people tb_pairs tb_forks tb_unsures tb_trieds tb_fed tb_seat tb_one tb_other tb_years tb_kind tb_unsure tb_may tb_tried tb_name) (some .int) R0.1) args s 0 0 A) (F0 m 29 ls []) := by
      intro H locs G
      refine lv_aload_n hx hb dX12_pair_29 rfl (lv_at hl 0 rfl) ?_
      obtain ⟨x5, hc, hf⟩ := bd_go hf
      refine xV_V C G (c_M_works_m_M hc) mX12_works kX12_333 (wM_at0) rfl ⟨Nat.le_of_ble_eq_true rfl, Nat.le_of_ble_eq_true rfl⟩ rfl hl.1 rfl (Nat.le_of_ble_eq_true rfl) ⟨Nat.le_refl _, Nat.le_refl _⟩ dX12_pair_30 (fun H locs G => ?_)
      refine lv_iload_n hx hb dX12_pair_33 rfl (lv_at hl 2 rfl) ?_
      by_cases hs0 : l2 = (0 : Int32)
      · have hf := it_t hs0 hf
        refine x_tab (k := 0) (tgt := 76) hx hb dX12_pair_34 hs0 (by decide) (by decide) rfl (by decide) ?_
        refine lv_aload_n hx hb dX12_pair_76 rfl (lv_at hl 0 rfl) ?_
        refine lv_aload_n hx hb dX12_pair_77 rfl (lv_at hl 0 rfl) ?_
        refine x_get C G fX12_21 (wM_at0) rfl dX12_pair_78 ?_
        refine lv_iconst (v := 5) hx hb dX12_pair_81 (by decide) ?_
        refine lv_iload_n hx hb dX12_pair_82 rfl (lv_at hl 1 rfl) ?_
        refine lv_iadd hx hb dX12_pair_83 ?_
        have hi := ck_in hf
        have hf := ck_go hf
        refine x_iald C G (wM_at3) hi dX12_pair_84 ?_
        obtain ⟨x6, hc, hf⟩ := bd_go hf
        refine xI_V C G (c_M_good_m_M hc) mX12_good kX12_49 (wM_at0) rfl ⟨Nat.le_of_ble_eq_true rfl, Nat.le_of_ble_eq_true rfl⟩ rfl hl.1 rfl (Nat.le_of_ble_eq_true rfl) ⟨Nat.le_refl _, Nat.le_refl _⟩ dX12_pair_85 (fun hz H locs G => ?_)
        obtain rfl := Option.some.inj hf
        exact xI_ret C G rfl dX12_pair_88
      have hf := it_f hs0 hf
      by_cases hs1 : l2 = (1 : Int32)
      · have hf := it_t hs1 hf
        refine x_tab (k := 1) (tgt := 89) hx hb dX12_pair_34 hs1 (by decide) (by decide) rfl (by decide) ?_
        refine lv_aload_n hx hb dX12_pair_89 rfl (lv_at hl 0 rfl) ?_
        refine lv_aload_n hx hb dX12_pair_90 rfl (lv_at hl 0 rfl) ?_
        refine x_get C G fX12_21 (wM_at0) rfl dX12_pair_91 ?_
        refine lv_bipush (v := 15) hx hb dX12_pair_94 (by decide) ?_
        refine lv_iload_n hx hb dX12_pair_96 rfl (lv_at hl 1 rfl) ?_
        refine lv_iadd hx hb dX12_pair_97 ?_
        have hi := ck_in hf
        have hf := ck_go hf
        refine x_iald C G (wM_at3) hi dX12_pair_98 ?_
        obtain ⟨x7, hc, hf⟩ := bd_go hf
        refine xI_V C G (c_M_good_m_M hc) mX12_good kX12_49 (wM_at0) rfl ⟨Nat.le_of_ble_eq_true rfl, Nat.le_of_ble_eq_true rfl⟩ rfl hl.1 rfl (Nat.le_of_ble_eq_true rfl) ⟨Nat.le_refl _, Nat.le_refl _⟩ dX12_pair_99 (fun hz H locs G => ?_)
        obtain rfl := Option.some.inj hf
        exact xI_ret C G rfl dX12_pair_102
      have hf := it_f hs1 hf
      by_cases hs2 : l2 = (2 : Int32)
      · have hf := it_t hs2 hf
        refine x_tab (k := 2) (tgt := 103) hx hb dX12_pair_34 hs2 (by decide) (by decide) rfl (by decide) ?_
        refine lv_aload_n hx hb dX12_pair_103 rfl (lv_at hl 0 rfl) ?_
        refine lv_aload_n hx hb dX12_pair_104 rfl (lv_at hl 0 rfl) ?_
        refine x_get C G fX12_21 (wM_at0) rfl dX12_pair_105 ?_
        refine lv_bipush (v := 25) hx hb dX12_pair_108 (by decide) ?_
        refine lv_iload_n hx hb dX12_pair_110 rfl (lv_at hl 1 rfl) ?_
        refine lv_iadd hx hb dX12_pair_111 ?_
        have hi := ck_in hf
        have hf := ck_go hf
        refine x_iald C G (wM_at3) hi dX12_pair_112 ?_
        obtain ⟨x8, hc, hf⟩ := bd_go hf
        refine xI_V C G (c_M_good_m_M hc) mX12_good kX12_49 (wM_at0) rfl ⟨Nat.le_of_ble_eq_true rfl, Nat.le_of_ble_eq_true rfl⟩ rfl hl.1 rfl (Nat.le_of_ble_eq_true rfl) ⟨Nat.le_refl _, Nat.le_refl _⟩ dX12_pair_113 (fun hz H locs G => ?_)
        obtain rfl := Option.some.inj hf
        exact xI_ret C G rfl dX12_pair_116
      have hf := it_f hs2 hf
      by_cases hs3 : l2 = (3 : Int32)
      · have hf := it_t hs3 hf
        refine x_tab (k := 3) (tgt := 117) hx hb dX12_pair_34 hs3 (by decide) (by decide) rfl (by decide) ?_
        refine lv_aload_n hx hb dX12_pair_117 rfl (lv_at hl 0 rfl) ?_
        refine lv_aload_n hx hb dX12_pair_118 rfl (lv_at hl 0 rfl) ?_
        refine lv_iload_n hx hb dX12_pair_119 rfl (lv_at hl 1 rfl) ?_
        obtain ⟨x9, hc, hf⟩ := bd_go hf
        refine xI_V C G (c_M_handleOf_m_M hc) mX12_handleOf kX12_321 (wM_at0) rfl ⟨Nat.le_of_ble_eq_true rfl, Nat.le_of_ble_eq_true rfl⟩ rfl hl.1 rfl (Nat.le_of_ble_eq_true rfl) ⟨Nat.le_refl _, Nat.le_refl _⟩ dX12_pair_120 (fun hz H locs G => ?_)
        obtain ⟨x10, hc, hf⟩ := bd_go hf
        refine xI_V C G (c_M_good_m_M hc) mX12_good kX12_49 (wM_at0) rfl ⟨Nat.le_of_ble_eq_true rfl, Nat.le_of_ble_eq_true rfl⟩ rfl hl.1 rfl (Nat.le_of_ble_eq_true rfl) ⟨Nat.le_refl _, Nat.le_refl _⟩ dX12_pair_123 (fun hz H locs G => ?_)
        obtain rfl := Option.some.inj hf
        exact xI_ret C G rfl dX12_pair_126
      have hf := it_f hs3 hf
      by_cases hs4 : l2 = (4 : Int32)
      · have hf := it_t hs4 hf
        refine x_tab (k := 4) (tgt := 127) hx hb dX12_pair_34 hs4 (by decide) (by decide) rfl (by decide) ?_
        refine lv_aload_n hx hb dX12_pair_127 rfl (lv_at hl 0 rfl) ?_
        refine lv_aload_n hx hb dX12_pair_128 rfl (lv_at hl 0 rfl) ?_
        refine x_get C G fX12_21 (wM_at0) rfl dX12_pair_129 ?_
        refine lv_bipush (v := 45) hx hb dX12_pair_132 (by decide) ?_
        refine lv_iload_n hx hb dX12_pair_134 rfl (lv_at hl 1 rfl) ?_
        refine lv_iadd hx hb dX12_pair_135 ?_
        have hi := ck_in hf
        have hf := ck_go hf
        refine x_iald C G (wM_at3) hi dX12_pair_136 ?_
        obtain ⟨x11, hc, hf⟩ := bd_go hf
        refine xI_V C G (c_M_good_m_M hc) mX12_good kX12_49 (wM_at0) rfl ⟨Nat.le_of_ble_eq_true rfl, Nat.le_of_ble_eq_true rfl⟩ rfl hl.1 rfl (Nat.le_of_ble_eq_true rfl) ⟨Nat.le_refl _, Nat.le_refl _⟩ dX12_pair_137 (fun hz H locs G => ?_)
        obtain rfl := Option.some.inj hf
        exact xI_ret C G rfl dX12_pair_140
      have hf := it_f hs4 hf
      by_cases hs5 : l2 = (5 : Int32)
      · have hf := it_t hs5 hf
        refine x_tab (k := 5) (tgt := 141) hx hb dX12_pair_34 hs5 (by decide) (by decide) rfl (by decide) ?_
        refine lv_aload_n hx hb dX12_pair_141 rfl (lv_at hl 0 rfl) ?_
        refine lv_aload_n hx hb dX12_pair_142 rfl (lv_at hl 0 rfl) ?_
        refine x_get C G fX12_21 (wM_at0) rfl dX12_pair_143 ?_
        refine lv_bipush (v := 35) hx hb dX12_pair_146 (by decide) ?_
        refine lv_iload_n hx hb dX12_pair_148 rfl (lv_at hl 1 rfl) ?_
        refine lv_iadd hx hb dX12_pair_149 ?_
        have hi := ck_in hf
        have hf := ck_go hf
        refine x_iald C G (wM_at3) hi dX12_pair_150 ?_
        obtain ⟨x12, hc, hf⟩ := bd_go hf
        refine xI_V C G (c_M_good_m_M hc) mX12_good kX12_49 (wM_at0) rfl ⟨Nat.le_of_ble_eq_true rfl, Nat.le_of_ble_eq_true rfl⟩ rfl hl.1 rfl (Nat.le_of_ble_eq_true rfl) ⟨Nat.le_refl _, Nat.le_refl _⟩ dX12_pair_151 (fun hz H locs G => ?_)
        obtain rfl := Option.some.inj hf
        exact xI_ret C G rfl dX12_pair_154
      have hf := it_f hs5 hf
      by_cases hs6 : l2 = (6 : Int32)
      · have hf := it_t hs6 hf
        refine x_tab (k := 6) (tgt := 155) hx hb dX12_pair_34 hs6 (by decide) (by decide) rfl (by decide) ?_
        refine lv_aload_n hx hb dX12_pair_155 rfl (lv_at hl 0 rfl) ?_
        refine lv_aload_n hx hb dX12_pair_156 rfl (lv_at hl 0 rfl) ?_
        refine lv_iload_n hx hb dX12_pair_157 rfl (lv_at hl 1 rfl) ?_
        obtain ⟨x13, hc, hf⟩ := bd_go hf
        refine xI_V C G (c_M_isFeeding_m_M hc) mX12_isFeeding kX12_336 (wM_at0) rfl ⟨Nat.le_of_ble_eq_true rfl, Nat.le_of_ble_eq_true rfl⟩ rfl hl.1 rfl (Nat.le_of_ble_eq_true rfl) ⟨Nat.le_refl _, Nat.le_refl _⟩ dX12_pair_158 (fun hz13 H locs G => ?_)
        obtain ⟨x14, hrx14, hf⟩ := bd_go hf
        have Jx14 : ∀ (H : Heap) (locs : List Loc) (ls : Array Slot), xG s E A (wM E ad (0 : Int32) m_trouble m_where m_rv m_tape m_taped m_size m_spot m_sort m_place m_number m_fault m_wrongAt m_word m_v x5 m_past m_kept m_acts m_images m_matchNow m_slopsNow m_matchesNow m_slopped m_seatBest m_fedBest m_slopsBest m_sawBest m_leastNow m_stableNow m_fitsNow m_someNow m_everyNow m_otherIn m_askLeft tb_seats tb_slack tb_saw tb_quarrel tb_people tb_pairs tb_forks tb_unsures tb_trieds tb_fed tb_seat tb_one tb_other tb_years tb_kind tb_unsure tb_may tb_tried tb_name) H locs → lv_has ls 3 [] → W p l e (xR 4 87) s m args below meth c H locs 0 0 (MQ below (xqI E A (wM E ad R0.2.1 R0.2.2.1 R0.2.2.2.1 m_rv m_tape m_taped m_size m_spot m_sort m_place m_number m_fault m_wrongAt m_word m_v R0.2.2.2.2 m_past m_kept m_acts m_images m_matchNow m_slopsNow m_matchesNow m_slopped m_seatBest m_fedBest m_slopsBest m_sawBest m_leastNow m_stableNow m_fitsNow m_someNow m_everyNow m_otherIn m_askLeft tb_seats tb_slack tb_saw tb_quarrel tb_people tb_pairs tb_forks tb_unsures tb_trieds tb_fed tb_seat tb_one tb_other tb_years tb_kind tb_unsure tb_may tb_tried tb_name) (some .int) R0.1) args s 0 0 A) (F0 m 169 ls [.int x14, .ref (ad 0)]) := by
          intro H locs ls G hl
          obtain ⟨x15, hc, hf⟩ := bd_go hf
          refine xI_V C G (c_M_good_m_M hc) mX12_good kX12_49 (wM_at0) rfl ⟨Nat.le_of_ble_eq_true rfl, Nat.le_of_ble_eq_true rfl⟩ rfl hl.1 rfl (Nat.le_of_ble_eq_true rfl) ⟨Nat.le_refl _, Nat.le_refl _⟩ dX12_pair_169 (fun hz H locs G => ?_)
          obtain rfl := Option.some.inj hf
          exact xI_ret C G rfl dX12_pair_172
        have hf := hrx14
        refine lv_if_eq (tgt := 168) hx hb dX12_pair_161 (by decide) (fun h => ?_) (fun h => ?_)
        · have hf := it_t h hf
          refine lv_iconst (v := 0) hx hb dX12_pair_168 (by decide) ?_
          obtain rfl := Option.some.inj hf
          exact Jx14 _ _ _ G (lv_sub hl [] rfl)
        · have hf := it_f h hf
          refine lv_iconst (v := 1) hx hb dX12_pair_164 (by decide) ?_
          refine lv_goto (tgt := 169) hx hb dX12_pair_165 (by decide) ?_
          obtain rfl := Option.some.inj hf
          exact Jx14 _ _ _ G (lv_sub hl [] rfl)
      have hf := it_f hs6 hf
      refine lv_tableOut (tgt := 173) hx hb dX12_pair_34 (by have w0 := x_ne 0 rfl hs0; have w1 := x_ne 1 rfl hs1; have w2 := x_ne 2 rfl hs2; have w3 := x_ne 3 rfl hs3; have w4 := x_ne 4 rfl hs4; have w5 := x_ne 5 rfl hs5; have w6 := x_ne 6 rfl hs6; omega) (by decide) ?_
      refine lv_aload_n hx hb dX12_pair_173 rfl (lv_at hl 0 rfl) ?_
      refine lv_aload_n hx hb dX12_pair_174 rfl (lv_at hl 0 rfl) ?_
      refine lv_iload_n hx hb dX12_pair_175 rfl (lv_at hl 1 rfl) ?_
      obtain ⟨x16, hc, hf⟩ := bd_go hf
      refine xI_V C G (c_M_slopsOf_m_M hc) mX12_slopsOf kX12_339 (wM_at0) rfl ⟨Nat.le_of_ble_eq_true rfl, Nat.le_of_ble_eq_true rfl⟩ rfl hl.1 rfl (Nat.le_of_ble_eq_true rfl) ⟨Nat.le_refl _, Nat.le_refl _⟩ dX12_pair_176 (fun hz H locs G => ?_)
      obtain ⟨x17, hc, hf⟩ := bd_go hf
      refine xI_V C G (c_M_good_m_M hc) mX12_good kX12_49 (wM_at0) rfl ⟨Nat.le_of_ble_eq_true rfl, Nat.le_of_ble_eq_true rfl⟩ rfl hl.1 rfl (Nat.le_of_ble_eq_true rfl) ⟨Nat.le_refl _, Nat.le_refl _⟩ dX12_pair_179 (fun hz H locs G => ?_)
      obtain rfl := Option.some.inj hf
      exact xI_ret C G rfl dX12_pair_182
    have hf := hr
    clear hr
    refine lv_if_eq (tgt := 23) hx hb dX12_pair_10 (by decide) (fun h => ?_) (fun h => ?_)
    · have hf := it_t h hf
      exact absurd (Option.some.inj hf) (by decide)
    · have hf := it_f h hf
      refine lv_iload_n hx hb dX12_pair_13 rfl (lv_at hl 2 rfl) ?_
      refine lv_iconst (v := 0) hx hb dX12_pair_14 (by decide) ?_
      refine lv_bipush (v := 7) hx hb dX12_pair_15 (by decide) ?_
      obtain ⟨x18, hc, hf⟩ := bd_go hf
      refine xI_S C G (c_M_in_any hc) mX12_in kX12_118 ⟨Nat.le_of_ble_eq_true rfl, Nat.le_of_ble_eq_true rfl⟩ rfl hl.1 rfl (Nat.le_of_ble_eq_true rfl) ⟨Nat.le_refl _, Nat.le_refl _⟩ dX12_pair_17 (fun hz18 H locs G => ?_)
      refine lv_if_ne (tgt := 29) hx hb dX12_pair_20 (by decide) (fun h => ?_) (fun h => ?_)
      · have hf := it_f h hf
        exact J _ _ G
      · have hf := it_t h hf
        exact absurd (Option.some.inj hf) (by decide)
set_option maxHeartbeats 4000000 in
set_option maxRecDepth 100000 in
theorem c_M_areTwo_m_M {l : Launch} {E : xE} {ad : Nat → Nat} {m_thrown m_trouble m_where m_taped m_size m_spot m_sort m_place m_number m_fault m_wrongAt m_acts m_images m_matchNow m_slopsNow m_matchesNow m_fedBest m_slopsBest m_sawBest m_leastNow m_stableNow m_fitsNow m_someNow m_everyNow m_askLeft tb_seats tb_slack tb_saw tb_quarrel tb_people tb_pairs tb_forks tb_unsures tb_trieds tb_fed : Int32} {m_rv : Value} {m_tape m_v m_x m_past m_kept m_slopped m_seatBest m_otherIn tb_seat tb_one tb_other tb_years tb_kind tb_unsure tb_may tb_tried : Nat → Int32} {m_word : Int64} {tb_name : Nat → Int64} {l1 : Int32} {l2 : Int32} {R0 : Int32} (hf : f_M_areTwo l1 l2 tb_people = some R0) : xI l E yX12_areTwo cX12_areTwo 3 (some .boolean) 1 21 [.ref (ad 0), .int l1, .int l2] (wM E ad m_thrown m_trouble m_where m_rv m_tape m_taped m_size m_spot m_sort m_place m_number m_fault m_wrongAt m_word m_v m_x m_past m_kept m_acts m_images m_matchNow m_slopsNow m_matchesNow m_slopped m_seatBest m_fedBest m_slopsBest m_sawBest m_leastNow m_stableNow m_fitsNow m_someNow m_everyNow m_otherIn m_askLeft tb_seats tb_slack tb_saw tb_quarrel tb_people tb_pairs tb_forks tb_unsures tb_trieds tb_fed tb_seat tb_one tb_other tb_years tb_kind tb_unsure tb_may tb_tried tb_name) (wM E ad m_thrown m_trouble m_where m_rv m_tape m_taped m_size m_spot m_sort m_place m_number m_fault m_wrongAt m_word m_v m_x m_past m_kept m_acts m_images m_matchNow m_slopsNow m_matchesNow m_slopped m_seatBest m_fedBest m_slopsBest m_sawBest m_leastNow m_stableNow m_fitsNow m_someNow m_everyNow m_otherIn m_askLeft tb_seats tb_slack tb_saw tb_quarrel tb_people tb_pairs tb_forks tb_unsures tb_trieds tb_fed tb_seat tb_one tb_other tb_years tb_kind tb_unsure tb_may tb_tried tb_name) R0 := by
  refine xI_of (by decide) (Nat.le_of_ble_eq_true rfl) (fun p e s m args below meth c A C ls hl G => ?_)
  have hx := C.1
  have hb := C.2.1
  have hl : lv_has ls 3 [(0, .ref (ad 0)), (1, .int l1), (2, .int l2)] := hl
  unfold f_M_areTwo at hf
  refine lv_aload_n hx hb dX12_areTwo_0 rfl (lv_at hl 0 rfl) ?_
  refine lv_iload_n hx hb dX12_areTwo_1 rfl (lv_at hl 1 rfl) ?_
  obtain ⟨x1, hc, hf⟩ := bd_go hf
  refine xI_V C G (c_M_isPerson_m_M hc) mX12_isPerson kX12_309 (wM_at0) rfl ⟨Nat.le_of_ble_eq_true rfl, Nat.le_of_ble_eq_true rfl⟩ rfl hl.1 rfl (Nat.le_of_ble_eq_true rfl) ⟨Nat.le_refl _, Nat.le_refl _⟩ dX12_areTwo_2 (fun hz1 H locs G => ?_)
  obtain ⟨b2, hr, hf⟩ := bd_go hf
  cases b2 with
  | true =>
    have hf := it_t rfl hf
    have J : ∀ (H : Heap) (locs : List Loc), xG s E A (wM E ad m_thrown m_trouble m_where m_rv m_tape m_taped m_size m_spot m_sort m_place m_number m_fault m_wrongAt m_word m_v m_x m_past m_kept m_acts m_images m_matchNow m_slopsNow m_matchesNow m_slopped m_seatBest m_fedBest m_slopsBest m_sawBest m_leastNow m_stableNow m_fitsNow m_someNow m_everyNow m_otherIn m_askLeft tb_seats tb_slack tb_saw tb_quarrel tb_people tb_pairs tb_forks tb_unsures tb_trieds tb_fed tb_seat tb_one tb_other tb_years tb_kind tb_unsure tb_may tb_tried tb_name) H locs → W p l e (xR 1 21) s m args below meth c H locs 0 0 (MQ below (xqI E A (wM E ad m_thrown m_trouble m_where m_rv m_tape m_taped m_size m_spot m_sort m_place m_number m_fault m_wrongAt m_word m_v m_x m_past m_kept m_acts m_images m_matchNow m_slopsNow m_matchesNow m_slopped m_seatBest m_fedBest m_slopsBest m_sawBest m_leastNow m_stableNow m_fitsNow m_someNow m_everyNow m_otherIn m_askLeft tb_seats tb_slack tb_saw tb_quarrel tb_people tb_pairs tb_forks tb_unsures tb_trieds tb_fed tb_seat tb_one tb_other tb_years tb_kind tb_unsure tb_may tb_tried tb_name) (some .boolean) R0) args s 0 0 A) (F0 m 25 ls []) := by
      intro H locs G
      refine lv_iconst (v := 0) hx hb dX12_areTwo_25 (by decide) ?_
      obtain rfl := Option.some.inj hf
      exact xI_ret (r := (0 : Int32)) C G rfl dX12_areTwo_26
    have hf := hr
    clear hr
    refine lv_if_eq (tgt := 25) hx hb dX12_areTwo_5 (by decide) (fun h => ?_) (fun h => ?_)
    · have hf := it_t h hf
      exact J _ _ G
    · have hf := it_f h hf
      refine lv_aload_n hx hb dX12_areTwo_8 rfl (lv_at hl 0 rfl) ?_
      refine lv_iload_n hx hb dX12_areTwo_9 rfl (lv_at hl 2 rfl) ?_
      obtain ⟨x3, hc, hf⟩ := bd_go hf
      refine xI_V C G (c_M_isPerson_m_M hc) mX12_isPerson kX12_309 (wM_at0) rfl ⟨Nat.le_of_ble_eq_true rfl, Nat.le_of_ble_eq_true rfl⟩ rfl hl.1 rfl (Nat.le_of_ble_eq_true rfl) ⟨Nat.le_refl _, Nat.le_refl _⟩ dX12_areTwo_10 (fun hz3 H locs G => ?_)
      refine lv_if_eq (tgt := 25) hx hb dX12_areTwo_13 (by decide) (fun h => ?_) (fun h => ?_)
      · have hf := it_t h hf
        exact J _ _ G
      · have hf := it_f h hf
        refine lv_iload_n hx hb dX12_areTwo_16 rfl (lv_at hl 1 rfl) ?_
        refine lv_iload_n hx hb dX12_areTwo_17 rfl (lv_at hl 2 rfl) ?_
        refine lv_icmp_eq (tgt := 25) hx hb dX12_areTwo_18 (by decide) (fun h => ?_) (fun h => ?_)
        · have hf := it_t h hf
          exact J _ _ G
        · have hf := it_f h hf
          exact absurd (Option.some.inj hf) (by decide)
  | false =>
    have hf := it_f (by decide) hf
    have J : ∀ (H : Heap) (locs : List Loc), xG s E A (wM E ad m_thrown m_trouble m_where m_rv m_tape m_taped m_size m_spot m_sort m_place m_number m_fault m_wrongAt m_word m_v m_x m_past m_kept m_acts m_images m_matchNow m_slopsNow m_matchesNow m_slopped m_seatBest m_fedBest m_slopsBest m_sawBest m_leastNow m_stableNow m_fitsNow m_someNow m_everyNow m_otherIn m_askLeft tb_seats tb_slack tb_saw tb_quarrel tb_people tb_pairs tb_forks tb_unsures tb_trieds tb_fed tb_seat tb_one tb_other tb_years tb_kind tb_unsure tb_may tb_tried tb_name) H locs → W p l e (xR 1 21) s m args below meth c H locs 0 0 (MQ below (xqI E A (wM E ad m_thrown m_trouble m_where m_rv m_tape m_taped m_size m_spot m_sort m_place m_number m_fault m_wrongAt m_word m_v m_x m_past m_kept m_acts m_images m_matchNow m_slopsNow m_matchesNow m_slopped m_seatBest m_fedBest m_slopsBest m_sawBest m_leastNow m_stableNow m_fitsNow m_someNow m_everyNow m_otherIn m_askLeft tb_seats tb_slack tb_saw tb_quarrel tb_people tb_pairs tb_forks tb_unsures tb_trieds tb_fed tb_seat tb_one tb_other tb_years tb_kind tb_unsure tb_may tb_tried tb_name) (some .boolean) R0) args s 0 0 A) (F0 m 21 ls []) := by
      intro H locs G
      refine lv_iconst (v := 1) hx hb dX12_areTwo_21 (by decide) ?_
      refine lv_goto (tgt := 26) hx hb dX12_areTwo_22 (by decide) ?_
      obtain rfl := Option.some.inj hf
      exact xI_ret (r := (1 : Int32)) C G rfl dX12_areTwo_26
    have hf := hr
    clear hr
    refine lv_if_eq (tgt := 25) hx hb dX12_areTwo_5 (by decide) (fun h => ?_) (fun h => ?_)
    · have hf := it_t h hf
      exact absurd (Option.some.inj hf) (by decide)
    · have hf := it_f h hf
      refine lv_aload_n hx hb dX12_areTwo_8 rfl (lv_at hl 0 rfl) ?_
      refine lv_iload_n hx hb dX12_areTwo_9 rfl (lv_at hl 2 rfl) ?_
      obtain ⟨x4, hc, hf⟩ := bd_go hf
      refine xI_V C G (c_M_isPerson_m_M hc) mX12_isPerson kX12_309 (wM_at0) rfl ⟨Nat.le_of_ble_eq_true rfl, Nat.le_of_ble_eq_true rfl⟩ rfl hl.1 rfl (Nat.le_of_ble_eq_true rfl) ⟨Nat.le_refl _, Nat.le_refl _⟩ dX12_areTwo_10 (fun hz4 H locs G => ?_)
      refine lv_if_eq (tgt := 25) hx hb dX12_areTwo_13 (by decide) (fun h => ?_) (fun h => ?_)
      · have hf := it_t h hf
        exact absurd (Option.some.inj hf) (by decide)
      · have hf := it_f h hf
        refine lv_iload_n hx hb dX12_areTwo_16 rfl (lv_at hl 1 rfl) ?_
        refine lv_iload_n hx hb dX12_areTwo_17 rfl (lv_at hl 2 rfl) ?_
        refine lv_icmp_eq (tgt := 25) hx hb dX12_areTwo_18 (by decide) (fun h => ?_) (fun h => ?_)
        · have hf := it_t h hf
          exact absurd (Option.some.inj hf) (by decide)
        · have hf := it_f h hf
          exact J _ _ G
set_option maxHeartbeats 4000000 in
set_option maxRecDepth 100000 in
theorem c_M_hasOne_m_M {l : Launch} {E : xE} {ad : Nat → Nat} {m_thrown m_trouble m_where m_taped m_size m_spot m_sort m_place m_number m_fault m_wrongAt m_acts m_images m_matchNow m_slopsNow m_matchesNow m_fedBest m_slopsBest m_sawBest m_leastNow m_stableNow m_fitsNow m_someNow m_everyNow m_askLeft tb_seats tb_slack tb_saw tb_quarrel tb_people tb_pairs tb_forks tb_unsures tb_trieds tb_fed : Int32} {m_rv : Value} {m_tape m_v m_x m_past m_kept m_slopped m_seatBest m_otherIn tb_seat tb_one tb_other tb_years tb_kind tb_unsure tb_may tb_tried : Nat → Int32} {m_word : Int64} {tb_name : Nat → Int64} {l1 : Int32} {l2 : Int32} {R0 : Int32} (hf : f_M_hasOne l1 l2 m_x = some R0) : xI l E yX12_hasOne cX12_hasOne 3 (some .boolean) 0 0 [.ref (ad 0), .int l1, .int l2] (wM E ad m_thrown m_trouble m_where m_rv m_tape m_taped m_size m_spot m_sort m_place m_number m_fault m_wrongAt m_word m_v m_x m_past m_kept m_acts m_images m_matchNow m_slopsNow m_matchesNow m_slopped m_seatBest m_fedBest m_slopsBest m_sawBest m_leastNow m_stableNow m_fitsNow m_someNow m_everyNow m_otherIn m_askLeft tb_seats tb_slack tb_saw tb_quarrel tb_people tb_pairs tb_forks tb_unsures tb_trieds tb_fed tb_seat tb_one tb_other tb_years tb_kind tb_unsure tb_may tb_tried tb_name) (wM E ad m_thrown m_trouble m_where m_rv m_tape m_taped m_size m_spot m_sort m_place m_number m_fault m_wrongAt m_word m_v m_x m_past m_kept m_acts m_images m_matchNow m_slopsNow m_matchesNow m_slopped m_seatBest m_fedBest m_slopsBest m_sawBest m_leastNow m_stableNow m_fitsNow m_someNow m_everyNow m_otherIn m_askLeft tb_seats tb_slack tb_saw tb_quarrel tb_people tb_pairs tb_forks tb_unsures tb_trieds tb_fed tb_seat tb_one tb_other tb_years tb_kind tb_unsure tb_may tb_tried tb_name) R0 := by
  refine xI_of (by decide) (Nat.le_of_ble_eq_true rfl) (fun p e s m args below meth c A C ls hl G => ?_)
  have hx := C.1
  have hb := C.2.1
  have hl : lv_has ls 3 [(0, .ref (ad 0)), (1, .int l1), (2, .int l2)] := hl
  unfold f_M_hasOne at hf
  refine lv_aload_n hx hb dX12_hasOne_0 rfl (lv_at hl 0 rfl) ?_
  refine x_get C G fX12_21 (wM_at0) rfl dX12_hasOne_1 ?_
  refine lv_iconst (v := 5) hx hb dX12_hasOne_4 (by decide) ?_
  refine lv_iload_n hx hb dX12_hasOne_5 rfl (lv_at hl 1 rfl) ?_
  refine lv_iadd hx hb dX12_hasOne_6 ?_
  have hi := ck_in hf
  have hf := ck_go hf
  refine x_iald C G (wM_at3) hi dX12_hasOne_7 ?_
  refine lv_iload_n hx hb dX12_hasOne_8 rfl (lv_at hl 2 rfl) ?_
  obtain ⟨b1, hr, hf⟩ := bd_go hf
  cases b1 with
  | true =>
    have hf := it_t rfl hf
    have J : ∀ (H : Heap) (locs : List Loc), xG s E A (wM E ad m_thrown m_trouble m_where m_rv m_tape m_taped m_size m_spot m_sort m_place m_number m_fault m_wrongAt m_word m_v m_x m_past m_kept m_acts m_images m_matchNow m_slopsNow m_matchesNow m_slopped m_seatBest m_fedBest m_slopsBest m_sawBest m_leastNow m_stableNow m_fitsNow m_someNow m_everyNow m_otherIn m_askLeft tb_seats tb_slack tb_saw tb_quarrel tb_people tb_pairs tb_forks tb_unsures tb_trieds tb_fed tb_seat tb_one tb_other tb_years tb_kind tb_unsure tb_may tb_tried tb_name) H locs → W p l e (xR 0 0) s m args below meth c H locs 0 0 (MQ below (xqI E A (wM E ad m_thrown m_trouble m_where m_rv m_tape m_taped m_size m_spot m_sort m_place m_number m_fault m_wrongAt m_word m_v m_x m_past m_kept m_acts m_images m_matchNow m_slopsNow m_matchesNow m_slopped m_seatBest m_fedBest m_slopsBest m_sawBest m_leastNow m_stableNow m_fitsNow m_someNow m_everyNow m_otherIn m_askLeft tb_seats tb_slack tb_saw tb_quarrel tb_people tb_pairs tb_forks tb_unsures tb_trieds tb_fed tb_seat tb_one tb_other tb_years tb_kind tb_unsure tb_may tb_tried tb_name) (some .boolean) R0) args s 0 0 A) (F0 m 25 ls []) := by
      intro H locs G
      refine lv_iconst (v := 1) hx hb dX12_hasOne_25 (by decide) ?_
      refine lv_goto (tgt := 30) hx hb dX12_hasOne_26 (by decide) ?_
      obtain rfl := Option.some.inj hf
      exact xI_ret (r := (1 : Int32)) C G rfl dX12_hasOne_30
    have hf := hr
    clear hr
    refine lv_icmp_eq (tgt := 25) hx hb dX12_hasOne_9 (by decide) (fun h => ?_) (fun h => ?_)
    · have hf := it_t h hf
      exact J _ _ G
    · have hf := it_f h hf
      refine lv_aload_n hx hb dX12_hasOne_12 rfl (lv_at hl 0 rfl) ?_
      refine x_get C G fX12_21 (wM_at0) rfl dX12_hasOne_13 ?_
      refine lv_bipush (v := 15) hx hb dX12_hasOne_16 (by decide) ?_
      refine lv_iload_n hx hb dX12_hasOne_18 rfl (lv_at hl 1 rfl) ?_
      refine lv_iadd hx hb dX12_hasOne_19 ?_
      have hi := ck_in hf
      have hf := ck_go hf
      refine x_iald C G (wM_at3) hi dX12_hasOne_20 ?_
      refine lv_iload_n hx hb dX12_hasOne_21 rfl (lv_at hl 2 rfl) ?_
      refine lv_icmp_ne (tgt := 29) hx hb dX12_hasOne_22 (by decide) (fun h => ?_) (fun h => ?_)
      · have hf := it_f h hf
        exact absurd (Option.some.inj hf) (by decide)
      · have hf := it_t h hf
        exact J _ _ G
  | false =>
    have hf := it_f (by decide) hf
    have J : ∀ (H : Heap) (locs : List Loc), xG s E A (wM E ad m_thrown m_trouble m_where m_rv m_tape m_taped m_size m_spot m_sort m_place m_number m_fault m_wrongAt m_word m_v m_x m_past m_kept m_acts m_images m_matchNow m_slopsNow m_matchesNow m_slopped m_seatBest m_fedBest m_slopsBest m_sawBest m_leastNow m_stableNow m_fitsNow m_someNow m_everyNow m_otherIn m_askLeft tb_seats tb_slack tb_saw tb_quarrel tb_people tb_pairs tb_forks tb_unsures tb_trieds tb_fed tb_seat tb_one tb_other tb_years tb_kind tb_unsure tb_may tb_tried tb_name) H locs → W p l e (xR 0 0) s m args below meth c H locs 0 0 (MQ below (xqI E A (wM E ad m_thrown m_trouble m_where m_rv m_tape m_taped m_size m_spot m_sort m_place m_number m_fault m_wrongAt m_word m_v m_x m_past m_kept m_acts m_images m_matchNow m_slopsNow m_matchesNow m_slopped m_seatBest m_fedBest m_slopsBest m_sawBest m_leastNow m_stableNow m_fitsNow m_someNow m_everyNow m_otherIn m_askLeft tb_seats tb_slack tb_saw tb_quarrel tb_people tb_pairs tb_forks tb_unsures tb_trieds tb_fed tb_seat tb_one tb_other tb_years tb_kind tb_unsure tb_may tb_tried tb_name) (some .boolean) R0) args s 0 0 A) (F0 m 29 ls []) := by
      intro H locs G
      refine lv_iconst (v := 0) hx hb dX12_hasOne_29 (by decide) ?_
      obtain rfl := Option.some.inj hf
      exact xI_ret (r := (0 : Int32)) C G rfl dX12_hasOne_30
    have hf := hr
    clear hr
    refine lv_icmp_eq (tgt := 25) hx hb dX12_hasOne_9 (by decide) (fun h => ?_) (fun h => ?_)
    · have hf := it_t h hf
      exact absurd (Option.some.inj hf) (by decide)
    · have hf := it_f h hf
      refine lv_aload_n hx hb dX12_hasOne_12 rfl (lv_at hl 0 rfl) ?_
      refine x_get C G fX12_21 (wM_at0) rfl dX12_hasOne_13 ?_
      refine lv_bipush (v := 15) hx hb dX12_hasOne_16 (by decide) ?_
      refine lv_iload_n hx hb dX12_hasOne_18 rfl (lv_at hl 1 rfl) ?_
      refine lv_iadd hx hb dX12_hasOne_19 ?_
      have hi := ck_in hf
      have hf := ck_go hf
      refine x_iald C G (wM_at3) hi dX12_hasOne_20 ?_
      refine lv_iload_n hx hb dX12_hasOne_21 rfl (lv_at hl 2 rfl) ?_
      refine lv_icmp_ne (tgt := 29) hx hb dX12_hasOne_22 (by decide) (fun h => ?_) (fun h => ?_)
      · have hf := it_f h hf
        exact J _ _ G
      · have hf := it_t h hf
        exact absurd (Option.some.inj hf) (by decide)
set_option maxHeartbeats 4000000 in
set_option maxRecDepth 100000 in
theorem w_M_pairBy_m_M_L2 {p : Program} {l : Launch} {e : Env} {s : State} {m : MethodId} {args : Array Value} {below : List Frame} {meth : Method} {c : Code} {A : Nat → Prop} {E : xE} {ad : Nat → Nat} {m_thrown m_trouble m_where m_taped m_size m_spot m_sort m_place m_number m_fault m_wrongAt m_acts m_images m_matchNow m_slopsNow m_matchesNow m_fedBest m_slopsBest m_sawBest m_leastNow m_stableNow m_fitsNow m_someNow m_everyNow m_askLeft tb_seats tb_slack tb_saw tb_quarrel tb_people tb_pairs tb_forks tb_unsures tb_trieds tb_fed : Int32} {m_rv : Value} {m_tape m_v m_x m_past m_kept m_slopped m_seatBest m_otherIn tb_seat tb_one tb_other tb_years tb_kind tb_unsure tb_may tb_tried : Nat → Int32} {m_word : Int64} {tb_name : Nat → Int64} {l1 : Int32} {l2 : Int32} {o : (Int32) ⊕ (Unit)} {R0 : Int32} (C : xC p s m args meth c cX12_pairBy 4 RX12 E A (some .int)) (Jr : ∀ r, o = .inl r → r = R0) (J : ∀ t, o = .inr t → ∀ (H : Heap) (locs : List Loc) (ls : Array Slot), xG s E A (wM E ad m_thrown m_trouble m_where m_rv m_tape m_taped m_size m_spot m_sort m_place m_number m_fault m_wrongAt m_word m_v m_x m_past m_kept m_acts m_images m_matchNow m_slopsNow m_matchesNow m_slopped m_seatBest m_fedBest m_slopsBest m_sawBest m_leastNow m_stableNow m_fitsNow m_someNow m_everyNow m_otherIn m_askLeft tb_seats tb_slack tb_saw tb_quarrel tb_people tb_pairs tb_forks tb_unsures tb_trieds tb_fed tb_seat tb_one tb_other tb_years tb_kind tb_unsure tb_may tb_tried tb_name) H locs → lv_has ls 4 [] → W p l e (xR 1 22) s m args below meth c H locs 0 0 (MQ below (xqI E A (wM E ad m_thrown m_trouble m_where m_rv m_tape m_taped m_size m_spot m_sort m_place m_number m_fault m_wrongAt m_word m_v m_x m_past m_kept m_acts m_images m_matchNow m_slopsNow m_matchesNow m_slopped m_seatBest m_fedBest m_slopsBest m_sawBest m_leastNow m_stableNow m_fitsNow m_someNow m_everyNow m_otherIn m_askLeft tb_seats tb_slack tb_saw tb_quarrel tb_people tb_pairs tb_forks tb_unsures tb_trieds tb_fed tb_seat tb_one tb_other tb_years tb_kind tb_unsure tb_may tb_tried tb_name) (some .int) R0) args s 0 0 A) (F0 m 39 ls [])) :
    ∀ (n : Nat) (l3 : Int32) (H : Heap) (locs : List Loc) (ls : Array Slot), xG s E A (wM E ad m_thrown m_trouble m_where m_rv m_tape m_taped m_size m_spot m_sort m_place m_number m_fault m_wrongAt m_word m_v m_x m_past m_kept m_acts m_images m_matchNow m_slopsNow m_matchesNow m_slopped m_seatBest m_fedBest m_slopsBest m_sawBest m_leastNow m_stableNow m_fitsNow m_someNow m_everyNow m_otherIn m_askLeft tb_seats tb_slack tb_saw tb_quarrel tb_people tb_pairs tb_forks tb_unsures tb_trieds tb_fed tb_seat tb_one tb_other tb_years tb_kind tb_unsure tb_may tb_tried tb_name) H locs → lv_has ls 4 [(0, .ref (ad 0)), (1, .int l1), (2, .int l2), (3, .int l3)] → f_M_pairBy_L2 l1 l2 m_x n l3 = some o → W p l e (xR 1 22) s m args below meth c H locs 0 0 (MQ below (xqI E A (wM E ad m_thrown m_trouble m_where m_rv m_tape m_taped m_size m_spot m_sort m_place m_number m_fault m_wrongAt m_word m_v m_x m_past m_kept m_acts m_images m_matchNow m_slopsNow m_matchesNow m_slopped m_seatBest m_fedBest m_slopsBest m_sawBest m_leastNow m_stableNow m_fitsNow m_someNow m_everyNow m_otherIn m_askLeft tb_seats tb_slack tb_saw tb_quarrel tb_people tb_pairs tb_forks tb_unsures tb_trieds tb_fed tb_seat tb_one tb_other tb_years tb_kind tb_unsure tb_may tb_tried tb_name) (some .int) R0) args s 0 0 A) (F0 m 2 ls []) := by
  have hx := C.1
  have hb := C.2.1
  intro n
  induction n with
  | zero =>
    intro l3 H locs ls G hl hf
    exact nomatch (show (none : Option ((Int32) ⊕ (Unit))) = some o from hf)
  | succ n ih =>
    intro l3 H locs ls G hl hf
    rw [f_M_pairBy_L2] at hf
    refine lv_iload_n hx hb dX12_pairBy_2 rfl (lv_at hl 3 rfl) ?_
    refine lv_aload_n hx hb dX12_pairBy_3 rfl (lv_at hl 0 rfl) ?_
    refine x_get C G fX12_21 (wM_at0) rfl dX12_pairBy_4 ?_
    refine lv_bipush (v := 55) hx hb dX12_pairBy_7 (by decide) ?_
    have hi := ck_in hf
    have hf := ck_go hf
    refine x_iald C G (wM_at3) hi dX12_pairBy_9 ?_
    refine lv_icmp_ge (tgt := 39) hx hb dX12_pairBy_10 (by decide) (fun h => ?_) (fun h => ?_)
    · have hf := it_t h hf
      exact J _ (Option.some.inj hf).symm _ _ _ G (lv_sub hl [] rfl)
    · have hf := it_f h hf
      refine lv_aload_n hx hb dX12_pairBy_13 rfl (lv_at hl 0 rfl) ?_
      refine lv_iload_n hx hb dX12_pairBy_14 rfl (lv_at hl 3 rfl) ?_
      refine lv_iload_n hx hb dX12_pairBy_15 rfl (lv_at hl 1 rfl) ?_
      obtain ⟨x1, hc, hf⟩ := bd_go hf
      refine xI_V C G (c_M_hasOne_m_M hc) mX12_hasOne kX12_327 (wM_at0) rfl ⟨Nat.le_of_ble_eq_true rfl, Nat.le_of_ble_eq_true rfl⟩ rfl hl.1 rfl (Nat.le_of_ble_eq_true rfl) ⟨Nat.le_refl _, Nat.le_refl _⟩ dX12_pairBy_16 (fun hz1 H locs G => ?_)
      obtain ⟨b2, hr, hf⟩ := bd_go hf
      cases b2 with
      | true =>
        have hf := it_t rfl hf
        have J : ∀ (H : Heap) (locs : List Loc), xG s E A (wM E ad m_thrown m_trouble m_where m_rv m_tape m_taped m_size m_spot m_sort m_place m_number m_fault m_wrongAt m_word m_v m_x m_past m_kept m_acts m_images m_matchNow m_slopsNow m_matchesNow m_slopped m_seatBest m_fedBest m_slopsBest m_sawBest m_leastNow m_stableNow m_fitsNow m_someNow m_everyNow m_otherIn m_askLeft tb_seats tb_slack tb_saw tb_quarrel tb_people tb_pairs tb_forks tb_unsures tb_trieds tb_fed tb_seat tb_one tb_other tb_years tb_kind tb_unsure tb_may tb_tried tb_name) H locs → W p l e (xR 1 22) s m args below meth c H locs 0 0 (MQ below (xqI E A (wM E ad m_thrown m_trouble m_where m_rv m_tape m_taped m_size m_spot m_sort m_place m_number m_fault m_wrongAt m_word m_v m_x m_past m_kept m_acts m_images m_matchNow m_slopsNow m_matchesNow m_slopped m_seatBest m_fedBest m_slopsBest m_sawBest m_leastNow m_stableNow m_fitsNow m_someNow m_everyNow m_otherIn m_askLeft tb_seats tb_slack tb_saw tb_quarrel tb_people tb_pairs tb_forks tb_unsures tb_trieds tb_fed tb_seat tb_one tb_other tb_years tb_kind tb_unsure tb_may tb_tried tb_name) (some .int) R0) args s 0 0 A) (F0 m 33 ls []) := by
          intro H locs G
          obtain ⟨x3, ex3⟩ : ∃ z : Int32, z = l3 + (1 : Int32) := ⟨_, rfl⟩
          have hf := lt_go ex3 hf
          refine lv_iinc (v := x3) (lv' := [(3, .int x3), (0, .ref (ad 0)), (1, .int l1), (2, .int l2)]) hx hb dX12_pairBy_33 hl (k := 3) rfl (by rw [ex3]; rfl) (by decide) rfl (fun ls hl => ?_)
          refine lv_goto (tgt := 2) hx hb dX12_pairBy_36 (by decide) ?_
          exact ih x3 _ _ _ G (lv_sub hl [1, 2, 3, 0] rfl) hf
        have hf := hr
        clear hr
        refine lv_if_eq (tgt := 33) hx hb dX12_pairBy_19 (by decide) (fun h => ?_) (fun h => ?_)
        · have hf := it_t h hf
          exact J _ _ G
        · have hf := it_f h hf
          refine lv_aload_n hx hb dX12_pairBy_22 rfl (lv_at hl 0 rfl) ?_
          refine lv_iload_n hx hb dX12_pairBy_23 rfl (lv_at hl 3 rfl) ?_
          refine lv_iload_n hx hb dX12_pairBy_24 rfl (lv_at hl 2 rfl) ?_
          obtain ⟨x4, hc, hf⟩ := bd_go hf
          refine xI_V C G (c_M_hasOne_m_M hc) mX12_hasOne kX12_327 (wM_at0) rfl ⟨Nat.le_of_ble_eq_true rfl, Nat.le_of_ble_eq_true rfl⟩ rfl hl.1 rfl (Nat.le_of_ble_eq_true rfl) ⟨Nat.le_refl _, Nat.le_refl _⟩ dX12_pairBy_25 (fun hz4 H locs G => ?_)
          refine lv_if_eq (tgt := 33) hx hb dX12_pairBy_28 (by decide) (fun h => ?_) (fun h => ?_)
          · have hf := it_t h hf
            exact J _ _ G
          · have hf := it_f h hf
            exact absurd (Option.some.inj hf) (by decide)
      | false =>
        have hf := it_f (by decide) hf
        have J : ∀ (H : Heap) (locs : List Loc), xG s E A (wM E ad m_thrown m_trouble m_where m_rv m_tape m_taped m_size m_spot m_sort m_place m_number m_fault m_wrongAt m_word m_v m_x m_past m_kept m_acts m_images m_matchNow m_slopsNow m_matchesNow m_slopped m_seatBest m_fedBest m_slopsBest m_sawBest m_leastNow m_stableNow m_fitsNow m_someNow m_everyNow m_otherIn m_askLeft tb_seats tb_slack tb_saw tb_quarrel tb_people tb_pairs tb_forks tb_unsures tb_trieds tb_fed tb_seat tb_one tb_other tb_years tb_kind tb_unsure tb_may tb_tried tb_name) H locs → W p l e (xR 1 22) s m args below meth c H locs 0 0 (MQ below (xqI E A (wM E ad m_thrown m_trouble m_where m_rv m_tape m_taped m_size m_spot m_sort m_place m_number m_fault m_wrongAt m_word m_v m_x m_past m_kept m_acts m_images m_matchNow m_slopsNow m_matchesNow m_slopped m_seatBest m_fedBest m_slopsBest m_sawBest m_leastNow m_stableNow m_fitsNow m_someNow m_everyNow m_otherIn m_askLeft tb_seats tb_slack tb_saw tb_quarrel tb_people tb_pairs tb_forks tb_unsures tb_trieds tb_fed tb_seat tb_one tb_other tb_years tb_kind tb_unsure tb_may tb_tried tb_name) (some .int) R0) args s 0 0 A) (F0 m 31 ls []) := by
          intro H locs G
          refine lv_iload_n hx hb dX12_pairBy_31 rfl (lv_at hl 3 rfl) ?_
          obtain rfl := Jr _ (Option.some.inj hf).symm
          exact xI_ret C G rfl dX12_pairBy_32
        have hf := hr
        clear hr
        refine lv_if_eq (tgt := 33) hx hb dX12_pairBy_19 (by decide) (fun h => ?_) (fun h => ?_)
        · have hf := it_t h hf
          exact absurd (Option.some.inj hf) (by decide)
        · have hf := it_f h hf
          refine lv_aload_n hx hb dX12_pairBy_22 rfl (lv_at hl 0 rfl) ?_
          refine lv_iload_n hx hb dX12_pairBy_23 rfl (lv_at hl 3 rfl) ?_
          refine lv_iload_n hx hb dX12_pairBy_24 rfl (lv_at hl 2 rfl) ?_
          obtain ⟨x5, hc, hf⟩ := bd_go hf
          refine xI_V C G (c_M_hasOne_m_M hc) mX12_hasOne kX12_327 (wM_at0) rfl ⟨Nat.le_of_ble_eq_true rfl, Nat.le_of_ble_eq_true rfl⟩ rfl hl.1 rfl (Nat.le_of_ble_eq_true rfl) ⟨Nat.le_refl _, Nat.le_refl _⟩ dX12_pairBy_25 (fun hz5 H locs G => ?_)
          refine lv_if_eq (tgt := 33) hx hb dX12_pairBy_28 (by decide) (fun h => ?_) (fun h => ?_)
          · have hf := it_t h hf
            exact absurd (Option.some.inj hf) (by decide)
          · have hf := it_f h hf
            exact J _ _ G
set_option maxHeartbeats 4000000 in
set_option maxRecDepth 100000 in
theorem c_M_pairBy_m_M {l : Launch} {E : xE} {ad : Nat → Nat} {m_thrown m_trouble m_where m_taped m_size m_spot m_sort m_place m_number m_fault m_wrongAt m_acts m_images m_matchNow m_slopsNow m_matchesNow m_fedBest m_slopsBest m_sawBest m_leastNow m_stableNow m_fitsNow m_someNow m_everyNow m_askLeft tb_seats tb_slack tb_saw tb_quarrel tb_people tb_pairs tb_forks tb_unsures tb_trieds tb_fed : Int32} {m_rv : Value} {m_tape m_v m_x m_past m_kept m_slopped m_seatBest m_otherIn tb_seat tb_one tb_other tb_years tb_kind tb_unsure tb_may tb_tried : Nat → Int32} {m_word : Int64} {tb_name : Nat → Int64} {l1 : Int32} {l2 : Int32} {R0 : Int32} (hf : f_M_pairBy l1 l2 m_x = some R0) : xI l E yX12_pairBy cX12_pairBy 4 (some .int) 1 22 [.ref (ad 0), .int l1, .int l2] (wM E ad m_thrown m_trouble m_where m_rv m_tape m_taped m_size m_spot m_sort m_place m_number m_fault m_wrongAt m_word m_v m_x m_past m_kept m_acts m_images m_matchNow m_slopsNow m_matchesNow m_slopped m_seatBest m_fedBest m_slopsBest m_sawBest m_leastNow m_stableNow m_fitsNow m_someNow m_everyNow m_otherIn m_askLeft tb_seats tb_slack tb_saw tb_quarrel tb_people tb_pairs tb_forks tb_unsures tb_trieds tb_fed tb_seat tb_one tb_other tb_years tb_kind tb_unsure tb_may tb_tried tb_name) (wM E ad m_thrown m_trouble m_where m_rv m_tape m_taped m_size m_spot m_sort m_place m_number m_fault m_wrongAt m_word m_v m_x m_past m_kept m_acts m_images m_matchNow m_slopsNow m_matchesNow m_slopped m_seatBest m_fedBest m_slopsBest m_sawBest m_leastNow m_stableNow m_fitsNow m_someNow m_everyNow m_otherIn m_askLeft tb_seats tb_slack tb_saw tb_quarrel tb_people tb_pairs tb_forks tb_unsures tb_trieds tb_fed tb_seat tb_one tb_other tb_years tb_kind tb_unsure tb_may tb_tried tb_name) R0 := by
  refine xI_of (by decide) (Nat.le_of_ble_eq_true rfl) (fun p e s m args below meth c A C ls hl G => ?_)
  have hx := C.1
  have hb := C.2.1
  have hl : lv_has ls 4 [(0, .ref (ad 0)), (1, .int l1), (2, .int l2)] := hl
  unfold f_M_pairBy at hf
  refine lv_iconst (v := 0) hx hb dX12_pairBy_0 (by decide) ?_
  refine lv_istore_n (lv' := [(3, .int (0 : Int32)), (0, .ref (ad 0)), (1, .int l1), (2, .int l2)]) hx hb dX12_pairBy_1 rfl hl (by decide) rfl (fun ls hl => ?_)
  obtain ⟨ox6, hr, hf⟩ := bd_go hf
  have Jx6 : ∀ x6, ox6 = .inr x6 → ∀ (H : Heap) (locs : List Loc) (ls : Array Slot), xG s E A (wM E ad m_thrown m_trouble m_where m_rv m_tape m_taped m_size m_spot m_sort m_place m_number m_fault m_wrongAt m_word m_v m_x m_past m_kept m_acts m_images m_matchNow m_slopsNow m_matchesNow m_slopped m_seatBest m_fedBest m_slopsBest m_sawBest m_leastNow m_stableNow m_fitsNow m_someNow m_everyNow m_otherIn m_askLeft tb_seats tb_slack tb_saw tb_quarrel tb_people tb_pairs tb_forks tb_unsures tb_trieds tb_fed tb_seat tb_one tb_other tb_years tb_kind tb_unsure tb_may tb_tried tb_name) H locs → lv_has ls 4 [] → W p l e (xR 1 22) s m args below meth c H locs 0 0 (MQ below (xqI E A (wM E ad m_thrown m_trouble m_where m_rv m_tape m_taped m_size m_spot m_sort m_place m_number m_fault m_wrongAt m_word m_v m_x m_past m_kept m_acts m_images m_matchNow m_slopsNow m_matchesNow m_slopped m_seatBest m_fedBest m_slopsBest m_sawBest m_leastNow m_stableNow m_fitsNow m_someNow m_everyNow m_otherIn m_askLeft tb_seats tb_slack tb_saw tb_quarrel tb_people tb_pairs tb_forks tb_unsures tb_trieds tb_fed tb_seat tb_one tb_other tb_years tb_kind tb_unsure tb_may tb_tried tb_name) (some .int) R0) args s 0 0 A) (F0 m 39 ls []) := by
    intro x6 hq H locs ls G hl
    subst hq
    have hf := sm_r hf
    refine lv_bipush (v := -2) hx hb dX12_pairBy_39 (by decide) ?_
    obtain rfl := Option.some.inj hf
    exact xI_ret C G rfl dX12_pairBy_41
  have Jrx6 : ∀ r, ox6 = .inl r → r = R0 := by
    intro r hq
    subst hq
    exact Option.some.inj hf
  exact w_M_pairBy_m_M_L2 C Jrx6 Jx6 fu _ _ _ _ G (lv_sub hl [1, 2, 3, 0] rfl) hr
set_option maxHeartbeats 4000000 in
set_option maxRecDepth 100000 in
theorem c_M_pairOf_m_M {l : Launch} {E : xE} {ad : Nat → Nat} {m_thrown m_trouble m_where m_taped m_size m_spot m_sort m_place m_number m_fault m_wrongAt m_acts m_images m_matchNow m_slopsNow m_matchesNow m_fedBest m_slopsBest m_sawBest m_leastNow m_stableNow m_fitsNow m_someNow m_everyNow m_askLeft tb_seats tb_slack tb_saw tb_quarrel tb_people tb_pairs tb_forks tb_unsures tb_trieds tb_fed : Int32} {m_rv : Value} {m_tape m_v m_x m_past m_kept m_slopped m_seatBest m_otherIn tb_seat tb_one tb_other tb_years tb_kind tb_unsure tb_may tb_tried : Nat → Int32} {m_word : Int64} {tb_name : Nat → Int64} {l1 : Int32} {l2 : Int32} {R0 : Int32 × Int32 × Int32 × Int32 × (Nat → Int32)} (hf : f_M_pairOf l1 l2 m_v m_x tb_people = some R0) : xI l E yX12_pairOf cX12_pairOf 3 (some .int) 2 45 [.ref (ad 0), .int l1, .int l2] (wM E ad m_thrown m_trouble m_where m_rv m_tape m_taped m_size m_spot m_sort m_place m_number m_fault m_wrongAt m_word m_v m_x m_past m_kept m_acts m_images m_matchNow m_slopsNow m_matchesNow m_slopped m_seatBest m_fedBest m_slopsBest m_sawBest m_leastNow m_stableNow m_fitsNow m_someNow m_everyNow m_otherIn m_askLeft tb_seats tb_slack tb_saw tb_quarrel tb_people tb_pairs tb_forks tb_unsures tb_trieds tb_fed tb_seat tb_one tb_other tb_years tb_kind tb_unsure tb_may tb_tried tb_name) (wM E ad R0.2.1 R0.2.2.1 R0.2.2.2.1 m_rv m_tape m_taped m_size m_spot m_sort m_place m_number m_fault m_wrongAt m_word m_v R0.2.2.2.2 m_past m_kept m_acts m_images m_matchNow m_slopsNow m_matchesNow m_slopped m_seatBest m_fedBest m_slopsBest m_sawBest m_leastNow m_stableNow m_fitsNow m_someNow m_everyNow m_otherIn m_askLeft tb_seats tb_slack tb_saw tb_quarrel tb_people tb_pairs tb_forks tb_unsures tb_trieds tb_fed tb_seat tb_one tb_other tb_years tb_kind tb_unsure tb_may tb_tried tb_name) R0.1 := by
  refine xI_of (by decide) (Nat.le_of_ble_eq_true rfl) (fun p e s m args below meth c A C ls hl G => ?_)
  have hx := C.1
  have hb := C.2.1
  have hl : lv_has ls 3 [(0, .ref (ad 0)), (1, .int l1), (2, .int l2)] := hl
  unfold f_M_pairOf at hf
  refine lv_aload_n hx hb dX12_pairOf_0 rfl (lv_at hl 0 rfl) ?_
  refine lv_iconst (v := 0) hx hb dX12_pairOf_1 (by decide) ?_
  refine x_put (ws' := (wM E ad (0 : Int32) m_trouble m_where m_rv m_tape m_taped m_size m_spot m_sort m_place m_number m_fault m_wrongAt m_word m_v m_x m_past m_kept m_acts m_images m_matchNow m_slopsNow m_matchesNow m_slopped m_seatBest m_fedBest m_slopsBest m_sawBest m_leastNow m_stableNow m_fitsNow m_someNow m_everyNow m_otherIn m_askLeft tb_seats tb_slack tb_saw tb_quarrel tb_people tb_pairs tb_forks tb_unsures tb_trieds tb_fed tb_seat tb_one tb_other tb_years tb_kind tb_unsure tb_may tb_tried tb_name)) C G fX12_39 (wM_at0) rfl rfl (Nat.le_of_ble_eq_true rfl) wM_set_m_thrown dX12_pairOf_2 (fun H locs G => ?_)
  refine lv_aload_n hx hb dX12_pairOf_5 rfl (lv_at hl 0 rfl) ?_
  refine lv_iload_n hx hb dX12_pairOf_6 rfl (lv_at hl 1 rfl) ?_
  refine lv_iload_n hx hb dX12_pairOf_7 rfl (lv_at hl 2 rfl) ?_
  obtain ⟨x1, hc, hf⟩ := bd_go hf
  refine xI_V C G (c_M_areTwo_m_M hc) mX12_areTwo kX12_342 (wM_at0) rfl ⟨Nat.le_of_ble_eq_true rfl, Nat.le_of_ble_eq_true rfl⟩ rfl hl.1 rfl (Nat.le_of_ble_eq_true rfl) ⟨Nat.le_refl _, Nat.le_refl _⟩ dX12_pairOf_8 (fun hz1 H locs G => ?_)
  refine lv_if_ne (tgt := 20) hx hb dX12_pairOf_11 (by decide) (fun h => ?_) (fun h => ?_)
  · have hf := it_f h hf
    refine lv_aload_n hx hb dX12_pairOf_20 rfl (lv_at hl 0 rfl) ?_
    obtain ⟨x2, hc, hf⟩ := bd_go hf
    refine xV_V C G (c_M_works_m_M hc) mX12_works kX12_333 (wM_at0) rfl ⟨Nat.le_of_ble_eq_true rfl, Nat.le_of_ble_eq_true rfl⟩ rfl hl.1 rfl (Nat.le_of_ble_eq_true rfl) ⟨Nat.le_refl _, Nat.le_refl _⟩ dX12_pairOf_21 (fun H locs G => ?_)
    refine lv_aload_n hx hb dX12_pairOf_24 rfl (lv_at hl 0 rfl) ?_
    refine lv_aload_n hx hb dX12_pairOf_25 rfl (lv_at hl 0 rfl) ?_
    refine lv_iload_n hx hb dX12_pairOf_26 rfl (lv_at hl 1 rfl) ?_
    refine lv_iload_n hx hb dX12_pairOf_27 rfl (lv_at hl 2 rfl) ?_
    obtain ⟨x3, hc, hf⟩ := bd_go hf
    refine xI_V C G (c_M_pairBy_m_M hc) mX12_pairBy kX12_345 (wM_at0) rfl ⟨Nat.le_of_ble_eq_true rfl, Nat.le_of_ble_eq_true rfl⟩ rfl hl.1 rfl (Nat.le_of_ble_eq_true rfl) ⟨Nat.le_refl _, Nat.le_refl _⟩ dX12_pairOf_28 (fun hz H locs G => ?_)
    obtain ⟨x4, hc, hf⟩ := bd_go hf
    refine xI_V C G (c_M_good_m_M hc) mX12_good kX12_49 (wM_at0) rfl ⟨Nat.le_of_ble_eq_true rfl, Nat.le_of_ble_eq_true rfl⟩ rfl hl.1 rfl (Nat.le_of_ble_eq_true rfl) ⟨Nat.le_refl _, Nat.le_refl _⟩ dX12_pairOf_31 (fun hz H locs G => ?_)
    obtain rfl := Option.some.inj hf
    exact xI_ret C G rfl dX12_pairOf_34
  · have hf := it_t h hf
    refine lv_aload_n hx hb dX12_pairOf_14 rfl (lv_at hl 0 rfl) ?_
    refine lv_iconst (v := 1) hx hb dX12_pairOf_15 (by decide) ?_
    obtain ⟨x5, hc, hf⟩ := bd_go hf
    refine xI_V C G (c_M_refused_m_M hc) mX12_refused kX12_45 (wM_at0) rfl ⟨Nat.le_of_ble_eq_true rfl, Nat.le_of_ble_eq_true rfl⟩ rfl hl.1 rfl (Nat.le_of_ble_eq_true rfl) ⟨Nat.le_refl _, Nat.le_refl _⟩ dX12_pairOf_16 (fun hz H locs G => ?_)
    obtain rfl := Option.some.inj hf
    exact xI_ret C G rfl dX12_pairOf_19
set_option maxHeartbeats 4000000 in
set_option maxRecDepth 100000 in
theorem w_M_feedersOf_m_M_L4 {p : Program} {l : Launch} {e : Env} {s : State} {m : MethodId} {args : Array Value} {below : List Frame} {meth : Method} {c : Code} {A : Nat → Prop} {E : xE} {Q : State → Prop} {ad : Nat → Nat} {m_thrown m_trouble m_where m_taped m_size m_spot m_sort m_place m_number m_fault m_wrongAt m_acts m_images m_matchNow m_slopsNow m_matchesNow m_fedBest m_slopsBest m_sawBest m_leastNow m_stableNow m_fitsNow m_someNow m_everyNow m_askLeft tb_seats tb_slack tb_saw tb_quarrel tb_people tb_pairs tb_forks tb_unsures tb_trieds tb_fed : Int32} {m_rv : Value} {m_tape m_v m_x m_past m_kept m_slopped m_seatBest m_otherIn tb_seat tb_one tb_other tb_years tb_kind tb_unsure tb_may tb_tried : Nat → Int32} {m_word : Int64} {tb_name : Nat → Int64} {l1 : Int32} {o : Int32} (C : xC p s m args meth c cX12_feedersOf 4 RX12 E A (some .int)) (J : ∀ (H : Heap) (locs : List Loc) (ls : Array Slot), xG s E A (wM E ad m_thrown m_trouble m_where m_rv m_tape m_taped m_size m_spot m_sort m_place m_number m_fault m_wrongAt m_word m_v m_x m_past m_kept m_acts m_images m_matchNow m_slopsNow m_matchesNow m_slopped m_seatBest m_fedBest m_slopsBest m_sawBest m_leastNow m_stableNow m_fitsNow m_someNow m_everyNow m_otherIn m_askLeft tb_seats tb_slack tb_saw tb_quarrel tb_people tb_pairs tb_forks tb_unsures tb_trieds tb_fed tb_seat tb_one tb_other tb_years tb_kind tb_unsure tb_may tb_tried tb_name) H locs → lv_has ls 4 [(2, .int o)] → W p l e (xR 4 87) s m args below meth c H locs 0 0 Q (F0 m 63 ls [])) :
    ∀ (n : Nat) (l2 : Int32) (l3 : Int32) (H : Heap) (locs : List Loc) (ls : Array Slot), xG s E A (wM E ad m_thrown m_trouble m_where m_rv m_tape m_taped m_size m_spot m_sort m_place m_number m_fault m_wrongAt m_word m_v m_x m_past m_kept m_acts m_images m_matchNow m_slopsNow m_matchesNow m_slopped m_seatBest m_fedBest m_slopsBest m_sawBest m_leastNow m_stableNow m_fitsNow m_someNow m_everyNow m_otherIn m_askLeft tb_seats tb_slack tb_saw tb_quarrel tb_people tb_pairs tb_forks tb_unsures tb_trieds tb_fed tb_seat tb_one tb_other tb_years tb_kind tb_unsure tb_may tb_tried tb_name) H locs → lv_has ls 4 [(0, .ref (ad 0)), (1, .int l1), (2, .int l2), (3, .int l3)] → f_M_feedersOf_L4 l1 m_x tb_slack n l2 l3 = some o → W p l e (xR 4 87) s m args below meth c H locs 0 0 Q (F0 m 4 ls []) := by
  have hx := C.1
  have hb := C.2.1
  intro n
  induction n with
  | zero =>
    intro l2 l3 H locs ls G hl hf
    exact nomatch (show (none : Option (Int32)) = some o from hf)
  | succ n ih =>
    intro l2 l3 H locs ls G hl hf
    rw [f_M_feedersOf_L4] at hf
    refine lv_iload_n hx hb dX12_feedersOf_4 rfl (lv_at hl 3 rfl) ?_
    refine lv_aload_n hx hb dX12_feedersOf_5 rfl (lv_at hl 0 rfl) ?_
    refine x_get C G fX12_21 (wM_at0) rfl dX12_feedersOf_6 ?_
    refine lv_bipush (v := 55) hx hb dX12_feedersOf_9 (by decide) ?_
    have hi := ck_in hf
    have hf := ck_go hf
    refine x_iald C G (wM_at3) hi dX12_feedersOf_11 ?_
    refine lv_icmp_ge (tgt := 63) hx hb dX12_feedersOf_12 (by decide) (fun h => ?_) (fun h => ?_)
    · have hf := it_t h hf
      obtain rfl := Option.some.inj hf
      exact J _ _ _ G (lv_sub hl [2] rfl)
    · have hf := it_f h hf
      refine lv_aload_n hx hb dX12_feedersOf_15 rfl (lv_at hl 0 rfl) ?_
      refine lv_iload_n hx hb dX12_feedersOf_16 rfl (lv_at hl 3 rfl) ?_
      refine lv_iload_n hx hb dX12_feedersOf_17 rfl (lv_at hl 1 rfl) ?_
      obtain ⟨x1, hc, hf⟩ := bd_go hf
      refine xI_V C G (c_M_hasOne_m_M hc) mX12_hasOne kX12_327 (wM_at0) rfl ⟨Nat.le_of_ble_eq_true rfl, Nat.le_of_ble_eq_true rfl⟩ rfl hl.1 rfl (Nat.le_of_ble_eq_true rfl) ⟨Nat.le_refl _, Nat.le_refl _⟩ dX12_feedersOf_18 (fun hz1 H locs G => ?_)
      obtain ⟨b2, hr, hf⟩ := bd_go hf
      cases b2 with
      | true =>
        have hf := it_t rfl hf
        have J : ∀ (H : Heap) (locs : List Loc), xG s E A (wM E ad m_thrown m_trouble m_where m_rv m_tape m_taped m_size m_spot m_sort m_place m_number m_fault m_wrongAt m_word m_v m_x m_past m_kept m_acts m_images m_matchNow m_slopsNow m_matchesNow m_slopped m_seatBest m_fedBest m_slopsBest m_sawBest m_leastNow m_stableNow m_fitsNow m_someNow m_everyNow m_otherIn m_askLeft tb_seats tb_slack tb_saw tb_quarrel tb_people tb_pairs tb_forks tb_unsures tb_trieds tb_fed tb_seat tb_one tb_other tb_years tb_kind tb_unsure tb_may tb_tried tb_name) H locs → W p l e (xR 4 87) s m args below meth c H locs 0 0 Q (F0 m 57 ls []) := by
          intro H locs G
          obtain ⟨x3, ex3⟩ : ∃ z : Int32, z = l3 + (1 : Int32) := ⟨_, rfl⟩
          have hf := lt_go ex3 hf
          refine lv_iinc (v := x3) (lv' := [(3, .int x3), (0, .ref (ad 0)), (1, .int l1), (2, .int l2)]) hx hb dX12_feedersOf_57 hl (k := 3) rfl (by rw [ex3]; rfl) (by decide) rfl (fun ls hl => ?_)
          refine lv_goto (tgt := 4) hx hb dX12_feedersOf_60 (by decide) ?_
          exact ih l2 x3 _ _ _ G (lv_sub hl [1, 2, 3, 0] rfl) hf
        have hf := hr
        clear hr
        refine lv_if_eq (tgt := 57) hx hb dX12_feedersOf_21 (by decide) (fun h => ?_) (fun h => ?_)
        · have hf := it_t h hf
          exact J _ _ G
        · have hf := it_f h hf
          refine lv_aload_n hx hb dX12_feedersOf_24 rfl (lv_at hl 0 rfl) ?_
          refine lv_iload_n hx hb dX12_feedersOf_25 rfl (lv_at hl 3 rfl) ?_
          obtain ⟨x4, hc, hf⟩ := bd_go hf
          refine xI_V C G (c_M_isFeeding_m_M hc) mX12_isFeeding kX12_336 (wM_at0) rfl ⟨Nat.le_of_ble_eq_true rfl, Nat.le_of_ble_eq_true rfl⟩ rfl hl.1 rfl (Nat.le_of_ble_eq_true rfl) ⟨Nat.le_refl _, Nat.le_refl _⟩ dX12_feedersOf_26 (fun hz4 H locs G => ?_)
          refine lv_if_eq (tgt := 57) hx hb dX12_feedersOf_29 (by decide) (fun h => ?_) (fun h => ?_)
          · have hf := it_t h hf
            exact J _ _ G
          · have hf := it_f h hf
            exact absurd (Option.some.inj hf) (by decide)
      | false =>
        have hf := it_f (by decide) hf
        have J : ∀ (H : Heap) (locs : List Loc), xG s E A (wM E ad m_thrown m_trouble m_where m_rv m_tape m_taped m_size m_spot m_sort m_place m_number m_fault m_wrongAt m_word m_v m_x m_past m_kept m_acts m_images m_matchNow m_slopsNow m_matchesNow m_slopped m_seatBest m_fedBest m_slopsBest m_sawBest m_leastNow m_stableNow m_fitsNow m_someNow m_everyNow m_otherIn m_askLeft tb_seats tb_slack tb_saw tb_quarrel tb_people tb_pairs tb_forks tb_unsures tb_trieds tb_fed tb_seat tb_one tb_other tb_years tb_kind tb_unsure tb_may tb_tried tb_name) H locs → W p l e (xR 4 87) s m args below meth c H locs 0 0 Q (F0 m 32 ls []) := by
          intro H locs G
          refine lv_iload_n hx hb dX12_feedersOf_32 rfl (lv_at hl 2 rfl) ?_
          refine lv_iconst (v := 1) hx hb dX12_feedersOf_33 (by decide) ?_
          refine lv_aload_n hx hb dX12_feedersOf_34 rfl (lv_at hl 0 rfl) ?_
          refine x_get C G fX12_21 (wM_at0) rfl dX12_feedersOf_35 ?_
          refine lv_iconst (v := 5) hx hb dX12_feedersOf_38 (by decide) ?_
          refine lv_iload_n hx hb dX12_feedersOf_39 rfl (lv_at hl 3 rfl) ?_
          refine lv_iadd hx hb dX12_feedersOf_40 ?_
          have hi := ck_in hf
          have hf := ck_go hf
          refine x_iald C G (wM_at3) hi dX12_feedersOf_41 ?_
          refine lv_aload_n hx hb dX12_feedersOf_42 rfl (lv_at hl 0 rfl) ?_
          refine x_get C G fX12_21 (wM_at0) rfl dX12_feedersOf_43 ?_
          refine lv_bipush (v := 15) hx hb dX12_feedersOf_46 (by decide) ?_
          refine lv_iload_n hx hb dX12_feedersOf_48 rfl (lv_at hl 3 rfl) ?_
          refine lv_iadd hx hb dX12_feedersOf_49 ?_
          have hi := ck_in hf
          have hf := ck_go hf
          refine x_iald C G (wM_at3) hi dX12_feedersOf_50 ?_
          refine lv_iadd hx hb dX12_feedersOf_51 ?_
          refine lv_iload_n hx hb dX12_feedersOf_52 rfl (lv_at hl 1 rfl) ?_
          refine lv_isub hx hb dX12_feedersOf_53 ?_
          refine lv_ishl hx hb dX12_feedersOf_54 ?_
          refine lv_ior hx hb dX12_feedersOf_55 ?_
          refine lv_topi (fun x5 ex5 => ?_)
          have hf := lt_go ex5 hf
          refine lv_istore_n (lv' := [(2, .int x5), (0, .ref (ad 0)), (1, .int l1), (3, .int l3)]) hx hb dX12_feedersOf_56 rfl hl (by decide) rfl (fun ls hl => ?_)
          obtain ⟨x6, ex6⟩ : ∃ z : Int32, z = l3 + (1 : Int32) := ⟨_, rfl⟩
          have hf := lt_go ex6 hf
          refine lv_iinc (v := x6) (lv' := [(3, .int x6), (2, .int x5), (0, .ref (ad 0)), (1, .int l1)]) hx hb dX12_feedersOf_57 hl (k := 3) rfl (by rw [ex6]; rfl) (by decide) rfl (fun ls hl => ?_)
          refine lv_goto (tgt := 4) hx hb dX12_feedersOf_60 (by decide) ?_
          exact ih x5 x6 _ _ _ G (lv_sub hl [2, 3, 1, 0] rfl) hf
        have hf := hr
        clear hr
        refine lv_if_eq (tgt := 57) hx hb dX12_feedersOf_21 (by decide) (fun h => ?_) (fun h => ?_)
        · have hf := it_t h hf
          exact absurd (Option.some.inj hf) (by decide)
        · have hf := it_f h hf
          refine lv_aload_n hx hb dX12_feedersOf_24 rfl (lv_at hl 0 rfl) ?_
          refine lv_iload_n hx hb dX12_feedersOf_25 rfl (lv_at hl 3 rfl) ?_
          obtain ⟨x7, hc, hf⟩ := bd_go hf
          refine xI_V C G (c_M_isFeeding_m_M hc) mX12_isFeeding kX12_336 (wM_at0) rfl ⟨Nat.le_of_ble_eq_true rfl, Nat.le_of_ble_eq_true rfl⟩ rfl hl.1 rfl (Nat.le_of_ble_eq_true rfl) ⟨Nat.le_refl _, Nat.le_refl _⟩ dX12_feedersOf_26 (fun hz7 H locs G => ?_)
          refine lv_if_eq (tgt := 57) hx hb dX12_feedersOf_29 (by decide) (fun h => ?_) (fun h => ?_)
          · have hf := it_t h hf
            exact absurd (Option.some.inj hf) (by decide)
          · have hf := it_f h hf
            exact J _ _ G
set_option maxHeartbeats 4000000 in
set_option maxRecDepth 100000 in
theorem c_M_feedersOf_m_M {l : Launch} {E : xE} {ad : Nat → Nat} {m_thrown m_trouble m_where m_taped m_size m_spot m_sort m_place m_number m_fault m_wrongAt m_acts m_images m_matchNow m_slopsNow m_matchesNow m_fedBest m_slopsBest m_sawBest m_leastNow m_stableNow m_fitsNow m_someNow m_everyNow m_askLeft tb_seats tb_slack tb_saw tb_quarrel tb_people tb_pairs tb_forks tb_unsures tb_trieds tb_fed : Int32} {m_rv : Value} {m_tape m_v m_x m_past m_kept m_slopped m_seatBest m_otherIn tb_seat tb_one tb_other tb_years tb_kind tb_unsure tb_may tb_tried : Nat → Int32} {m_word : Int64} {tb_name : Nat → Int64} {l1 : Int32} {R0 : Int32} (hf : f_M_feedersOf l1 m_x tb_slack = some R0) : xI l E yX12_feedersOf cX12_feedersOf 4 (some .int) 4 87 [.ref (ad 0), .int l1] (wM E ad m_thrown m_trouble m_where m_rv m_tape m_taped m_size m_spot m_sort m_place m_number m_fault m_wrongAt m_word m_v m_x m_past m_kept m_acts m_images m_matchNow m_slopsNow m_matchesNow m_slopped m_seatBest m_fedBest m_slopsBest m_sawBest m_leastNow m_stableNow m_fitsNow m_someNow m_everyNow m_otherIn m_askLeft tb_seats tb_slack tb_saw tb_quarrel tb_people tb_pairs tb_forks tb_unsures tb_trieds tb_fed tb_seat tb_one tb_other tb_years tb_kind tb_unsure tb_may tb_tried tb_name) (wM E ad m_thrown m_trouble m_where m_rv m_tape m_taped m_size m_spot m_sort m_place m_number m_fault m_wrongAt m_word m_v m_x m_past m_kept m_acts m_images m_matchNow m_slopsNow m_matchesNow m_slopped m_seatBest m_fedBest m_slopsBest m_sawBest m_leastNow m_stableNow m_fitsNow m_someNow m_everyNow m_otherIn m_askLeft tb_seats tb_slack tb_saw tb_quarrel tb_people tb_pairs tb_forks tb_unsures tb_trieds tb_fed tb_seat tb_one tb_other tb_years tb_kind tb_unsure tb_may tb_tried tb_name) R0 := by
  refine xI_of (by decide) (Nat.le_of_ble_eq_true rfl) (fun p e s m args below meth c A C ls hl G => ?_)
  have hx := C.1
  have hb := C.2.1
  have hl : lv_has ls 4 [(0, .ref (ad 0)), (1, .int l1)] := hl
  unfold f_M_feedersOf at hf
  refine lv_iconst (v := 0) hx hb dX12_feedersOf_0 (by decide) ?_
  refine lv_istore_n (lv' := [(2, .int (0 : Int32)), (0, .ref (ad 0)), (1, .int l1)]) hx hb dX12_feedersOf_1 rfl hl (by decide) rfl (fun ls hl => ?_)
  refine lv_iconst (v := 0) hx hb dX12_feedersOf_2 (by decide) ?_
  refine lv_istore_n (lv' := [(3, .int (0 : Int32)), (2, .int (0 : Int32)), (0, .ref (ad 0)), (1, .int l1)]) hx hb dX12_feedersOf_3 rfl hl (by decide) rfl (fun ls hl => ?_)
  obtain ⟨x8, hr, hf⟩ := bd_go hf
  have Jx8 : ∀ (H : Heap) (locs : List Loc) (ls : Array Slot), xG s E A (wM E ad m_thrown m_trouble m_where m_rv m_tape m_taped m_size m_spot m_sort m_place m_number m_fault m_wrongAt m_word m_v m_x m_past m_kept m_acts m_images m_matchNow m_slopsNow m_matchesNow m_slopped m_seatBest m_fedBest m_slopsBest m_sawBest m_leastNow m_stableNow m_fitsNow m_someNow m_everyNow m_otherIn m_askLeft tb_seats tb_slack tb_saw tb_quarrel tb_people tb_pairs tb_forks tb_unsures tb_trieds tb_fed tb_seat tb_one tb_other tb_years tb_kind tb_unsure tb_may tb_tried tb_name) H locs → lv_has ls 4 [(2, .int x8)] → W p l e (xR 4 87) s m args below meth c H locs 0 0 (MQ below (xqI E A (wM E ad m_thrown m_trouble m_where m_rv m_tape m_taped m_size m_spot m_sort m_place m_number m_fault m_wrongAt m_word m_v m_x m_past m_kept m_acts m_images m_matchNow m_slopsNow m_matchesNow m_slopped m_seatBest m_fedBest m_slopsBest m_sawBest m_leastNow m_stableNow m_fitsNow m_someNow m_everyNow m_otherIn m_askLeft tb_seats tb_slack tb_saw tb_quarrel tb_people tb_pairs tb_forks tb_unsures tb_trieds tb_fed tb_seat tb_one tb_other tb_years tb_kind tb_unsure tb_may tb_tried tb_name) (some .int) R0) args s 0 0 A) (F0 m 63 ls []) := by
    intro H locs ls G hl
    refine lv_iload_n hx hb dX12_feedersOf_63 rfl (lv_at hl 0 rfl) ?_
    obtain rfl := Option.some.inj hf
    exact xI_ret C G rfl dX12_feedersOf_64
  exact w_M_feedersOf_m_M_L4 C Jx8 fu _ _ _ _ _ G (lv_sub hl [2, 3, 1, 0] rfl) hr
set_option maxHeartbeats 4000000 in
set_option maxRecDepth 100000 in
theorem c_M_feeders_m_M {l : Launch} {E : xE} {ad : Nat → Nat} {m_thrown m_trouble m_where m_taped m_size m_spot m_sort m_place m_number m_fault m_wrongAt m_acts m_images m_matchNow m_slopsNow m_matchesNow m_fedBest m_slopsBest m_sawBest m_leastNow m_stableNow m_fitsNow m_someNow m_everyNow m_askLeft tb_seats tb_slack tb_saw tb_quarrel tb_people tb_pairs tb_forks tb_unsures tb_trieds tb_fed : Int32} {m_rv : Value} {m_tape m_v m_x m_past m_kept m_slopped m_seatBest m_otherIn tb_seat tb_one tb_other tb_years tb_kind tb_unsure tb_may tb_tried : Nat → Int32} {m_word : Int64} {tb_name : Nat → Int64} {l1 : Int32} {R0 : Int32 × Int32 × Int32 × Int32 × (Nat → Int32)} (hf : f_M_feeders l1 m_v m_x tb_slack tb_people = some R0) : xI l E yX12_feeders cX12_feeders 2 (some .int) 5 110 [.ref (ad 0), .int l1] (wM E ad m_thrown m_trouble m_where m_rv m_tape m_taped m_size m_spot m_sort m_place m_number m_fault m_wrongAt m_word m_v m_x m_past m_kept m_acts m_images m_matchNow m_slopsNow m_matchesNow m_slopped m_seatBest m_fedBest m_slopsBest m_sawBest m_leastNow m_stableNow m_fitsNow m_someNow m_everyNow m_otherIn m_askLeft tb_seats tb_slack tb_saw tb_quarrel tb_people tb_pairs tb_forks tb_unsures tb_trieds tb_fed tb_seat tb_one tb_other tb_years tb_kind tb_unsure tb_may tb_tried tb_name) (wM E ad R0.2.1 R0.2.2.1 R0.2.2.2.1 m_rv m_tape m_taped m_size m_spot m_sort m_place m_number m_fault m_wrongAt m_word m_v R0.2.2.2.2 m_past m_kept m_acts m_images m_matchNow m_slopsNow m_matchesNow m_slopped m_seatBest m_fedBest m_slopsBest m_sawBest m_leastNow m_stableNow m_fitsNow m_someNow m_everyNow m_otherIn m_askLeft tb_seats tb_slack tb_saw tb_quarrel tb_people tb_pairs tb_forks tb_unsures tb_trieds tb_fed tb_seat tb_one tb_other tb_years tb_kind tb_unsure tb_may tb_tried tb_name) R0.1 := by
  refine xI_of (by decide) (Nat.le_of_ble_eq_true rfl) (fun p e s m args below meth c A C ls hl G => ?_)
  have hx := C.1
  have hb := C.2.1
  have hl : lv_has ls 2 [(0, .ref (ad 0)), (1, .int l1)] := hl
  unfold f_M_feeders at hf
  refine lv_aload_n hx hb dX12_feeders_0 rfl (lv_at hl 0 rfl) ?_
  refine lv_iconst (v := 0) hx hb dX12_feeders_1 (by decide) ?_
  refine x_put (ws' := (wM E ad (0 : Int32) m_trouble m_where m_rv m_tape m_taped m_size m_spot m_sort m_place m_number m_fault m_wrongAt m_word m_v m_x m_past m_kept m_acts m_images m_matchNow m_slopsNow m_matchesNow m_slopped m_seatBest m_fedBest m_slopsBest m_sawBest m_leastNow m_stableNow m_fitsNow m_someNow m_everyNow m_otherIn m_askLeft tb_seats tb_slack tb_saw tb_quarrel tb_people tb_pairs tb_forks tb_unsures tb_trieds tb_fed tb_seat tb_one tb_other tb_years tb_kind tb_unsure tb_may tb_tried tb_name)) C G fX12_39 (wM_at0) rfl rfl (Nat.le_of_ble_eq_true rfl) wM_set_m_thrown dX12_feeders_2 (fun H locs G => ?_)
  refine lv_aload_n hx hb dX12_feeders_5 rfl (lv_at hl 0 rfl) ?_
  refine lv_iload_n hx hb dX12_feeders_6 rfl (lv_at hl 1 rfl) ?_
  obtain ⟨x1, hc, hf⟩ := bd_go hf
  refine xI_V C G (c_M_isPerson_m_M hc) mX12_isPerson kX12_309 (wM_at0) rfl ⟨Nat.le_of_ble_eq_true rfl, Nat.le_of_ble_eq_true rfl⟩ rfl hl.1 rfl (Nat.le_of_ble_eq_true rfl) ⟨Nat.le_refl _, Nat.le_refl _⟩ dX12_feeders_7 (fun hz1 H locs G => ?_)
  refine lv_if_ne (tgt := 19) hx hb dX12_feeders_10 (by decide) (fun h => ?_) (fun h => ?_)
  · have hf := it_f h hf
    refine lv_aload_n hx hb dX12_feeders_19 rfl (lv_at hl 0 rfl) ?_
    obtain ⟨x2, hc, hf⟩ := bd_go hf
    refine xV_V C G (c_M_works_m_M hc) mX12_works kX12_333 (wM_at0) rfl ⟨Nat.le_of_ble_eq_true rfl, Nat.le_of_ble_eq_true rfl⟩ rfl hl.1 rfl (Nat.le_of_ble_eq_true rfl) ⟨Nat.le_refl _, Nat.le_refl _⟩ dX12_feeders_20 (fun H locs G => ?_)
    refine lv_aload_n hx hb dX12_feeders_23 rfl (lv_at hl 0 rfl) ?_
    refine lv_aload_n hx hb dX12_feeders_24 rfl (lv_at hl 0 rfl) ?_
    refine lv_iload_n hx hb dX12_feeders_25 rfl (lv_at hl 1 rfl) ?_
    obtain ⟨x3, hc, hf⟩ := bd_go hf
    refine xI_V C G (c_M_feedersOf_m_M hc) mX12_feedersOf kX12_348 (wM_at0) rfl ⟨Nat.le_of_ble_eq_true rfl, Nat.le_of_ble_eq_true rfl⟩ rfl hl.1 rfl (Nat.le_of_ble_eq_true rfl) ⟨Nat.le_refl _, Nat.le_refl _⟩ dX12_feeders_26 (fun hz H locs G => ?_)
    obtain ⟨x4, hc, hf⟩ := bd_go hf
    refine xI_V C G (c_M_good_m_M hc) mX12_good kX12_49 (wM_at0) rfl ⟨Nat.le_of_ble_eq_true rfl, Nat.le_of_ble_eq_true rfl⟩ rfl hl.1 rfl (Nat.le_of_ble_eq_true rfl) ⟨Nat.le_refl _, Nat.le_refl _⟩ dX12_feeders_29 (fun hz H locs G => ?_)
    obtain rfl := Option.some.inj hf
    exact xI_ret C G rfl dX12_feeders_32
  · have hf := it_t h hf
    refine lv_aload_n hx hb dX12_feeders_13 rfl (lv_at hl 0 rfl) ?_
    refine lv_iconst (v := 1) hx hb dX12_feeders_14 (by decide) ?_
    obtain ⟨x5, hc, hf⟩ := bd_go hf
    refine xI_V C G (c_M_refused_m_M hc) mX12_refused kX12_45 (wM_at0) rfl ⟨Nat.le_of_ble_eq_true rfl, Nat.le_of_ble_eq_true rfl⟩ rfl hl.1 rfl (Nat.le_of_ble_eq_true rfl) ⟨Nat.le_refl _, Nat.le_refl _⟩ dX12_feeders_15 (fun hz H locs G => ?_)
    obtain rfl := Option.some.inj hf
    exact xI_ret C G rfl dX12_feeders_18
set_option maxHeartbeats 4000000 in
set_option maxRecDepth 100000 in
theorem c_M_forks_m_M {l : Launch} {E : xE} {ad : Nat → Nat} {m_thrown m_trouble m_where m_taped m_size m_spot m_sort m_place m_number m_fault m_wrongAt m_acts m_images m_matchNow m_slopsNow m_matchesNow m_fedBest m_slopsBest m_sawBest m_leastNow m_stableNow m_fitsNow m_someNow m_everyNow m_askLeft tb_seats tb_slack tb_saw tb_quarrel tb_people tb_pairs tb_forks tb_unsures tb_trieds tb_fed : Int32} {m_rv : Value} {m_tape m_v m_x m_past m_kept m_slopped m_seatBest m_otherIn tb_seat tb_one tb_other tb_years tb_kind tb_unsure tb_may tb_tried : Nat → Int32} {m_word : Int64} {tb_name : Nat → Int64} {l1 : Int32} {l2 : Int32} {R0 : Int32 × Int32 × Int32 × Int32 × (Nat → Int32)} (hf : f_M_forks l1 l2 m_v m_x tb_seats tb_people = some R0) : xI l E yX12_forks cX12_forks 3 (some .int) 2 45 [.ref (ad 0), .int l1, .int l2] (wM E ad m_thrown m_trouble m_where m_rv m_tape m_taped m_size m_spot m_sort m_place m_number m_fault m_wrongAt m_word m_v m_x m_past m_kept m_acts m_images m_matchNow m_slopsNow m_matchesNow m_slopped m_seatBest m_fedBest m_slopsBest m_sawBest m_leastNow m_stableNow m_fitsNow m_someNow m_everyNow m_otherIn m_askLeft tb_seats tb_slack tb_saw tb_quarrel tb_people tb_pairs tb_forks tb_unsures tb_trieds tb_fed tb_seat tb_one tb_other tb_years tb_kind tb_unsure tb_may tb_tried tb_name) (wM E ad R0.2.1 R0.2.2.1 R0.2.2.2.1 m_rv m_tape m_taped m_size m_spot m_sort m_place m_number m_fault m_wrongAt m_word m_v R0.2.2.2.2 m_past m_kept m_acts m_images m_matchNow m_slopsNow m_matchesNow m_slopped m_seatBest m_fedBest m_slopsBest m_sawBest m_leastNow m_stableNow m_fitsNow m_someNow m_everyNow m_otherIn m_askLeft tb_seats tb_slack tb_saw tb_quarrel tb_people tb_pairs tb_forks tb_unsures tb_trieds tb_fed tb_seat tb_one tb_other tb_years tb_kind tb_unsure tb_may tb_tried tb_name) R0.1 := by
  refine xI_of (by decide) (Nat.le_of_ble_eq_true rfl) (fun p e s m args below meth c A C ls hl G => ?_)
  have hx := C.1
  have hb := C.2.1
  have hl : lv_has ls 3 [(0, .ref (ad 0)), (1, .int l1), (2, .int l2)] := hl
  unfold f_M_forks at hf
  refine lv_aload_n hx hb dX12_forks_0 rfl (lv_at hl 0 rfl) ?_
  refine lv_iconst (v := 0) hx hb dX12_forks_1 (by decide) ?_
  refine x_put (ws' := (wM E ad (0 : Int32) m_trouble m_where m_rv m_tape m_taped m_size m_spot m_sort m_place m_number m_fault m_wrongAt m_word m_v m_x m_past m_kept m_acts m_images m_matchNow m_slopsNow m_matchesNow m_slopped m_seatBest m_fedBest m_slopsBest m_sawBest m_leastNow m_stableNow m_fitsNow m_someNow m_everyNow m_otherIn m_askLeft tb_seats tb_slack tb_saw tb_quarrel tb_people tb_pairs tb_forks tb_unsures tb_trieds tb_fed tb_seat tb_one tb_other tb_years tb_kind tb_unsure tb_may tb_tried tb_name)) C G fX12_39 (wM_at0) rfl rfl (Nat.le_of_ble_eq_true rfl) wM_set_m_thrown dX12_forks_2 (fun H locs G => ?_)
  refine lv_aload_n hx hb dX12_forks_5 rfl (lv_at hl 0 rfl) ?_
  refine lv_iload_n hx hb dX12_forks_6 rfl (lv_at hl 1 rfl) ?_
  refine lv_iload_n hx hb dX12_forks_7 rfl (lv_at hl 2 rfl) ?_
  obtain ⟨x1, hc, hf⟩ := bd_go hf
  refine xI_V C G (c_M_areTwo_m_M hc) mX12_areTwo kX12_342 (wM_at0) rfl ⟨Nat.le_of_ble_eq_true rfl, Nat.le_of_ble_eq_true rfl⟩ rfl hl.1 rfl (Nat.le_of_ble_eq_true rfl) ⟨Nat.le_refl _, Nat.le_refl _⟩ dX12_forks_8 (fun hz1 H locs G => ?_)
  refine lv_if_ne (tgt := 20) hx hb dX12_forks_11 (by decide) (fun h => ?_) (fun h => ?_)
  · have hf := it_f h hf
    refine lv_aload_n hx hb dX12_forks_20 rfl (lv_at hl 0 rfl) ?_
    obtain ⟨x2, hc, hf⟩ := bd_go hf
    refine xV_V C G (c_M_works_m_M hc) mX12_works kX12_333 (wM_at0) rfl ⟨Nat.le_of_ble_eq_true rfl, Nat.le_of_ble_eq_true rfl⟩ rfl hl.1 rfl (Nat.le_of_ble_eq_true rfl) ⟨Nat.le_refl _, Nat.le_refl _⟩ dX12_forks_21 (fun H locs G => ?_)
    refine lv_aload_n hx hb dX12_forks_24 rfl (lv_at hl 0 rfl) ?_
    refine lv_aload_n hx hb dX12_forks_25 rfl (lv_at hl 0 rfl) ?_
    refine lv_iload_n hx hb dX12_forks_26 rfl (lv_at hl 1 rfl) ?_
    refine lv_iload_n hx hb dX12_forks_27 rfl (lv_at hl 2 rfl) ?_
    obtain ⟨x3, hc, hf⟩ := bd_go hf
    refine xI_V C G (c_M_forksOf_m_M hc) mX12_forksOf kX12_318 (wM_at0) rfl ⟨Nat.le_of_ble_eq_true rfl, Nat.le_of_ble_eq_true rfl⟩ rfl hl.1 rfl (Nat.le_of_ble_eq_true rfl) ⟨Nat.le_refl _, Nat.le_refl _⟩ dX12_forks_28 (fun hz H locs G => ?_)
    obtain ⟨x4, hc, hf⟩ := bd_go hf
    refine xI_V C G (c_M_good_m_M hc) mX12_good kX12_49 (wM_at0) rfl ⟨Nat.le_of_ble_eq_true rfl, Nat.le_of_ble_eq_true rfl⟩ rfl hl.1 rfl (Nat.le_of_ble_eq_true rfl) ⟨Nat.le_refl _, Nat.le_refl _⟩ dX12_forks_31 (fun hz H locs G => ?_)
    obtain rfl := Option.some.inj hf
    exact xI_ret C G rfl dX12_forks_34
  · have hf := it_t h hf
    refine lv_aload_n hx hb dX12_forks_14 rfl (lv_at hl 0 rfl) ?_
    refine lv_iconst (v := 1) hx hb dX12_forks_15 (by decide) ?_
    obtain ⟨x5, hc, hf⟩ := bd_go hf
    refine xI_V C G (c_M_refused_m_M hc) mX12_refused kX12_45 (wM_at0) rfl ⟨Nat.le_of_ble_eq_true rfl, Nat.le_of_ble_eq_true rfl⟩ rfl hl.1 rfl (Nat.le_of_ble_eq_true rfl) ⟨Nat.le_refl _, Nat.le_refl _⟩ dX12_forks_16 (fun hz H locs G => ?_)
    obtain rfl := Option.some.inj hf
    exact xI_ret C G rfl dX12_forks_19
set_option maxHeartbeats 4000000 in
set_option maxRecDepth 100000 in
theorem w_M_bits_any_L4 {p : Program} {l : Launch} {e : Env} {s : State} {m : MethodId} {args : Array Value} {below : List Frame} {meth : Method} {c : Code} {A : Nat → Prop} {E : xE} {Q : State → Prop} {ws : va_W} {o : Int32} (C : xC p s m args meth c cX12_bits 3 RX12 E A (some .int)) (J : ∀ (H : Heap) (locs : List Loc) (ls : Array Slot), xG s E A ws H locs → lv_has ls 3 [(1, .int o)] → W p l e (xR 0 0) s m args below meth c H locs 0 0 Q (F0 m 20 ls [])) :
    ∀ (n : Nat) (l1 : Int32) (l2 : Int32) (H : Heap) (locs : List Loc) (ls : Array Slot), xG s E A ws H locs → lv_has ls 3 [(1, .int l1), (2, .int l2)] → f_M_bits_L4 n l1 l2 = some o → W p l e (xR 0 0) s m args below meth c H locs 0 0 Q (F0 m 4 ls []) := by
  have hx := C.1
  have hb := C.2.1
  intro n
  induction n with
  | zero =>
    intro l1 l2 H locs ls G hl hf
    exact nomatch (show (none : Option (Int32)) = some o from hf)
  | succ n ih =>
    intro l1 l2 H locs ls G hl hf
    rw [f_M_bits_L4] at hf
    refine lv_iload_n hx hb dX12_bits_4 rfl (lv_at hl 1 rfl) ?_
    refine lv_if_eq (tgt := 20) hx hb dX12_bits_5 (by decide) (fun h => ?_) (fun h => ?_)
    · have hf := it_t h hf
      obtain rfl := Option.some.inj hf
      exact J _ _ _ G (lv_sub hl [0] rfl)
    · have hf := it_f h hf
      obtain ⟨x1, ex1⟩ : ∃ z : Int32, z = l1 + (1 : Int32) := ⟨_, rfl⟩
      have hf := lt_go ex1 hf
      refine lv_iinc (v := x1) (lv' := [(1, .int x1), (2, .int l2)]) hx hb dX12_bits_8 hl (k := 0) rfl (by rw [ex1]; rfl) (by decide) rfl (fun ls hl => ?_)
      refine lv_iload_n hx hb dX12_bits_11 rfl (lv_at hl 1 rfl) ?_
      refine lv_iload_n hx hb dX12_bits_12 rfl (lv_at hl 1 rfl) ?_
      refine lv_iconst (v := 1) hx hb dX12_bits_13 (by decide) ?_
      refine lv_isub hx hb dX12_bits_14 ?_
      refine lv_iand hx hb dX12_bits_15 ?_
      refine lv_topi (fun x2 ex2 => ?_)
      have hf := lt_go ex2 hf
      refine lv_istore_n (lv' := [(2, .int x2), (1, .int x1)]) hx hb dX12_bits_16 rfl hl (by decide) rfl (fun ls hl => ?_)
      refine lv_goto (tgt := 4) hx hb dX12_bits_17 (by decide) ?_
      exact ih x1 x2 _ _ _ G (lv_sub hl [1, 0] rfl) hf
set_option maxHeartbeats 4000000 in
set_option maxRecDepth 100000 in
theorem c_M_bits_any {l : Launch} {E : xE} {ws : va_W} {l0 : Int32} {R0 : Int32} (hf : f_M_bits l0 = some R0) : xI l E yX12_bits cX12_bits 3 (some .int) 0 0 [.int l0] ws ws R0 := by
  refine xI_of (by decide) (Nat.le_of_ble_eq_true rfl) (fun p e s m args below meth c A C ls hl G => ?_)
  have hx := C.1
  have hb := C.2.1
  have hl : lv_has ls 3 [(0, .int l0)] := hl
  unfold f_M_bits at hf
  refine lv_iconst (v := 0) hx hb dX12_bits_0 (by decide) ?_
  refine lv_istore_n (lv' := [(1, .int (0 : Int32)), (0, .int l0)]) hx hb dX12_bits_1 rfl hl (by decide) rfl (fun ls hl => ?_)
  refine lv_iload_n hx hb dX12_bits_2 rfl (lv_at hl 1 rfl) ?_
  refine lv_istore_n (lv' := [(2, .int l0), (1, .int (0 : Int32)), (0, .int l0)]) hx hb dX12_bits_3 rfl hl (by decide) rfl (fun ls hl => ?_)
  obtain ⟨x3, hr, hf⟩ := bd_go hf
  have Jx3 : ∀ (H : Heap) (locs : List Loc) (ls : Array Slot), xG s E A ws H locs → lv_has ls 3 [(1, .int x3)] → W p l e (xR 0 0) s m args below meth c H locs 0 0 (MQ below (xqI E A ws (some .int) R0) args s 0 0 A) (F0 m 20 ls []) := by
    intro H locs ls G hl
    refine lv_iload_n hx hb dX12_bits_20 rfl (lv_at hl 0 rfl) ?_
    obtain rfl := Option.some.inj hf
    exact xI_ret C G rfl dX12_bits_21
  exact w_M_bits_any_L4 C Jx3 fu _ _ _ _ _ G (lv_sub hl [1, 0] rfl) hr
set_option maxHeartbeats 4000000 in
set_option maxRecDepth 100000 in
theorem c_M_tries_m_M {l : Launch} {E : xE} {ad : Nat → Nat} {m_thrown m_trouble m_where m_taped m_size m_spot m_sort m_place m_number m_fault m_wrongAt m_acts m_images m_matchNow m_slopsNow m_matchesNow m_fedBest m_slopsBest m_sawBest m_leastNow m_stableNow m_fitsNow m_someNow m_everyNow m_askLeft tb_seats tb_slack tb_saw tb_quarrel tb_people tb_pairs tb_forks tb_unsures tb_trieds tb_fed : Int32} {m_rv : Value} {m_tape m_v m_x m_past m_kept m_slopped m_seatBest m_otherIn tb_seat tb_one tb_other tb_years tb_kind tb_unsure tb_may tb_tried : Nat → Int32} {m_word : Int64} {tb_name : Nat → Int64} {l1 : Int32} {l2 : Int32} {R0 : Int32 × Int32 × Int32} (hf : f_M_tries l1 l2 m_matchNow m_slopsNow m_matchesNow = some R0) : xV l E yX12_tries cX12_tries 4 none 1 22 [.ref (ad 0), .int l1, .int l2] (wM E ad m_thrown m_trouble m_where m_rv m_tape m_taped m_size m_spot m_sort m_place m_number m_fault m_wrongAt m_word m_v m_x m_past m_kept m_acts m_images m_matchNow m_slopsNow m_matchesNow m_slopped m_seatBest m_fedBest m_slopsBest m_sawBest m_leastNow m_stableNow m_fitsNow m_someNow m_everyNow m_otherIn m_askLeft tb_seats tb_slack tb_saw tb_quarrel tb_people tb_pairs tb_forks tb_unsures tb_trieds tb_fed tb_seat tb_one tb_other tb_years tb_kind tb_unsure tb_may tb_tried tb_name) (wM E ad m_thrown m_trouble m_where m_rv m_tape m_taped m_size m_spot m_sort m_place m_number m_fault m_wrongAt m_word m_v m_x m_past m_kept m_acts m_images R0.1 R0.2.1 R0.2.2 m_slopped m_seatBest m_fedBest m_slopsBest m_sawBest m_leastNow m_stableNow m_fitsNow m_someNow m_everyNow m_otherIn m_askLeft tb_seats tb_slack tb_saw tb_quarrel tb_people tb_pairs tb_forks tb_unsures tb_trieds tb_fed tb_seat tb_one tb_other tb_years tb_kind tb_unsure tb_may tb_tried tb_name) := by
  refine xV_of (by decide) (Nat.le_of_ble_eq_true rfl) (fun p e s m args below meth c A C ls hl G => ?_)
  have hx := C.1
  have hb := C.2.1
  have hl : lv_has ls 4 [(0, .ref (ad 0)), (1, .int l1), (2, .int l2)] := hl
  unfold f_M_tries at hf
  refine lv_aload_n hx hb dX12_tries_0 rfl (lv_at hl 0 rfl) ?_
  refine lv_dup hx hb dX12_tries_1 rfl ?_
  refine x_get C G fX12_351.g (wM_at0) rfl dX12_tries_2 ?_
  refine lv_iconst (v := 1) hx hb dX12_tries_5 (by decide) ?_
  refine lv_iadd hx hb dX12_tries_6 ?_
  refine lv_topi (fun x1 ex1 => ?_)
  have hf := lt_go ex1 hf
  refine x_put (ws' := (wM E ad m_thrown m_trouble m_where m_rv m_tape m_taped m_size m_spot m_sort m_place m_number m_fault m_wrongAt m_word m_v m_x m_past m_kept m_acts m_images m_matchNow m_slopsNow x1 m_slopped m_seatBest m_fedBest m_slopsBest m_sawBest m_leastNow m_stableNow m_fitsNow m_someNow m_everyNow m_otherIn m_askLeft tb_seats tb_slack tb_saw tb_quarrel tb_people tb_pairs tb_forks tb_unsures tb_trieds tb_fed tb_seat tb_one tb_other tb_years tb_kind tb_unsure tb_may tb_tried tb_name)) C G fX12_351 (wM_at0) rfl rfl (Nat.le_of_ble_eq_true rfl) wM_set_m_matchesNow dX12_tries_7 (fun H locs G => ?_)
  refine lv_iload_n hx hb dX12_tries_10 rfl (lv_at hl 1 rfl) ?_
  obtain ⟨x2, hc, hf⟩ := bd_go hf
  refine xI_S C G (c_M_bits_any hc) mX12_bits kX12_234 ⟨Nat.le_of_ble_eq_true rfl, Nat.le_of_ble_eq_true rfl⟩ rfl hl.1 rfl (Nat.le_of_ble_eq_true rfl) ⟨Nat.le_refl _, Nat.le_refl _⟩ dX12_tries_11 (fun hz H locs G => ?_)
  refine lv_aload_n hx hb dX12_tries_14 rfl (lv_at hl 0 rfl) ?_
  refine x_get C G fX12_354.g (wM_at0) rfl dX12_tries_15 ?_
  obtain ⟨x3, hc, hf⟩ := bd_go hf
  refine xI_S C G (c_M_bits_any hc) mX12_bits kX12_234 ⟨Nat.le_of_ble_eq_true rfl, Nat.le_of_ble_eq_true rfl⟩ rfl hl.1 rfl (Nat.le_of_ble_eq_true rfl) ⟨Nat.le_refl _, Nat.le_refl _⟩ dX12_tries_18 (fun hz H locs G => ?_)
  refine lv_isub hx hb dX12_tries_21 ?_
  refine lv_topi (fun x4 ex4 => ?_)
  have hf := lt_go ex4 hf
  refine lv_istore_n (lv' := [(3, .int x4), (0, .ref (ad 0)), (1, .int l1), (2, .int l2)]) hx hb dX12_tries_22 rfl hl (by decide) rfl (fun ls hl => ?_)
  refine lv_iload_n hx hb dX12_tries_23 rfl (lv_at hl 0 rfl) ?_
  obtain ⟨b5, hr, hf⟩ := bd_go hf
  cases b5 with
  | true =>
    have hf := it_t rfl hf
    have J : ∀ (H : Heap) (locs : List Loc), xG s E A (wM E ad m_thrown m_trouble m_where m_rv m_tape m_taped m_size m_spot m_sort m_place m_number m_fault m_wrongAt m_word m_v m_x m_past m_kept m_acts m_images m_matchNow m_slopsNow x1 m_slopped m_seatBest m_fedBest m_slopsBest m_sawBest m_leastNow m_stableNow m_fitsNow m_someNow m_everyNow m_otherIn m_askLeft tb_seats tb_slack tb_saw tb_quarrel tb_people tb_pairs tb_forks tb_unsures tb_trieds tb_fed tb_seat tb_one tb_other tb_years tb_kind tb_unsure tb_may tb_tried tb_name) H locs → W p l e (xR 1 22) s m args below meth c H locs 0 0 (MQ below (xqV E A (wM E ad m_thrown m_trouble m_where m_rv m_tape m_taped m_size m_spot m_sort m_place m_number m_fault m_wrongAt m_word m_v m_x m_past m_kept m_acts m_images R0.1 R0.2.1 R0.2.2 m_slopped m_seatBest m_fedBest m_slopsBest m_sawBest m_leastNow m_stableNow m_fitsNow m_someNow m_everyNow m_otherIn m_askLeft tb_seats tb_slack tb_saw tb_quarrel tb_people tb_pairs tb_forks tb_unsures tb_trieds tb_fed tb_seat tb_one tb_other tb_years tb_kind tb_unsure tb_may tb_tried tb_name)) args s 0 0 A) (F0 m 55 ls []) := by
      intro H locs G
      obtain rfl := Option.some.inj hf
      exact xV_ret C G dX12_tries_55
    have hf := hr
    clear hr
    refine lv_if_lt (tgt := 55) hx hb dX12_tries_24 (by decide) (fun h => ?_) (fun h => ?_)
    · have hf := it_t h hf
      exact J _ _ G
    · have hf := it_f h hf
      refine lv_iload_n hx hb dX12_tries_27 rfl (lv_at hl 0 rfl) ?_
      refine lv_if_ne (tgt := 56) hx hb dX12_tries_28 (by decide) (fun h => ?_) (fun h => ?_)
      · have hf := it_f h hf
        exact absurd (Option.some.inj hf) (by decide)
      · have hf := it_t h hf
        refine lv_iload_n hx hb dX12_tries_31 rfl (lv_at hl 3 rfl) ?_
        refine lv_aload_n hx hb dX12_tries_32 rfl (lv_at hl 1 rfl) ?_
        refine x_get C G fX12_357.g (wM_at0) rfl dX12_tries_33 ?_
        refine lv_icmp_gt (tgt := 55) hx hb dX12_tries_36 (by decide) (fun h => ?_) (fun h => ?_)
        · have hf := it_t h hf
          exact J _ _ G
        · have hf := it_f h hf
          refine lv_iload_n hx hb dX12_tries_39 rfl (lv_at hl 3 rfl) ?_
          refine lv_aload_n hx hb dX12_tries_40 rfl (lv_at hl 1 rfl) ?_
          refine x_get C G fX12_357.g (wM_at0) rfl dX12_tries_41 ?_
          refine lv_icmp_ne (tgt := 56) hx hb dX12_tries_44 (by decide) (fun h => ?_) (fun h => ?_)
          · have hf := it_f h hf
            exact absurd (Option.some.inj hf) (by decide)
          · have hf := it_t h hf
            refine lv_iload_n hx hb dX12_tries_47 rfl (lv_at hl 2 rfl) ?_
            refine lv_aload_n hx hb dX12_tries_48 rfl (lv_at hl 1 rfl) ?_
            refine x_get C G fX12_354.g (wM_at0) rfl dX12_tries_49 ?_
            refine lv_icmp_lt (tgt := 56) hx hb dX12_tries_52 (by decide) (fun h => ?_) (fun h => ?_)
            · have hf := it_t h hf
              exact absurd (Option.some.inj hf) (by decide)
            · have hf := it_f h hf
              exact J _ _ G
  | false =>
    have hf := it_f (by decide) hf
    have J : ∀ (H : Heap) (locs : List Loc), xG s E A (wM E ad m_thrown m_trouble m_where m_rv m_tape m_taped m_size m_spot m_sort m_place m_number m_fault m_wrongAt m_word m_v m_x m_past m_kept m_acts m_images m_matchNow m_slopsNow x1 m_slopped m_seatBest m_fedBest m_slopsBest m_sawBest m_leastNow m_stableNow m_fitsNow m_someNow m_everyNow m_otherIn m_askLeft tb_seats tb_slack tb_saw tb_quarrel tb_people tb_pairs tb_forks tb_unsures tb_trieds tb_fed tb_seat tb_one tb_other tb_years tb_kind tb_unsure tb_may tb_tried tb_name) H locs → W p l e (xR 1 22) s m args below meth c H locs 0 0 (MQ below (xqV E A (wM E ad m_thrown m_trouble m_where m_rv m_tape m_taped m_size m_spot m_sort m_place m_number m_fault m_wrongAt m_word m_v m_x m_past m_kept m_acts m_images R0.1 R0.2.1 R0.2.2 m_slopped m_seatBest m_fedBest m_slopsBest m_sawBest m_leastNow m_stableNow m_fitsNow m_someNow m_everyNow m_otherIn m_askLeft tb_seats tb_slack tb_saw tb_quarrel tb_people tb_pairs tb_forks tb_unsures tb_trieds tb_fed tb_seat tb_one tb_other tb_years tb_kind tb_unsure tb_may tb_tried tb_name)) args s 0 0 A) (F0 m 56 ls []) := by
      intro H locs G
      refine lv_aload_n hx hb dX12_tries_56 rfl (lv_at hl 1 rfl) ?_
      refine lv_iload_n hx hb dX12_tries_57 rfl (lv_at hl 2 rfl) ?_
      refine x_put (ws' := (wM E ad m_thrown m_trouble m_where m_rv m_tape m_taped m_size m_spot m_sort m_place m_number m_fault m_wrongAt m_word m_v m_x m_past m_kept m_acts m_images l1 m_slopsNow x1 m_slopped m_seatBest m_fedBest m_slopsBest m_sawBest m_leastNow m_stableNow m_fitsNow m_someNow m_everyNow m_otherIn m_askLeft tb_seats tb_slack tb_saw tb_quarrel tb_people tb_pairs tb_forks tb_unsures tb_trieds tb_fed tb_seat tb_one tb_other tb_years tb_kind tb_unsure tb_may tb_tried tb_name)) C G fX12_354 (wM_at0) rfl rfl (Nat.le_of_ble_eq_true rfl) wM_set_m_matchNow dX12_tries_58 (fun H locs G => ?_)
      refine lv_aload_n hx hb dX12_tries_61 rfl (lv_at hl 1 rfl) ?_
      refine lv_iload_n hx hb dX12_tries_62 rfl (lv_at hl 3 rfl) ?_
      refine x_put (ws' := (wM E ad m_thrown m_trouble m_where m_rv m_tape m_taped m_size m_spot m_sort m_place m_number m_fault m_wrongAt m_word m_v m_x m_past m_kept m_acts m_images l1 l2 x1 m_slopped m_seatBest m_fedBest m_slopsBest m_sawBest m_leastNow m_stableNow m_fitsNow m_someNow m_everyNow m_otherIn m_askLeft tb_seats tb_slack tb_saw tb_quarrel tb_people tb_pairs tb_forks tb_unsures tb_trieds tb_fed tb_seat tb_one tb_other tb_years tb_kind tb_unsure tb_may tb_tried tb_name)) C G fX12_357 (wM_at0) rfl rfl (Nat.le_of_ble_eq_true rfl) wM_set_m_slopsNow dX12_tries_63 (fun H locs G => ?_)
      obtain rfl := Option.some.inj hf
      exact xV_ret C G dX12_tries_66
    have hf := hr
    clear hr
    refine lv_if_lt (tgt := 55) hx hb dX12_tries_24 (by decide) (fun h => ?_) (fun h => ?_)
    · have hf := it_t h hf
      exact absurd (Option.some.inj hf) (by decide)
    · have hf := it_f h hf
      refine lv_iload_n hx hb dX12_tries_27 rfl (lv_at hl 0 rfl) ?_
      refine lv_if_ne (tgt := 56) hx hb dX12_tries_28 (by decide) (fun h => ?_) (fun h => ?_)
      · have hf := it_f h hf
        exact J _ _ G
      · have hf := it_t h hf
        refine lv_iload_n hx hb dX12_tries_31 rfl (lv_at hl 3 rfl) ?_
        refine lv_aload_n hx hb dX12_tries_32 rfl (lv_at hl 1 rfl) ?_
        refine x_get C G fX12_357.g (wM_at0) rfl dX12_tries_33 ?_
        refine lv_icmp_gt (tgt := 55) hx hb dX12_tries_36 (by decide) (fun h => ?_) (fun h => ?_)
        · have hf := it_t h hf
          exact absurd (Option.some.inj hf) (by decide)
        · have hf := it_f h hf
          refine lv_iload_n hx hb dX12_tries_39 rfl (lv_at hl 3 rfl) ?_
          refine lv_aload_n hx hb dX12_tries_40 rfl (lv_at hl 1 rfl) ?_
          refine x_get C G fX12_357.g (wM_at0) rfl dX12_tries_41 ?_
          refine lv_icmp_ne (tgt := 56) hx hb dX12_tries_44 (by decide) (fun h => ?_) (fun h => ?_)
          · have hf := it_f h hf
            exact J _ _ G
          · have hf := it_t h hf
            refine lv_iload_n hx hb dX12_tries_47 rfl (lv_at hl 2 rfl) ?_
            refine lv_aload_n hx hb dX12_tries_48 rfl (lv_at hl 1 rfl) ?_
            refine x_get C G fX12_354.g (wM_at0) rfl dX12_tries_49 ?_
            refine lv_icmp_lt (tgt := 56) hx hb dX12_tries_52 (by decide) (fun h => ?_) (fun h => ?_)
            · have hf := it_t h hf
              exact J _ _ G
            · have hf := it_f h hf
              exact absurd (Option.some.inj hf) (by decide)
set_option maxHeartbeats 4000000 in
set_option maxRecDepth 100000 in
theorem c_M_share_m_M {l : Launch} {E : xE} {ad : Nat → Nat} {m_thrown m_trouble m_where m_taped m_size m_spot m_sort m_place m_number m_fault m_wrongAt m_acts m_images m_matchNow m_slopsNow m_matchesNow m_fedBest m_slopsBest m_sawBest m_leastNow m_stableNow m_fitsNow m_someNow m_everyNow m_askLeft tb_seats tb_slack tb_saw tb_quarrel tb_people tb_pairs tb_forks tb_unsures tb_trieds tb_fed : Int32} {m_rv : Value} {m_tape m_v m_x m_past m_kept m_slopped m_seatBest m_otherIn tb_seat tb_one tb_other tb_years tb_kind tb_unsure tb_may tb_tried : Nat → Int32} {m_word : Int64} {tb_name : Nat → Int64} {l1 : Int32} {l2 : Int32} {R0 : Int32} (hf : f_M_share l1 l2 m_x = some R0) : xI l E yX12_share cX12_share 3 (some .boolean) 1 22 [.ref (ad 0), .int l1, .int l2] (wM E ad m_thrown m_trouble m_where m_rv m_tape m_taped m_size m_spot m_sort m_place m_number m_fault m_wrongAt m_word m_v m_x m_past m_kept m_acts m_images m_matchNow m_slopsNow m_matchesNow m_slopped m_seatBest m_fedBest m_slopsBest m_sawBest m_leastNow m_stableNow m_fitsNow m_someNow m_everyNow m_otherIn m_askLeft tb_seats tb_slack tb_saw tb_quarrel tb_people tb_pairs tb_forks tb_unsures tb_trieds tb_fed tb_seat tb_one tb_other tb_years tb_kind tb_unsure tb_may tb_tried tb_name) (wM E ad m_thrown m_trouble m_where m_rv m_tape m_taped m_size m_spot m_sort m_place m_number m_fault m_wrongAt m_word m_v m_x m_past m_kept m_acts m_images m_matchNow m_slopsNow m_matchesNow m_slopped m_seatBest m_fedBest m_slopsBest m_sawBest m_leastNow m_stableNow m_fitsNow m_someNow m_everyNow m_otherIn m_askLeft tb_seats tb_slack tb_saw tb_quarrel tb_people tb_pairs tb_forks tb_unsures tb_trieds tb_fed tb_seat tb_one tb_other tb_years tb_kind tb_unsure tb_may tb_tried tb_name) R0 := by
  refine xI_of (by decide) (Nat.le_of_ble_eq_true rfl) (fun p e s m args below meth c A C ls hl G => ?_)
  have hx := C.1
  have hb := C.2.1
  have hl : lv_has ls 3 [(0, .ref (ad 0)), (1, .int l1), (2, .int l2)] := hl
  unfold f_M_share at hf
  refine lv_aload_n hx hb dX12_share_0 rfl (lv_at hl 0 rfl) ?_
  refine lv_iload_n hx hb dX12_share_1 rfl (lv_at hl 1 rfl) ?_
  refine lv_aload_n hx hb dX12_share_2 rfl (lv_at hl 0 rfl) ?_
  refine x_get C G fX12_21 (wM_at0) rfl dX12_share_3 ?_
  refine lv_iconst (v := 5) hx hb dX12_share_6 (by decide) ?_
  refine lv_iload_n hx hb dX12_share_7 rfl (lv_at hl 2 rfl) ?_
  refine lv_iadd hx hb dX12_share_8 ?_
  have hi := ck_in hf
  have hf := ck_go hf
  refine x_iald C G (wM_at3) hi dX12_share_9 ?_
  obtain ⟨x1, hc, hf⟩ := bd_go hf
  refine xI_V C G (c_M_hasOne_m_M hc) mX12_hasOne kX12_327 (wM_at0) rfl ⟨Nat.le_of_ble_eq_true rfl, Nat.le_of_ble_eq_true rfl⟩ rfl hl.1 rfl (Nat.le_of_ble_eq_true rfl) ⟨Nat.le_refl _, Nat.le_refl _⟩ dX12_share_10 (fun hz1 H locs G => ?_)
  obtain ⟨b2, hr, hf⟩ := bd_go hf
  cases b2 with
  | true =>
    have hf := it_t rfl hf
    have J : ∀ (H : Heap) (locs : List Loc), xG s E A (wM E ad m_thrown m_trouble m_where m_rv m_tape m_taped m_size m_spot m_sort m_place m_number m_fault m_wrongAt m_word m_v m_x m_past m_kept m_acts m_images m_matchNow m_slopsNow m_matchesNow m_slopped m_seatBest m_fedBest m_slopsBest m_sawBest m_leastNow m_stableNow m_fitsNow m_someNow m_everyNow m_otherIn m_askLeft tb_seats tb_slack tb_saw tb_quarrel tb_people tb_pairs tb_forks tb_unsures tb_trieds tb_fed tb_seat tb_one tb_other tb_years tb_kind tb_unsure tb_may tb_tried tb_name) H locs → W p l e (xR 1 22) s m args below meth c H locs 0 0 (MQ below (xqI E A (wM E ad m_thrown m_trouble m_where m_rv m_tape m_taped m_size m_spot m_sort m_place m_number m_fault m_wrongAt m_word m_v m_x m_past m_kept m_acts m_images m_matchNow m_slopsNow m_matchesNow m_slopped m_seatBest m_fedBest m_slopsBest m_sawBest m_leastNow m_stableNow m_fitsNow m_someNow m_everyNow m_otherIn m_askLeft tb_seats tb_slack tb_saw tb_quarrel tb_people tb_pairs tb_forks tb_unsures tb_trieds tb_fed tb_seat tb_one tb_other tb_years tb_kind tb_unsure tb_may tb_tried tb_name) (some .boolean) R0) args s 0 0 A) (F0 m 33 ls []) := by
      intro H locs G
      refine lv_iconst (v := 1) hx hb dX12_share_33 (by decide) ?_
      refine lv_goto (tgt := 38) hx hb dX12_share_34 (by decide) ?_
      obtain rfl := Option.some.inj hf
      exact xI_ret (r := (1 : Int32)) C G rfl dX12_share_38
    have hf := hr
    clear hr
    refine lv_if_ne (tgt := 33) hx hb dX12_share_13 (by decide) (fun h => ?_) (fun h => ?_)
    · have hf := it_f h hf
      exact J _ _ G
    · have hf := it_t h hf
      refine lv_aload_n hx hb dX12_share_16 rfl (lv_at hl 0 rfl) ?_
      refine lv_iload_n hx hb dX12_share_17 rfl (lv_at hl 1 rfl) ?_
      refine lv_aload_n hx hb dX12_share_18 rfl (lv_at hl 0 rfl) ?_
      refine x_get C G fX12_21 (wM_at0) rfl dX12_share_19 ?_
      refine lv_bipush (v := 15) hx hb dX12_share_22 (by decide) ?_
      refine lv_iload_n hx hb dX12_share_24 rfl (lv_at hl 2 rfl) ?_
      refine lv_iadd hx hb dX12_share_25 ?_
      have hi := ck_in hf
      have hf := ck_go hf
      refine x_iald C G (wM_at3) hi dX12_share_26 ?_
      obtain ⟨x3, hc, hf⟩ := bd_go hf
      refine xI_V C G (c_M_hasOne_m_M hc) mX12_hasOne kX12_327 (wM_at0) rfl ⟨Nat.le_of_ble_eq_true rfl, Nat.le_of_ble_eq_true rfl⟩ rfl hl.1 rfl (Nat.le_of_ble_eq_true rfl) ⟨Nat.le_refl _, Nat.le_refl _⟩ dX12_share_27 (fun hz3 H locs G => ?_)
      refine lv_if_eq (tgt := 37) hx hb dX12_share_30 (by decide) (fun h => ?_) (fun h => ?_)
      · have hf := it_t h hf
        exact absurd (Option.some.inj hf) (by decide)
      · have hf := it_f h hf
        exact J _ _ G
  | false =>
    have hf := it_f (by decide) hf
    have J : ∀ (H : Heap) (locs : List Loc), xG s E A (wM E ad m_thrown m_trouble m_where m_rv m_tape m_taped m_size m_spot m_sort m_place m_number m_fault m_wrongAt m_word m_v m_x m_past m_kept m_acts m_images m_matchNow m_slopsNow m_matchesNow m_slopped m_seatBest m_fedBest m_slopsBest m_sawBest m_leastNow m_stableNow m_fitsNow m_someNow m_everyNow m_otherIn m_askLeft tb_seats tb_slack tb_saw tb_quarrel tb_people tb_pairs tb_forks tb_unsures tb_trieds tb_fed tb_seat tb_one tb_other tb_years tb_kind tb_unsure tb_may tb_tried tb_name) H locs → W p l e (xR 1 22) s m args below meth c H locs 0 0 (MQ below (xqI E A (wM E ad m_thrown m_trouble m_where m_rv m_tape m_taped m_size m_spot m_sort m_place m_number m_fault m_wrongAt m_word m_v m_x m_past m_kept m_acts m_images m_matchNow m_slopsNow m_matchesNow m_slopped m_seatBest m_fedBest m_slopsBest m_sawBest m_leastNow m_stableNow m_fitsNow m_someNow m_everyNow m_otherIn m_askLeft tb_seats tb_slack tb_saw tb_quarrel tb_people tb_pairs tb_forks tb_unsures tb_trieds tb_fed tb_seat tb_one tb_other tb_years tb_kind tb_unsure tb_may tb_tried tb_name) (some .boolean) R0) args s 0 0 A) (F0 m 37 ls []) := by
      intro H locs G
      refine lv_iconst (v := 0) hx hb dX12_share_37 (by decide) ?_
      obtain rfl := Option.some.inj hf
      exact xI_ret (r := (0 : Int32)) C G rfl dX12_share_38
    have hf := hr
    clear hr
    refine lv_if_ne (tgt := 33) hx hb dX12_share_13 (by decide) (fun h => ?_) (fun h => ?_)
    · have hf := it_f h hf
      exact absurd (Option.some.inj hf) (by decide)
    · have hf := it_t h hf
      refine lv_aload_n hx hb dX12_share_16 rfl (lv_at hl 0 rfl) ?_
      refine lv_iload_n hx hb dX12_share_17 rfl (lv_at hl 1 rfl) ?_
      refine lv_aload_n hx hb dX12_share_18 rfl (lv_at hl 0 rfl) ?_
      refine x_get C G fX12_21 (wM_at0) rfl dX12_share_19 ?_
      refine lv_bipush (v := 15) hx hb dX12_share_22 (by decide) ?_
      refine lv_iload_n hx hb dX12_share_24 rfl (lv_at hl 2 rfl) ?_
      refine lv_iadd hx hb dX12_share_25 ?_
      have hi := ck_in hf
      have hf := ck_go hf
      refine x_iald C G (wM_at3) hi dX12_share_26 ?_
      obtain ⟨x4, hc, hf⟩ := bd_go hf
      refine xI_V C G (c_M_hasOne_m_M hc) mX12_hasOne kX12_327 (wM_at0) rfl ⟨Nat.le_of_ble_eq_true rfl, Nat.le_of_ble_eq_true rfl⟩ rfl hl.1 rfl (Nat.le_of_ble_eq_true rfl) ⟨Nat.le_refl _, Nat.le_refl _⟩ dX12_share_27 (fun hz4 H locs G => ?_)
      refine lv_if_eq (tgt := 37) hx hb dX12_share_30 (by decide) (fun h => ?_) (fun h => ?_)
      · have hf := it_t h hf
        exact J _ _ G
      · have hf := it_f h hf
        exact absurd (Option.some.inj hf) (by decide)
set_option maxHeartbeats 4000000 in
set_option maxRecDepth 100000 in
theorem w_M_matching_m_M_L17 {p : Program} {l : Launch} {e : Env} {s : State} {m : MethodId} {args : Array Value} {below : List Frame} {meth : Method} {c : Code} {A : Nat → Prop} {E : xE} {Q : State → Prop} {ad : Nat → Nat} {m_thrown m_trouble m_where m_taped m_size m_spot m_sort m_place m_number m_fault m_wrongAt m_acts m_images m_matchNow m_slopsNow m_matchesNow m_fedBest m_slopsBest m_sawBest m_leastNow m_stableNow m_fitsNow m_someNow m_everyNow m_askLeft tb_seats tb_slack tb_saw tb_quarrel tb_people tb_pairs tb_forks tb_unsures tb_trieds tb_fed : Int32} {m_rv : Value} {m_tape m_v m_x m_past m_kept m_seatBest m_otherIn tb_seat tb_one tb_other tb_years tb_kind tb_unsure tb_may tb_tried : Nat → Int32} {m_word : Int64} {tb_name : Nat → Int64} {o : (Nat → Int32)} (C : xC p s m args meth c cX12_matching 3 RX12 E A (some .int)) (J : ∀ (H : Heap) (locs : List Loc) (ls : Array Slot), xG s E A (wM E ad m_thrown m_trouble m_where m_rv m_tape m_taped m_size m_spot m_sort m_place m_number m_fault m_wrongAt m_word m_v m_x m_past m_kept m_acts m_images m_matchNow m_slopsNow m_matchesNow o m_seatBest m_fedBest m_slopsBest m_sawBest m_leastNow m_stableNow m_fitsNow m_someNow m_everyNow m_otherIn m_askLeft tb_seats tb_slack tb_saw tb_quarrel tb_people tb_pairs tb_forks tb_unsures tb_trieds tb_fed tb_seat tb_one tb_other tb_years tb_kind tb_unsure tb_may tb_tried tb_name) H locs → lv_has ls 3 [(0, .ref (ad 0))] → W p l e (xR 4 87) s m args below meth c H locs 0 0 Q (F0 m 57 ls [])) :
    ∀ (n : Nat) (l1 : Int32) (m_slopped : Nat → Int32) (H : Heap) (locs : List Loc) (ls : Array Slot), xG s E A (wM E ad m_thrown m_trouble m_where m_rv m_tape m_taped m_size m_spot m_sort m_place m_number m_fault m_wrongAt m_word m_v m_x m_past m_kept m_acts m_images m_matchNow m_slopsNow m_matchesNow m_slopped m_seatBest m_fedBest m_slopsBest m_sawBest m_leastNow m_stableNow m_fitsNow m_someNow m_everyNow m_otherIn m_askLeft tb_seats tb_slack tb_saw tb_quarrel tb_people tb_pairs tb_forks tb_unsures tb_trieds tb_fed tb_seat tb_one tb_other tb_years tb_kind tb_unsure tb_may tb_tried tb_name) H locs → lv_has ls 3 [(0, .ref (ad 0)), (1, .int l1)] → f_M_matching_L17 m_x tb_seats tb_slack n l1 m_slopped = some o → W p l e (xR 4 87) s m args below meth c H locs 0 0 Q (F0 m 17 ls []) := by
  have hx := C.1
  have hb := C.2.1
  intro n
  induction n with
  | zero =>
    intro l1 m_slopped H locs ls G hl hf
    exact nomatch (show (none : Option ((Nat → Int32))) = some o from hf)
  | succ n ih =>
    intro l1 m_slopped H locs ls G hl hf
    rw [f_M_matching_L17] at hf
    refine lv_iload_n hx hb dX12_matching_17 rfl (lv_at hl 1 rfl) ?_
    refine lv_aload_n hx hb dX12_matching_18 rfl (lv_at hl 0 rfl) ?_
    refine x_get C G fX12_21 (wM_at0) rfl dX12_matching_19 ?_
    refine lv_bipush (v := 55) hx hb dX12_matching_22 (by decide) ?_
    have hi := ck_in hf
    have hf := ck_go hf
    refine x_iald C G (wM_at3) hi dX12_matching_24 ?_
    refine lv_icmp_ge (tgt := 57) hx hb dX12_matching_25 (by decide) (fun h => ?_) (fun h => ?_)
    · have hf := it_t h hf
      obtain rfl := Option.some.inj hf
      exact J _ _ _ G (lv_sub hl [0] rfl)
    · have hf := it_f h hf
      refine lv_aload_n hx hb dX12_matching_28 rfl (lv_at hl 0 rfl) ?_
      refine x_get C G fX12_30 (wM_at0) rfl dX12_matching_29 ?_
      refine lv_iload_n hx hb dX12_matching_32 rfl (lv_at hl 1 rfl) ?_
      refine lv_aload_n hx hb dX12_matching_33 rfl (lv_at hl 0 rfl) ?_
      refine lv_iload_n hx hb dX12_matching_34 rfl (lv_at hl 1 rfl) ?_
      obtain ⟨x1, hc, hf⟩ := bd_go hf
      refine xI_V C G (c_M_isFeeding_m_M hc) mX12_isFeeding kX12_336 (wM_at0) rfl ⟨Nat.le_of_ble_eq_true rfl, Nat.le_of_ble_eq_true rfl⟩ rfl hl.1 rfl (Nat.le_of_ble_eq_true rfl) ⟨Nat.le_refl _, Nat.le_refl _⟩ dX12_matching_35 (fun hz1 H locs G => ?_)
      obtain ⟨x2, hrx2, hf⟩ := bd_go hf
      have Jx2 : ∀ (H : Heap) (locs : List Loc) (ls : Array Slot), xG s E A (wM E ad m_thrown m_trouble m_where m_rv m_tape m_taped m_size m_spot m_sort m_place m_number m_fault m_wrongAt m_word m_v m_x m_past m_kept m_acts m_images m_matchNow m_slopsNow m_matchesNow m_slopped m_seatBest m_fedBest m_slopsBest m_sawBest m_leastNow m_stableNow m_fitsNow m_someNow m_everyNow m_otherIn m_askLeft tb_seats tb_slack tb_saw tb_quarrel tb_people tb_pairs tb_forks tb_unsures tb_trieds tb_fed tb_seat tb_one tb_other tb_years tb_kind tb_unsure tb_may tb_tried tb_name) H locs → lv_has ls 3 [(0, .ref (ad 0)), (1, .int l1)] → W p l e (xR 4 87) s m args below meth c H locs 0 0 Q (F0 m 50 ls [.int x2, .int l1, .ref (ad 6)]) := by
        intro H locs ls G hl
        have hi := ck_in hf
        have hf := ck_go hf
        refine x_iast (ws' := (wM E ad m_thrown m_trouble m_where m_rv m_tape m_taped m_size m_spot m_sort m_place m_number m_fault m_wrongAt m_word m_v m_x m_past m_kept m_acts m_images m_matchNow m_slopsNow m_matchesNow (upd m_slopped l1.toNatClampNeg x2) m_seatBest m_fedBest m_slopsBest m_sawBest m_leastNow m_stableNow m_fitsNow m_someNow m_everyNow m_otherIn m_askLeft tb_seats tb_slack tb_saw tb_quarrel tb_people tb_pairs tb_forks tb_unsures tb_trieds tb_fed tb_seat tb_one tb_other tb_years tb_kind tb_unsure tb_may tb_tried tb_name)) C G (wM_at6) hi wM_set_m_slopped dX12_matching_50 (fun H locs G => ?_)
        obtain ⟨x3, ex3⟩ : ∃ z : Int32, z = l1 + (1 : Int32) := ⟨_, rfl⟩
        have hf := lt_go ex3 hf
        refine lv_iinc (v := x3) (lv' := [(1, .int x3), (0, .ref (ad 0))]) hx hb dX12_matching_51 hl (k := 1) rfl (by rw [ex3]; rfl) (by decide) rfl (fun ls hl => ?_)
        refine lv_goto (tgt := 17) hx hb dX12_matching_54 (by decide) ?_
        exact ih x3 (upd m_slopped l1.toNatClampNeg x2) _ _ _ G (lv_sub hl [1, 0] rfl) hf
      have hf := hrx2
      refine lv_if_eq (tgt := 49) hx hb dX12_matching_38 (by decide) (fun h => ?_) (fun h => ?_)
      · have hf := it_t h hf
        refine lv_iconst (v := -1) hx hb dX12_matching_49 (by decide) ?_
        obtain rfl := Option.some.inj hf
        exact Jx2 _ _ _ G (lv_sub hl [0, 1] rfl)
      · have hf := it_f h hf
        refine lv_aload_n hx hb dX12_matching_41 rfl (lv_at hl 0 rfl) ?_
        refine lv_iload_n hx hb dX12_matching_42 rfl (lv_at hl 1 rfl) ?_
        obtain ⟨x4, hc, hf⟩ := bd_go hf
        refine xI_V C G (c_M_slopsOf_m_M hc) mX12_slopsOf kX12_339 (wM_at0) rfl ⟨Nat.le_of_ble_eq_true rfl, Nat.le_of_ble_eq_true rfl⟩ rfl hl.1 rfl (Nat.le_of_ble_eq_true rfl) ⟨Nat.le_refl _, Nat.le_refl _⟩ dX12_matching_43 (fun hz H locs G => ?_)
        refine lv_goto (tgt := 50) hx hb dX12_matching_46 (by decide) ?_
        obtain rfl := Option.some.inj hf
        exact Jx2 _ _ _ G (lv_sub hl [0, 1] rfl)
set_option maxHeartbeats 4000000 in
set_option maxRecDepth 100000 in
theorem w_M_matching_m_M_L100 {p : Program} {l : Launch} {e : Env} {s : State} {m : MethodId} {args : Array Value} {below : List Frame} {meth : Method} {c : Code} {A : Nat → Prop} {E : xE} {Q : State → Prop} {ad : Nat → Nat} {m_thrown m_trouble m_where m_taped m_size m_spot m_sort m_place m_number m_fault m_wrongAt m_acts m_images m_fedBest m_slopsBest m_sawBest m_leastNow m_stableNow m_fitsNow m_someNow m_everyNow m_askLeft tb_seats tb_slack tb_saw tb_quarrel tb_people tb_pairs tb_forks tb_unsures tb_trieds tb_fed : Int32} {m_rv : Value} {m_tape m_v m_x m_past m_kept m_slopped m_seatBest m_otherIn tb_seat tb_one tb_other tb_years tb_kind tb_unsure tb_may tb_tried : Nat → Int32} {m_word : Int64} {tb_name : Nat → Int64} {l1 : Int32} {o : Int32 × Int32 × Int32} (C : xC p s m args meth c cX12_matching 3 RX12 E A (some .int)) (J : ∀ (H : Heap) (locs : List Loc) (ls : Array Slot), xG s E A (wM E ad m_thrown m_trouble m_where m_rv m_tape m_taped m_size m_spot m_sort m_place m_number m_fault m_wrongAt m_word m_v m_x m_past m_kept m_acts m_images o.1 o.2.1 o.2.2 m_slopped m_seatBest m_fedBest m_slopsBest m_sawBest m_leastNow m_stableNow m_fitsNow m_someNow m_everyNow m_otherIn m_askLeft tb_seats tb_slack tb_saw tb_quarrel tb_people tb_pairs tb_forks tb_unsures tb_trieds tb_fed tb_seat tb_one tb_other tb_years tb_kind tb_unsure tb_may tb_tried tb_name) H locs → lv_has ls 3 [(0, .ref (ad 0)), (1, .int l1)] → W p l e (xR 4 87) s m args below meth c H locs 0 0 Q (F0 m 160 ls [])) :
    ∀ (n : Nat) (l2 : Int32) (m_matchNow : Int32) (m_slopsNow : Int32) (m_matchesNow : Int32) (H : Heap) (locs : List Loc) (ls : Array Slot), xG s E A (wM E ad m_thrown m_trouble m_where m_rv m_tape m_taped m_size m_spot m_sort m_place m_number m_fault m_wrongAt m_word m_v m_x m_past m_kept m_acts m_images m_matchNow m_slopsNow m_matchesNow m_slopped m_seatBest m_fedBest m_slopsBest m_sawBest m_leastNow m_stableNow m_fitsNow m_someNow m_everyNow m_otherIn m_askLeft tb_seats tb_slack tb_saw tb_quarrel tb_people tb_pairs tb_forks tb_unsures tb_trieds tb_fed tb_seat tb_one tb_other tb_years tb_kind tb_unsure tb_may tb_tried tb_name) H locs → lv_has ls 3 [(0, .ref (ad 0)), (1, .int l1), (2, .int l2)] → f_M_matching_L100 l1 m_x m_slopped n l2 m_matchNow m_slopsNow m_matchesNow = some o → W p l e (xR 4 87) s m args below meth c H locs 0 0 Q (F0 m 100 ls []) := by
  have hx := C.1
  have hb := C.2.1
  intro n
  induction n with
  | zero =>
    intro l2 m_matchNow m_slopsNow m_matchesNow H locs ls G hl hf
    exact nomatch (show (none : Option (Int32 × Int32 × Int32)) = some o from hf)
  | succ n ih =>
    intro l2 m_matchNow m_slopsNow m_matchesNow H locs ls G hl hf
    rw [f_M_matching_L100] at hf
    refine lv_iload_n hx hb dX12_matching_100 rfl (lv_at hl 2 rfl) ?_
    refine lv_aload_n hx hb dX12_matching_101 rfl (lv_at hl 0 rfl) ?_
    refine x_get C G fX12_21 (wM_at0) rfl dX12_matching_102 ?_
    refine lv_bipush (v := 55) hx hb dX12_matching_105 (by decide) ?_
    have hi := ck_in hf
    have hf := ck_go hf
    refine x_iald C G (wM_at3) hi dX12_matching_107 ?_
    refine lv_icmp_ge (tgt := 160) hx hb dX12_matching_108 (by decide) (fun h => ?_) (fun h => ?_)
    · have hf := it_t h hf
      obtain rfl := Option.some.inj hf
      exact J _ _ _ G (lv_sub hl [0, 1] rfl)
    · have hf := it_f h hf
      refine lv_aload_n hx hb dX12_matching_111 rfl (lv_at hl 0 rfl) ?_
      refine x_get C G fX12_30 (wM_at0) rfl dX12_matching_112 ?_
      refine lv_iload_n hx hb dX12_matching_115 rfl (lv_at hl 2 rfl) ?_
      have hi := ck_in hf
      have hf := ck_go hf
      refine x_iald C G (wM_at6) hi dX12_matching_116 ?_
      refine lv_iconst (v := -1) hx hb dX12_matching_117 (by decide) ?_
      obtain ⟨b8, hr, hf⟩ := bd_go hf
      cases b8 with
      | true =>
        have hf := it_t rfl hf
        have J : ∀ (H : Heap) (locs : List Loc), xG s E A (wM E ad m_thrown m_trouble m_where m_rv m_tape m_taped m_size m_spot m_sort m_place m_number m_fault m_wrongAt m_word m_v m_x m_past m_kept m_acts m_images m_matchNow m_slopsNow m_matchesNow m_slopped m_seatBest m_fedBest m_slopsBest m_sawBest m_leastNow m_stableNow m_fitsNow m_someNow m_everyNow m_otherIn m_askLeft tb_seats tb_slack tb_saw tb_quarrel tb_people tb_pairs tb_forks tb_unsures tb_trieds tb_fed tb_seat tb_one tb_other tb_years tb_kind tb_unsure tb_may tb_tried tb_name) H locs → W p l e (xR 4 87) s m args below meth c H locs 0 0 Q (F0 m 154 ls []) := by
          intro H locs G
          obtain ⟨x9, ex9⟩ : ∃ z : Int32, z = l2 + (1 : Int32) := ⟨_, rfl⟩
          have hf := lt_go ex9 hf
          refine lv_iinc (v := x9) (lv' := [(2, .int x9), (0, .ref (ad 0)), (1, .int l1)]) hx hb dX12_matching_154 hl (k := 2) rfl (by rw [ex9]; rfl) (by decide) rfl (fun ls hl => ?_)
          refine lv_goto (tgt := 100) hx hb dX12_matching_157 (by decide) ?_
          exact ih x9 m_matchNow m_slopsNow m_matchesNow _ _ _ G (lv_sub hl [1, 2, 0] rfl) hf
        have hf := hr
        clear hr
        refine lv_icmp_eq (tgt := 154) hx hb dX12_matching_118 (by decide) (fun h => ?_) (fun h => ?_)
        · have hf := it_t h hf
          exact J _ _ G
        · have hf := it_f h hf
          refine lv_aload_n hx hb dX12_matching_121 rfl (lv_at hl 0 rfl) ?_
          refine lv_iload_n hx hb dX12_matching_122 rfl (lv_at hl 1 rfl) ?_
          refine lv_iload_n hx hb dX12_matching_123 rfl (lv_at hl 2 rfl) ?_
          obtain ⟨x10, hc, hf⟩ := bd_go hf
          refine xI_V C G (c_M_share_m_M hc) mX12_share kX12_363 (wM_at0) rfl ⟨Nat.le_of_ble_eq_true rfl, Nat.le_of_ble_eq_true rfl⟩ rfl hl.1 rfl (Nat.le_of_ble_eq_true rfl) ⟨Nat.le_refl _, Nat.le_refl _⟩ dX12_matching_124 (fun hz10 H locs G => ?_)
          refine lv_if_ne (tgt := 154) hx hb dX12_matching_127 (by decide) (fun h => ?_) (fun h => ?_)
          · have hf := it_f h hf
            exact J _ _ G
          · have hf := it_t h hf
            exact absurd (Option.some.inj hf) (by decide)
      | false =>
        have hf := it_f (by decide) hf
        have J : ∀ (H : Heap) (locs : List Loc), xG s E A (wM E ad m_thrown m_trouble m_where m_rv m_tape m_taped m_size m_spot m_sort m_place m_number m_fault m_wrongAt m_word m_v m_x m_past m_kept m_acts m_images m_matchNow m_slopsNow m_matchesNow m_slopped m_seatBest m_fedBest m_slopsBest m_sawBest m_leastNow m_stableNow m_fitsNow m_someNow m_everyNow m_otherIn m_askLeft tb_seats tb_slack tb_saw tb_quarrel tb_people tb_pairs tb_forks tb_unsures tb_trieds tb_fed tb_seat tb_one tb_other tb_years tb_kind tb_unsure tb_may tb_tried tb_name) H locs → W p l e (xR 4 87) s m args below meth c H locs 0 0 Q (F0 m 130 ls []) := by
          intro H locs G
          refine lv_aload_n hx hb dX12_matching_130 rfl (lv_at hl 0 rfl) ?_
          refine lv_iconst (v := 1) hx hb dX12_matching_131 (by decide) ?_
          refine lv_iload_n hx hb dX12_matching_132 rfl (lv_at hl 1 rfl) ?_
          refine lv_ishl hx hb dX12_matching_133 ?_
          refine lv_iconst (v := 1) hx hb dX12_matching_134 (by decide) ?_
          refine lv_iload_n hx hb dX12_matching_135 rfl (lv_at hl 2 rfl) ?_
          refine lv_ishl hx hb dX12_matching_136 ?_
          refine lv_ior hx hb dX12_matching_137 ?_
          refine lv_aload_n hx hb dX12_matching_138 rfl (lv_at hl 0 rfl) ?_
          refine x_get C G fX12_30 (wM_at0) rfl dX12_matching_139 ?_
          refine lv_iload_n hx hb dX12_matching_142 rfl (lv_at hl 1 rfl) ?_
          have hi := ck_in hf
          have hf := ck_go hf
          refine x_iald C G (wM_at6) hi dX12_matching_143 ?_
          refine lv_aload_n hx hb dX12_matching_144 rfl (lv_at hl 0 rfl) ?_
          refine x_get C G fX12_30 (wM_at0) rfl dX12_matching_145 ?_
          refine lv_iload_n hx hb dX12_matching_148 rfl (lv_at hl 2 rfl) ?_
          have hi := ck_in hf
          have hf := ck_go hf
          refine x_iald C G (wM_at6) hi dX12_matching_149 ?_
          refine lv_iadd hx hb dX12_matching_150 ?_
          obtain ⟨x11, hc, hf⟩ := bd_go hf
          refine xV_V C G (c_M_tries_m_M hc) mX12_tries kX12_360 (wM_at0) rfl ⟨Nat.le_of_ble_eq_true rfl, Nat.le_of_ble_eq_true rfl⟩ rfl hl.1 rfl (Nat.le_of_ble_eq_true rfl) ⟨Nat.le_refl _, Nat.le_refl _⟩ dX12_matching_151 (fun H locs G => ?_)
          obtain ⟨x12, ex12⟩ : ∃ z : Int32, z = l2 + (1 : Int32) := ⟨_, rfl⟩
          have hf := lt_go ex12 hf
          refine lv_iinc (v := x12) (lv' := [(2, .int x12), (0, .ref (ad 0)), (1, .int l1)]) hx hb dX12_matching_154 hl (k := 2) rfl (by rw [ex12]; rfl) (by decide) rfl (fun ls hl => ?_)
          refine lv_goto (tgt := 100) hx hb dX12_matching_157 (by decide) ?_
          exact ih x12 x11.1 x11.2.1 x11.2.2 _ _ _ G (lv_sub hl [1, 2, 0] rfl) hf
        have hf := hr
        clear hr
        refine lv_icmp_eq (tgt := 154) hx hb dX12_matching_118 (by decide) (fun h => ?_) (fun h => ?_)
        · have hf := it_t h hf
          exact absurd (Option.some.inj hf) (by decide)
        · have hf := it_f h hf
          refine lv_aload_n hx hb dX12_matching_121 rfl (lv_at hl 0 rfl) ?_
          refine lv_iload_n hx hb dX12_matching_122 rfl (lv_at hl 1 rfl) ?_
          refine lv_iload_n hx hb dX12_matching_123 rfl (lv_at hl 2 rfl) ?_
          obtain ⟨x13, hc, hf⟩ := bd_go hf
          refine xI_V C G (c_M_share_m_M hc) mX12_share kX12_363 (wM_at0) rfl ⟨Nat.le_of_ble_eq_true rfl, Nat.le_of_ble_eq_true rfl⟩ rfl hl.1 rfl (Nat.le_of_ble_eq_true rfl) ⟨Nat.le_refl _, Nat.le_refl _⟩ dX12_matching_124 (fun hz13 H locs G => ?_)
          refine lv_if_ne (tgt := 154) hx hb dX12_matching_127 (by decide) (fun h => ?_) (fun h => ?_)
          · have hf := it_f h hf
            exact absurd (Option.some.inj hf) (by decide)
          · have hf := it_t h hf
            exact J _ _ G
set_option maxHeartbeats 4000000 in
set_option maxRecDepth 100000 in
theorem w_M_matching_m_M_L59 {p : Program} {l : Launch} {e : Env} {s : State} {m : MethodId} {args : Array Value} {below : List Frame} {meth : Method} {c : Code} {A : Nat → Prop} {E : xE} {Q : State → Prop} {ad : Nat → Nat} {m_thrown m_trouble m_where m_taped m_size m_spot m_sort m_place m_number m_fault m_wrongAt m_acts m_images m_fedBest m_slopsBest m_sawBest m_leastNow m_stableNow m_fitsNow m_someNow m_everyNow m_askLeft tb_seats tb_slack tb_saw tb_quarrel tb_people tb_pairs tb_forks tb_unsures tb_trieds tb_fed : Int32} {m_rv : Value} {m_tape m_v m_x m_past m_kept m_slopped m_seatBest m_otherIn tb_seat tb_one tb_other tb_years tb_kind tb_unsure tb_may tb_tried : Nat → Int32} {m_word : Int64} {tb_name : Nat → Int64} {o : Int32 × Int32 × Int32} (C : xC p s m args meth c cX12_matching 3 RX12 E A (some .int)) (J : ∀ (H : Heap) (locs : List Loc) (ls : Array Slot), xG s E A (wM E ad m_thrown m_trouble m_where m_rv m_tape m_taped m_size m_spot m_sort m_place m_number m_fault m_wrongAt m_word m_v m_x m_past m_kept m_acts m_images o.1 o.2.1 o.2.2 m_slopped m_seatBest m_fedBest m_slopsBest m_sawBest m_leastNow m_stableNow m_fitsNow m_someNow m_everyNow m_otherIn m_askLeft tb_seats tb_slack tb_saw tb_quarrel tb_people tb_pairs tb_forks tb_unsures tb_trieds tb_fed tb_seat tb_one tb_other tb_years tb_kind tb_unsure tb_may tb_tried tb_name) H locs → lv_has ls 3 [(0, .ref (ad 0))] → W p l e (xR 4 87) s m args below meth c H locs 0 0 Q (F0 m 166 ls [])) :
    ∀ (n : Nat) (l1 : Int32) (m_matchNow : Int32) (m_slopsNow : Int32) (m_matchesNow : Int32) (H : Heap) (locs : List Loc) (ls : Array Slot), xG s E A (wM E ad m_thrown m_trouble m_where m_rv m_tape m_taped m_size m_spot m_sort m_place m_number m_fault m_wrongAt m_word m_v m_x m_past m_kept m_acts m_images m_matchNow m_slopsNow m_matchesNow m_slopped m_seatBest m_fedBest m_slopsBest m_sawBest m_leastNow m_stableNow m_fitsNow m_someNow m_everyNow m_otherIn m_askLeft tb_seats tb_slack tb_saw tb_quarrel tb_people tb_pairs tb_forks tb_unsures tb_trieds tb_fed tb_seat tb_one tb_other tb_years tb_kind tb_unsure tb_may tb_tried tb_name) H locs → lv_has ls 3 [(0, .ref (ad 0)), (1, .int l1)] → f_M_matching_L59 m_x m_slopped n l1 m_matchNow m_slopsNow m_matchesNow = some o → W p l e (xR 4 87) s m args below meth c H locs 0 0 Q (F0 m 59 ls []) := by
  have hx := C.1
  have hb := C.2.1
  intro n
  induction n with
  | zero =>
    intro l1 m_matchNow m_slopsNow m_matchesNow H locs ls G hl hf
    exact nomatch (show (none : Option (Int32 × Int32 × Int32)) = some o from hf)
  | succ n ih =>
    intro l1 m_matchNow m_slopsNow m_matchesNow H locs ls G hl hf
    rw [f_M_matching_L59] at hf
    refine lv_iload_n hx hb dX12_matching_59 rfl (lv_at hl 1 rfl) ?_
    refine lv_aload_n hx hb dX12_matching_60 rfl (lv_at hl 0 rfl) ?_
    refine x_get C G fX12_21 (wM_at0) rfl dX12_matching_61 ?_
    refine lv_bipush (v := 55) hx hb dX12_matching_64 (by decide) ?_
    have hi := ck_in hf
    have hf := ck_go hf
    refine x_iald C G (wM_at3) hi dX12_matching_66 ?_
    refine lv_icmp_ge (tgt := 166) hx hb dX12_matching_67 (by decide) (fun h => ?_) (fun h => ?_)
    · have hf := it_t h hf
      obtain rfl := Option.some.inj hf
      exact J _ _ _ G (lv_sub hl [0] rfl)
    · have hf := it_f h hf
      refine lv_aload_n hx hb dX12_matching_70 rfl (lv_at hl 0 rfl) ?_
      refine x_get C G fX12_30 (wM_at0) rfl dX12_matching_71 ?_
      refine lv_iload_n hx hb dX12_matching_74 rfl (lv_at hl 1 rfl) ?_
      have hi := ck_in hf
      have hf := ck_go hf
      refine x_iald C G (wM_at6) hi dX12_matching_75 ?_
      refine lv_iconst (v := -1) hx hb dX12_matching_76 (by decide) ?_
      refine lv_icmp_ne (tgt := 83) hx hb dX12_matching_77 (by decide) (fun h => ?_) (fun h => ?_)
      · have hf := it_f h hf
        refine lv_aload_n hx hb dX12_matching_83 rfl (lv_at hl 0 rfl) ?_
        refine lv_iconst (v := 1) hx hb dX12_matching_84 (by decide) ?_
        refine lv_iload_n hx hb dX12_matching_85 rfl (lv_at hl 1 rfl) ?_
        refine lv_ishl hx hb dX12_matching_86 ?_
        refine lv_aload_n hx hb dX12_matching_87 rfl (lv_at hl 0 rfl) ?_
        refine x_get C G fX12_30 (wM_at0) rfl dX12_matching_88 ?_
        refine lv_iload_n hx hb dX12_matching_91 rfl (lv_at hl 1 rfl) ?_
        have hi := ck_in hf
        have hf := ck_go hf
        refine x_iald C G (wM_at6) hi dX12_matching_92 ?_
        obtain ⟨x6, hc, hf⟩ := bd_go hf
        refine xV_V C G (c_M_tries_m_M hc) mX12_tries kX12_360 (wM_at0) rfl ⟨Nat.le_of_ble_eq_true rfl, Nat.le_of_ble_eq_true rfl⟩ rfl hl.1 rfl (Nat.le_of_ble_eq_true rfl) ⟨Nat.le_refl _, Nat.le_refl _⟩ dX12_matching_93 (fun H locs G => ?_)
        refine lv_iload_n hx hb dX12_matching_96 rfl (lv_at hl 1 rfl) ?_
        refine lv_iconst (v := 1) hx hb dX12_matching_97 (by decide) ?_
        refine lv_iadd hx hb dX12_matching_98 ?_
        refine lv_topi (fun x7 ex7 => ?_)
        have hf := lt_go ex7 hf
        refine lv_istore_n (lv' := [(2, .int x7), (0, .ref (ad 0)), (1, .int l1)]) hx hb dX12_matching_99 rfl hl (by decide) rfl (fun ls hl => ?_)
        obtain ⟨x14, hr, hf⟩ := bd_go hf
        have Jx14 : ∀ (H : Heap) (locs : List Loc) (ls : Array Slot), xG s E A (wM E ad m_thrown m_trouble m_where m_rv m_tape m_taped m_size m_spot m_sort m_place m_number m_fault m_wrongAt m_word m_v m_x m_past m_kept m_acts m_images x14.1 x14.2.1 x14.2.2 m_slopped m_seatBest m_fedBest m_slopsBest m_sawBest m_leastNow m_stableNow m_fitsNow m_someNow m_everyNow m_otherIn m_askLeft tb_seats tb_slack tb_saw tb_quarrel tb_people tb_pairs tb_forks tb_unsures tb_trieds tb_fed tb_seat tb_one tb_other tb_years tb_kind tb_unsure tb_may tb_tried tb_name) H locs → lv_has ls 3 [(0, .ref (ad 0)), (1, .int l1)] → W p l e (xR 4 87) s m args below meth c H locs 0 0 Q (F0 m 160 ls []) := by
          intro H locs ls G hl
          obtain ⟨x15, ex15⟩ : ∃ z : Int32, z = l1 + (1 : Int32) := ⟨_, rfl⟩
          have hf := lt_go ex15 hf
          refine lv_iinc (v := x15) (lv' := [(1, .int x15), (0, .ref (ad 0))]) hx hb dX12_matching_160 hl (k := 1) rfl (by rw [ex15]; rfl) (by decide) rfl (fun ls hl => ?_)
          refine lv_goto (tgt := 59) hx hb dX12_matching_163 (by decide) ?_
          exact ih x15 x14.1 x14.2.1 x14.2.2 _ _ _ G (lv_sub hl [1, 0] rfl) hf
        exact w_M_matching_m_M_L100 C Jx14 fu _ _ _ _ _ _ _ G (lv_sub hl [1, 2, 0] rfl) hr
      · have hf := it_t h hf
        refine lv_goto (tgt := 160) hx hb dX12_matching_80 (by decide) ?_
        obtain ⟨x16, ex16⟩ : ∃ z : Int32, z = l1 + (1 : Int32) := ⟨_, rfl⟩
        have hf := lt_go ex16 hf
        refine lv_iinc (v := x16) (lv' := [(1, .int x16), (0, .ref (ad 0))]) hx hb dX12_matching_160 hl (k := 1) rfl (by rw [ex16]; rfl) (by decide) rfl (fun ls hl => ?_)
        refine lv_goto (tgt := 59) hx hb dX12_matching_163 (by decide) ?_
        exact ih x16 m_matchNow m_slopsNow m_matchesNow _ _ _ G (lv_sub hl [1, 0] rfl) hf
set_option maxHeartbeats 4000000 in
set_option maxRecDepth 100000 in
theorem c_M_matching_m_M {l : Launch} {E : xE} {ad : Nat → Nat} {m_thrown m_trouble m_where m_taped m_size m_spot m_sort m_place m_number m_fault m_wrongAt m_acts m_images m_matchNow m_slopsNow m_matchesNow m_fedBest m_slopsBest m_sawBest m_leastNow m_stableNow m_fitsNow m_someNow m_everyNow m_askLeft tb_seats tb_slack tb_saw tb_quarrel tb_people tb_pairs tb_forks tb_unsures tb_trieds tb_fed : Int32} {m_rv : Value} {m_tape m_v m_x m_past m_kept m_slopped m_seatBest m_otherIn tb_seat tb_one tb_other tb_years tb_kind tb_unsure tb_may tb_tried : Nat → Int32} {m_word : Int64} {tb_name : Nat → Int64} {R0 : Int32 × Int32 × Int32 × Int32 × (Nat → Int32)} (hf : f_M_matching m_x m_slopped tb_seats tb_slack = some R0) : xI l E yX12_matching cX12_matching 3 (some .int) 4 87 [.ref (ad 0)] (wM E ad m_thrown m_trouble m_where m_rv m_tape m_taped m_size m_spot m_sort m_place m_number m_fault m_wrongAt m_word m_v m_x m_past m_kept m_acts m_images m_matchNow m_slopsNow m_matchesNow m_slopped m_seatBest m_fedBest m_slopsBest m_sawBest m_leastNow m_stableNow m_fitsNow m_someNow m_everyNow m_otherIn m_askLeft tb_seats tb_slack tb_saw tb_quarrel tb_people tb_pairs tb_forks tb_unsures tb_trieds tb_fed tb_seat tb_one tb_other tb_years tb_kind tb_unsure tb_may tb_tried tb_name) (wM E ad m_thrown m_trouble m_where m_rv m_tape m_taped m_size m_spot m_sort m_place m_number m_fault m_wrongAt m_word m_v m_x m_past m_kept m_acts m_images R0.2.1 R0.2.2.1 R0.2.2.2.1 R0.2.2.2.2 m_seatBest m_fedBest m_slopsBest m_sawBest m_leastNow m_stableNow m_fitsNow m_someNow m_everyNow m_otherIn m_askLeft tb_seats tb_slack tb_saw tb_quarrel tb_people tb_pairs tb_forks tb_unsures tb_trieds tb_fed tb_seat tb_one tb_other tb_years tb_kind tb_unsure tb_may tb_tried tb_name) R0.1 := by
  refine xI_of (by decide) (Nat.le_of_ble_eq_true rfl) (fun p e s m args below meth c A C ls hl G => ?_)
  have hx := C.1
  have hb := C.2.1
  have hl : lv_has ls 3 [(0, .ref (ad 0))] := hl
  unfold f_M_matching at hf
  refine lv_aload_n hx hb dX12_matching_0 rfl (lv_at hl 0 rfl) ?_
  refine lv_iconst (v := 0) hx hb dX12_matching_1 (by decide) ?_
  refine x_put (ws' := (wM E ad m_thrown m_trouble m_where m_rv m_tape m_taped m_size m_spot m_sort m_place m_number m_fault m_wrongAt m_word m_v m_x m_past m_kept m_acts m_images (0 : Int32) m_slopsNow m_matchesNow m_slopped m_seatBest m_fedBest m_slopsBest m_sawBest m_leastNow m_stableNow m_fitsNow m_someNow m_everyNow m_otherIn m_askLeft tb_seats tb_slack tb_saw tb_quarrel tb_people tb_pairs tb_forks tb_unsures tb_trieds tb_fed tb_seat tb_one tb_other tb_years tb_kind tb_unsure tb_may tb_tried tb_name)) C G fX12_354 (wM_at0) rfl rfl (Nat.le_of_ble_eq_true rfl) wM_set_m_matchNow dX12_matching_2 (fun H locs G => ?_)
  refine lv_aload_n hx hb dX12_matching_5 rfl (lv_at hl 0 rfl) ?_
  refine lv_iconst (v := 0) hx hb dX12_matching_6 (by decide) ?_
  refine x_put (ws' := (wM E ad m_thrown m_trouble m_where m_rv m_tape m_taped m_size m_spot m_sort m_place m_number m_fault m_wrongAt m_word m_v m_x m_past m_kept m_acts m_images (0 : Int32) (0 : Int32) m_matchesNow m_slopped m_seatBest m_fedBest m_slopsBest m_sawBest m_leastNow m_stableNow m_fitsNow m_someNow m_everyNow m_otherIn m_askLeft tb_seats tb_slack tb_saw tb_quarrel tb_people tb_pairs tb_forks tb_unsures tb_trieds tb_fed tb_seat tb_one tb_other tb_years tb_kind tb_unsure tb_may tb_tried tb_name)) C G fX12_357 (wM_at0) rfl rfl (Nat.le_of_ble_eq_true rfl) wM_set_m_slopsNow dX12_matching_7 (fun H locs G => ?_)
  refine lv_aload_n hx hb dX12_matching_10 rfl (lv_at hl 0 rfl) ?_
  refine lv_iconst (v := 1) hx hb dX12_matching_11 (by decide) ?_
  refine x_put (ws' := (wM E ad m_thrown m_trouble m_where m_rv m_tape m_taped m_size m_spot m_sort m_place m_number m_fault m_wrongAt m_word m_v m_x m_past m_kept m_acts m_images (0 : Int32) (0 : Int32) (1 : Int32) m_slopped m_seatBest m_fedBest m_slopsBest m_sawBest m_leastNow m_stableNow m_fitsNow m_someNow m_everyNow m_otherIn m_askLeft tb_seats tb_slack tb_saw tb_quarrel tb_people tb_pairs tb_forks tb_unsures tb_trieds tb_fed tb_seat tb_one tb_other tb_years tb_kind tb_unsure tb_may tb_tried tb_name)) C G fX12_351 (wM_at0) rfl rfl (Nat.le_of_ble_eq_true rfl) wM_set_m_matchesNow dX12_matching_12 (fun H locs G => ?_)
  refine lv_iconst (v := 0) hx hb dX12_matching_15 (by decide) ?_
  refine lv_istore_n (lv' := [(1, .int (0 : Int32)), (0, .ref (ad 0))]) hx hb dX12_matching_16 rfl hl (by decide) rfl (fun ls hl => ?_)
  obtain ⟨x5, hr, hf⟩ := bd_go hf
  have Jx5 : ∀ (H : Heap) (locs : List Loc) (ls : Array Slot), xG s E A (wM E ad m_thrown m_trouble m_where m_rv m_tape m_taped m_size m_spot m_sort m_place m_number m_fault m_wrongAt m_word m_v m_x m_past m_kept m_acts m_images (0 : Int32) (0 : Int32) (1 : Int32) x5 m_seatBest m_fedBest m_slopsBest m_sawBest m_leastNow m_stableNow m_fitsNow m_someNow m_everyNow m_otherIn m_askLeft tb_seats tb_slack tb_saw tb_quarrel tb_people tb_pairs tb_forks tb_unsures tb_trieds tb_fed tb_seat tb_one tb_other tb_years tb_kind tb_unsure tb_may tb_tried tb_name) H locs → lv_has ls 3 [(0, .ref (ad 0))] → W p l e (xR 4 87) s m args below meth c H locs 0 0 (MQ below (xqI E A (wM E ad m_thrown m_trouble m_where m_rv m_tape m_taped m_size m_spot m_sort m_place m_number m_fault m_wrongAt m_word m_v m_x m_past m_kept m_acts m_images R0.2.1 R0.2.2.1 R0.2.2.2.1 R0.2.2.2.2 m_seatBest m_fedBest m_slopsBest m_sawBest m_leastNow m_stableNow m_fitsNow m_someNow m_everyNow m_otherIn m_askLeft tb_seats tb_slack tb_saw tb_quarrel tb_people tb_pairs tb_forks tb_unsures tb_trieds tb_fed tb_seat tb_one tb_other tb_years tb_kind tb_unsure tb_may tb_tried tb_name) (some .int) R0.1) args s 0 0 A) (F0 m 57 ls []) := by
    intro H locs ls G hl
    refine lv_iconst (v := 0) hx hb dX12_matching_57 (by decide) ?_
    refine lv_istore_n (lv' := [(1, .int (0 : Int32)), (0, .ref (ad 0))]) hx hb dX12_matching_58 rfl hl (by decide) rfl (fun ls hl => ?_)
    obtain ⟨x17, hr, hf⟩ := bd_go hf
    have Jx17 : ∀ (H : Heap) (locs : List Loc) (ls : Array Slot), xG s E A (wM E ad m_thrown m_trouble m_where m_rv m_tape m_taped m_size m_spot m_sort m_place m_number m_fault m_wrongAt m_word m_v m_x m_past m_kept m_acts m_images x17.1 x17.2.1 x17.2.2 x5 m_seatBest m_fedBest m_slopsBest m_sawBest m_leastNow m_stableNow m_fitsNow m_someNow m_everyNow m_otherIn m_askLeft tb_seats tb_slack tb_saw tb_quarrel tb_people tb_pairs tb_forks tb_unsures tb_trieds tb_fed tb_seat tb_one tb_other tb_years tb_kind tb_unsure tb_may tb_tried tb_name) H locs → lv_has ls 3 [(0, .ref (ad 0))] → W p l e (xR 4 87) s m args below meth c H locs 0 0 (MQ below (xqI E A (wM E ad m_thrown m_trouble m_where m_rv m_tape m_taped m_size m_spot m_sort m_place m_number m_fault m_wrongAt m_word m_v m_x m_past m_kept m_acts m_images R0.2.1 R0.2.2.1 R0.2.2.2.1 R0.2.2.2.2 m_seatBest m_fedBest m_slopsBest m_sawBest m_leastNow m_stableNow m_fitsNow m_someNow m_everyNow m_otherIn m_askLeft tb_seats tb_slack tb_saw tb_quarrel tb_people tb_pairs tb_forks tb_unsures tb_trieds tb_fed tb_seat tb_one tb_other tb_years tb_kind tb_unsure tb_may tb_tried tb_name) (some .int) R0.1) args s 0 0 A) (F0 m 166 ls []) := by
      intro H locs ls G hl
      refine lv_iconst (v := 2) hx hb dX12_matching_166 (by decide) ?_
      refine lv_aload_n hx hb dX12_matching_167 rfl (lv_at hl 0 rfl) ?_
      refine x_get C G fX12_354.g (wM_at0) rfl dX12_matching_168 ?_
      obtain ⟨x18, hc, hf⟩ := bd_go hf
      refine xI_S C G (c_M_bits_any hc) mX12_bits kX12_234 ⟨Nat.le_of_ble_eq_true rfl, Nat.le_of_ble_eq_true rfl⟩ rfl hl.1 rfl (Nat.le_of_ble_eq_true rfl) ⟨Nat.le_refl _, Nat.le_refl _⟩ dX12_matching_171 (fun hz H locs G => ?_)
      refine lv_imul hx hb dX12_matching_174 ?_
      obtain rfl := Option.some.inj hf
      exact xI_ret C G rfl dX12_matching_175
    exact w_M_matching_m_M_L59 C Jx17 fu _ _ _ _ _ _ _ G (lv_sub hl [1, 0] rfl) hr
  exact w_M_matching_m_M_L17 C Jx5 fu _ _ _ _ _ G (lv_sub hl [1, 0] rfl) hr
set_option maxHeartbeats 4000000 in
set_option maxRecDepth 100000 in
theorem c_M_fed_m_M {l : Launch} {E : xE} {ad : Nat → Nat} {m_thrown m_trouble m_where m_taped m_size m_spot m_sort m_place m_number m_fault m_wrongAt m_acts m_images m_matchNow m_slopsNow m_matchesNow m_fedBest m_slopsBest m_sawBest m_leastNow m_stableNow m_fitsNow m_someNow m_everyNow m_askLeft tb_seats tb_slack tb_saw tb_quarrel tb_people tb_pairs tb_forks tb_unsures tb_trieds tb_fed : Int32} {m_rv : Value} {m_tape m_v m_x m_past m_kept m_slopped m_seatBest m_otherIn tb_seat tb_one tb_other tb_years tb_kind tb_unsure tb_may tb_tried : Nat → Int32} {m_word : Int64} {tb_name : Nat → Int64} {R0 : Int32 × Int32 × Int32 × Int32 × (Nat → Int32) × Int32 × Int32 × Int32 × (Nat → Int32)} (hf : f_M_fed m_v m_x m_slopped tb_seats tb_slack = some R0) : xI l E yX12_fed cX12_fed 1 (some .int) 5 109 [.ref (ad 0)] (wM E ad m_thrown m_trouble m_where m_rv m_tape m_taped m_size m_spot m_sort m_place m_number m_fault m_wrongAt m_word m_v m_x m_past m_kept m_acts m_images m_matchNow m_slopsNow m_matchesNow m_slopped m_seatBest m_fedBest m_slopsBest m_sawBest m_leastNow m_stableNow m_fitsNow m_someNow m_everyNow m_otherIn m_askLeft tb_seats tb_slack tb_saw tb_quarrel tb_people tb_pairs tb_forks tb_unsures tb_trieds tb_fed tb_seat tb_one tb_other tb_years tb_kind tb_unsure tb_may tb_tried tb_name) (wM E ad R0.2.1 R0.2.2.1 R0.2.2.2.1 m_rv m_tape m_taped m_size m_spot m_sort m_place m_number m_fault m_wrongAt m_word m_v R0.2.2.2.2.1 m_past m_kept m_acts m_images R0.2.2.2.2.2.1 R0.2.2.2.2.2.2.1 R0.2.2.2.2.2.2.2.1 R0.2.2.2.2.2.2.2.2 m_seatBest m_fedBest m_slopsBest m_sawBest m_leastNow m_stableNow m_fitsNow m_someNow m_everyNow m_otherIn m_askLeft tb_seats tb_slack tb_saw tb_quarrel tb_people tb_pairs tb_forks tb_unsures tb_trieds tb_fed tb_seat tb_one tb_other tb_years tb_kind tb_unsure tb_may tb_tried tb_name) R0.1 := by
  refine xI_of (by decide) (Nat.le_of_ble_eq_true rfl) (fun p e s m args below meth c A C ls hl G => ?_)
  have hx := C.1
  have hb := C.2.1
  have hl : lv_has ls 1 [(0, .ref (ad 0))] := hl
  unfold f_M_fed at hf
  refine lv_aload_n hx hb dX12_fed_0 rfl (lv_at hl 0 rfl) ?_
  refine lv_iconst (v := 0) hx hb dX12_fed_1 (by decide) ?_
  refine x_put (ws' := (wM E ad (0 : Int32) m_trouble m_where m_rv m_tape m_taped m_size m_spot m_sort m_place m_number m_fault m_wrongAt m_word m_v m_x m_past m_kept m_acts m_images m_matchNow m_slopsNow m_matchesNow m_slopped m_seatBest m_fedBest m_slopsBest m_sawBest m_leastNow m_stableNow m_fitsNow m_someNow m_everyNow m_otherIn m_askLeft tb_seats tb_slack tb_saw tb_quarrel tb_people tb_pairs tb_forks tb_unsures tb_trieds tb_fed tb_seat tb_one tb_other tb_years tb_kind tb_unsure tb_may tb_tried tb_name)) C G fX12_39 (wM_at0) rfl rfl (Nat.le_of_ble_eq_true rfl) wM_set_m_thrown dX12_fed_2 (fun H locs G => ?_)
  refine lv_aload_n hx hb dX12_fed_5 rfl (lv_at hl 0 rfl) ?_
  refine x_get C G fX12_298.g (wM_at0) rfl dX12_fed_6 ?_
  refine lv_ifnonnull (tgt := 18) hx hb dX12_fed_9 (by decide) ?_
  refine lv_aload_n hx hb dX12_fed_18 rfl (lv_at hl 0 rfl) ?_
  obtain ⟨x1, hc, hf⟩ := bd_go hf
  refine xV_V C G (c_M_works_m_M hc) mX12_works kX12_333 (wM_at0) rfl ⟨Nat.le_of_ble_eq_true rfl, Nat.le_of_ble_eq_true rfl⟩ rfl hl.1 rfl (Nat.le_of_ble_eq_true rfl) ⟨Nat.le_refl _, Nat.le_refl _⟩ dX12_fed_19 (fun H locs G => ?_)
  refine lv_aload_n hx hb dX12_fed_22 rfl (lv_at hl 0 rfl) ?_
  refine lv_aload_n hx hb dX12_fed_23 rfl (lv_at hl 0 rfl) ?_
  obtain ⟨x2, hc, hf⟩ := bd_go hf
  refine xI_V C G (c_M_matching_m_M hc) mX12_matching kX12_366 (wM_at0) rfl ⟨Nat.le_of_ble_eq_true rfl, Nat.le_of_ble_eq_true rfl⟩ rfl hl.1 rfl (Nat.le_of_ble_eq_true rfl) ⟨Nat.le_refl _, Nat.le_refl _⟩ dX12_fed_24 (fun hz H locs G => ?_)
  obtain ⟨x3, hc, hf⟩ := bd_go hf
  refine xI_V C G (c_M_good_m_M hc) mX12_good kX12_49 (wM_at0) rfl ⟨Nat.le_of_ble_eq_true rfl, Nat.le_of_ble_eq_true rfl⟩ rfl hl.1 rfl (Nat.le_of_ble_eq_true rfl) ⟨Nat.le_refl _, Nat.le_refl _⟩ dX12_fed_27 (fun hz H locs G => ?_)
  obtain rfl := Option.some.inj hf
  exact xI_ret C G rfl dX12_fed_30
set_option maxHeartbeats 4000000 in
set_option maxRecDepth 100000 in
theorem c_M_match_m_M {l : Launch} {E : xE} {ad : Nat → Nat} {m_thrown m_trouble m_where m_taped m_size m_spot m_sort m_place m_number m_fault m_wrongAt m_acts m_images m_matchNow m_slopsNow m_matchesNow m_fedBest m_slopsBest m_sawBest m_leastNow m_stableNow m_fitsNow m_someNow m_everyNow m_askLeft tb_seats tb_slack tb_saw tb_quarrel tb_people tb_pairs tb_forks tb_unsures tb_trieds tb_fed : Int32} {m_rv : Value} {m_tape m_v m_x m_past m_kept m_slopped m_seatBest m_otherIn tb_seat tb_one tb_other tb_years tb_kind tb_unsure tb_may tb_tried : Nat → Int32} {m_word : Int64} {tb_name : Nat → Int64} {R0 : Int32 × Int32 × Int32 × Int32 × (Nat → Int32) × Int32 × Int32 × Int32 × (Nat → Int32)} (hf : f_M_match m_v m_x m_slopped tb_seats tb_slack = some R0) : xI l E yX12_match cX12_match 1 (some .int) 5 109 [.ref (ad 0)] (wM E ad m_thrown m_trouble m_where m_rv m_tape m_taped m_size m_spot m_sort m_place m_number m_fault m_wrongAt m_word m_v m_x m_past m_kept m_acts m_images m_matchNow m_slopsNow m_matchesNow m_slopped m_seatBest m_fedBest m_slopsBest m_sawBest m_leastNow m_stableNow m_fitsNow m_someNow m_everyNow m_otherIn m_askLeft tb_seats tb_slack tb_saw tb_quarrel tb_people tb_pairs tb_forks tb_unsures tb_trieds tb_fed tb_seat tb_one tb_other tb_years tb_kind tb_unsure tb_may tb_tried tb_name) (wM E ad R0.2.1 R0.2.2.1 R0.2.2.2.1 m_rv m_tape m_taped m_size m_spot m_sort m_place m_number m_fault m_wrongAt m_word m_v R0.2.2.2.2.1 m_past m_kept m_acts m_images R0.2.2.2.2.2.1 R0.2.2.2.2.2.2.1 R0.2.2.2.2.2.2.2.1 R0.2.2.2.2.2.2.2.2 m_seatBest m_fedBest m_slopsBest m_sawBest m_leastNow m_stableNow m_fitsNow m_someNow m_everyNow m_otherIn m_askLeft tb_seats tb_slack tb_saw tb_quarrel tb_people tb_pairs tb_forks tb_unsures tb_trieds tb_fed tb_seat tb_one tb_other tb_years tb_kind tb_unsure tb_may tb_tried tb_name) R0.1 := by
  refine xI_of (by decide) (Nat.le_of_ble_eq_true rfl) (fun p e s m args below meth c A C ls hl G => ?_)
  have hx := C.1
  have hb := C.2.1
  have hl : lv_has ls 1 [(0, .ref (ad 0))] := hl
  unfold f_M_match at hf
  refine lv_aload_n hx hb dX12_match_0 rfl (lv_at hl 0 rfl) ?_
  refine lv_iconst (v := 0) hx hb dX12_match_1 (by decide) ?_
  refine x_put (ws' := (wM E ad (0 : Int32) m_trouble m_where m_rv m_tape m_taped m_size m_spot m_sort m_place m_number m_fault m_wrongAt m_word m_v m_x m_past m_kept m_acts m_images m_matchNow m_slopsNow m_matchesNow m_slopped m_seatBest m_fedBest m_slopsBest m_sawBest m_leastNow m_stableNow m_fitsNow m_someNow m_everyNow m_otherIn m_askLeft tb_seats tb_slack tb_saw tb_quarrel tb_people tb_pairs tb_forks tb_unsures tb_trieds tb_fed tb_seat tb_one tb_other tb_years tb_kind tb_unsure tb_may tb_tried tb_name)) C G fX12_39 (wM_at0) rfl rfl (Nat.le_of_ble_eq_true rfl) wM_set_m_thrown dX12_match_2 (fun H locs G => ?_)
  refine lv_aload_n hx hb dX12_match_5 rfl (lv_at hl 0 rfl) ?_
  refine x_get C G fX12_298.g (wM_at0) rfl dX12_match_6 ?_
  refine lv_ifnonnull (tgt := 18) hx hb dX12_match_9 (by decide) ?_
  refine lv_aload_n hx hb dX12_match_18 rfl (lv_at hl 0 rfl) ?_
  obtain ⟨x1, hc, hf⟩ := bd_go hf
  refine xV_V C G (c_M_works_m_M hc) mX12_works kX12_333 (wM_at0) rfl ⟨Nat.le_of_ble_eq_true rfl, Nat.le_of_ble_eq_true rfl⟩ rfl hl.1 rfl (Nat.le_of_ble_eq_true rfl) ⟨Nat.le_refl _, Nat.le_refl _⟩ dX12_match_19 (fun H locs G => ?_)
  refine lv_aload_n hx hb dX12_match_22 rfl (lv_at hl 0 rfl) ?_
  obtain ⟨x2, hc, hf⟩ := bd_go hf
  refine xI_V C G (c_M_matching_m_M hc) mX12_matching kX12_366 (wM_at0) rfl ⟨Nat.le_of_ble_eq_true rfl, Nat.le_of_ble_eq_true rfl⟩ rfl hl.1 rfl (Nat.le_of_ble_eq_true rfl) ⟨Nat.le_refl _, Nat.le_refl _⟩ dX12_match_23 (fun hz H locs G => ?_)
  refine lv_pop hx hb dX12_match_26 rfl ?_
  refine lv_aload_n hx hb dX12_match_27 rfl (lv_at hl 0 rfl) ?_
  refine lv_aload_n hx hb dX12_match_28 rfl (lv_at hl 0 rfl) ?_
  refine x_get C G fX12_354.g (wM_at0) rfl dX12_match_29 ?_
  obtain ⟨x3, hc, hf⟩ := bd_go hf
  refine xI_V C G (c_M_good_m_M hc) mX12_good kX12_49 (wM_at0) rfl ⟨Nat.le_of_ble_eq_true rfl, Nat.le_of_ble_eq_true rfl⟩ rfl hl.1 rfl (Nat.le_of_ble_eq_true rfl) ⟨Nat.le_refl _, Nat.le_refl _⟩ dX12_match_32 (fun hz H locs G => ?_)
  obtain rfl := Option.some.inj hf
  exact xI_ret C G rfl dX12_match_35
set_option maxHeartbeats 4000000 in
set_option maxRecDepth 100000 in
theorem c_M_slops_m_M {l : Launch} {E : xE} {ad : Nat → Nat} {m_thrown m_trouble m_where m_taped m_size m_spot m_sort m_place m_number m_fault m_wrongAt m_acts m_images m_matchNow m_slopsNow m_matchesNow m_fedBest m_slopsBest m_sawBest m_leastNow m_stableNow m_fitsNow m_someNow m_everyNow m_askLeft tb_seats tb_slack tb_saw tb_quarrel tb_people tb_pairs tb_forks tb_unsures tb_trieds tb_fed : Int32} {m_rv : Value} {m_tape m_v m_x m_past m_kept m_slopped m_seatBest m_otherIn tb_seat tb_one tb_other tb_years tb_kind tb_unsure tb_may tb_tried : Nat → Int32} {m_word : Int64} {tb_name : Nat → Int64} {R0 : Int32 × Int32 × Int32 × Int32 × (Nat → Int32) × Int32 × Int32 × Int32 × (Nat → Int32)} (hf : f_M_slops m_v m_x m_slopped tb_seats tb_slack = some R0) : xI l E yX12_slops cX12_slops 1 (some .int) 5 109 [.ref (ad 0)] (wM E ad m_thrown m_trouble m_where m_rv m_tape m_taped m_size m_spot m_sort m_place m_number m_fault m_wrongAt m_word m_v m_x m_past m_kept m_acts m_images m_matchNow m_slopsNow m_matchesNow m_slopped m_seatBest m_fedBest m_slopsBest m_sawBest m_leastNow m_stableNow m_fitsNow m_someNow m_everyNow m_otherIn m_askLeft tb_seats tb_slack tb_saw tb_quarrel tb_people tb_pairs tb_forks tb_unsures tb_trieds tb_fed tb_seat tb_one tb_other tb_years tb_kind tb_unsure tb_may tb_tried tb_name) (wM E ad R0.2.1 R0.2.2.1 R0.2.2.2.1 m_rv m_tape m_taped m_size m_spot m_sort m_place m_number m_fault m_wrongAt m_word m_v R0.2.2.2.2.1 m_past m_kept m_acts m_images R0.2.2.2.2.2.1 R0.2.2.2.2.2.2.1 R0.2.2.2.2.2.2.2.1 R0.2.2.2.2.2.2.2.2 m_seatBest m_fedBest m_slopsBest m_sawBest m_leastNow m_stableNow m_fitsNow m_someNow m_everyNow m_otherIn m_askLeft tb_seats tb_slack tb_saw tb_quarrel tb_people tb_pairs tb_forks tb_unsures tb_trieds tb_fed tb_seat tb_one tb_other tb_years tb_kind tb_unsure tb_may tb_tried tb_name) R0.1 := by
  refine xI_of (by decide) (Nat.le_of_ble_eq_true rfl) (fun p e s m args below meth c A C ls hl G => ?_)
  have hx := C.1
  have hb := C.2.1
  have hl : lv_has ls 1 [(0, .ref (ad 0))] := hl
  unfold f_M_slops at hf
  refine lv_aload_n hx hb dX12_slops_0 rfl (lv_at hl 0 rfl) ?_
  refine lv_iconst (v := 0) hx hb dX12_slops_1 (by decide) ?_
  refine x_put (ws' := (wM E ad (0 : Int32) m_trouble m_where m_rv m_tape m_taped m_size m_spot m_sort m_place m_number m_fault m_wrongAt m_word m_v m_x m_past m_kept m_acts m_images m_matchNow m_slopsNow m_matchesNow m_slopped m_seatBest m_fedBest m_slopsBest m_sawBest m_leastNow m_stableNow m_fitsNow m_someNow m_everyNow m_otherIn m_askLeft tb_seats tb_slack tb_saw tb_quarrel tb_people tb_pairs tb_forks tb_unsures tb_trieds tb_fed tb_seat tb_one tb_other tb_years tb_kind tb_unsure tb_may tb_tried tb_name)) C G fX12_39 (wM_at0) rfl rfl (Nat.le_of_ble_eq_true rfl) wM_set_m_thrown dX12_slops_2 (fun H locs G => ?_)
  refine lv_aload_n hx hb dX12_slops_5 rfl (lv_at hl 0 rfl) ?_
  refine x_get C G fX12_298.g (wM_at0) rfl dX12_slops_6 ?_
  refine lv_ifnonnull (tgt := 18) hx hb dX12_slops_9 (by decide) ?_
  refine lv_aload_n hx hb dX12_slops_18 rfl (lv_at hl 0 rfl) ?_
  obtain ⟨x1, hc, hf⟩ := bd_go hf
  refine xV_V C G (c_M_works_m_M hc) mX12_works kX12_333 (wM_at0) rfl ⟨Nat.le_of_ble_eq_true rfl, Nat.le_of_ble_eq_true rfl⟩ rfl hl.1 rfl (Nat.le_of_ble_eq_true rfl) ⟨Nat.le_refl _, Nat.le_refl _⟩ dX12_slops_19 (fun H locs G => ?_)
  refine lv_aload_n hx hb dX12_slops_22 rfl (lv_at hl 0 rfl) ?_
  obtain ⟨x2, hc, hf⟩ := bd_go hf
  refine xI_V C G (c_M_matching_m_M hc) mX12_matching kX12_366 (wM_at0) rfl ⟨Nat.le_of_ble_eq_true rfl, Nat.le_of_ble_eq_true rfl⟩ rfl hl.1 rfl (Nat.le_of_ble_eq_true rfl) ⟨Nat.le_refl _, Nat.le_refl _⟩ dX12_slops_23 (fun hz H locs G => ?_)
  refine lv_pop hx hb dX12_slops_26 rfl ?_
  refine lv_aload_n hx hb dX12_slops_27 rfl (lv_at hl 0 rfl) ?_
  refine lv_aload_n hx hb dX12_slops_28 rfl (lv_at hl 0 rfl) ?_
  refine x_get C G fX12_357.g (wM_at0) rfl dX12_slops_29 ?_
  obtain ⟨x3, hc, hf⟩ := bd_go hf
  refine xI_V C G (c_M_good_m_M hc) mX12_good kX12_49 (wM_at0) rfl ⟨Nat.le_of_ble_eq_true rfl, Nat.le_of_ble_eq_true rfl⟩ rfl hl.1 rfl (Nat.le_of_ble_eq_true rfl) ⟨Nat.le_refl _, Nat.le_refl _⟩ dX12_slops_32 (fun hz H locs G => ?_)
  obtain rfl := Option.some.inj hf
  exact xI_ret C G rfl dX12_slops_35
set_option maxHeartbeats 4000000 in
set_option maxRecDepth 100000 in
theorem w_M_mateBy_m_M_L2 {p : Program} {l : Launch} {e : Env} {s : State} {m : MethodId} {args : Array Value} {below : List Frame} {meth : Method} {c : Code} {A : Nat → Prop} {E : xE} {ad : Nat → Nat} {m_thrown m_trouble m_where m_taped m_size m_spot m_sort m_place m_number m_fault m_wrongAt m_acts m_images m_matchNow m_slopsNow m_matchesNow m_fedBest m_slopsBest m_sawBest m_leastNow m_stableNow m_fitsNow m_someNow m_everyNow m_askLeft tb_seats tb_slack tb_saw tb_quarrel tb_people tb_pairs tb_forks tb_unsures tb_trieds tb_fed : Int32} {m_rv : Value} {m_tape m_v m_x m_past m_kept m_slopped m_seatBest m_otherIn tb_seat tb_one tb_other tb_years tb_kind tb_unsure tb_may tb_tried : Nat → Int32} {m_word : Int64} {tb_name : Nat → Int64} {l1 : Int32} {l2 : Int32} {o : (Int32) ⊕ (Unit)} {R0 : Int32} (C : xC p s m args meth c cX12_mateBy 4 RX12 E A (some .int)) (Jr : ∀ r, o = .inl r → r = R0) (J : ∀ t, o = .inr t → ∀ (H : Heap) (locs : List Loc) (ls : Array Slot), xG s E A (wM E ad m_thrown m_trouble m_where m_rv m_tape m_taped m_size m_spot m_sort m_place m_number m_fault m_wrongAt m_word m_v m_x m_past m_kept m_acts m_images m_matchNow m_slopsNow m_matchesNow m_slopped m_seatBest m_fedBest m_slopsBest m_sawBest m_leastNow m_stableNow m_fitsNow m_someNow m_everyNow m_otherIn m_askLeft tb_seats tb_slack tb_saw tb_quarrel tb_people tb_pairs tb_forks tb_unsures tb_trieds tb_fed tb_seat tb_one tb_other tb_years tb_kind tb_unsure tb_may tb_tried tb_name) H locs → lv_has ls 4 [] → W p l e (xR 1 22) s m args below meth c H locs 0 0 (MQ below (xqI E A (wM E ad m_thrown m_trouble m_where m_rv m_tape m_taped m_size m_spot m_sort m_place m_number m_fault m_wrongAt m_word m_v m_x m_past m_kept m_acts m_images m_matchNow m_slopsNow m_matchesNow m_slopped m_seatBest m_fedBest m_slopsBest m_sawBest m_leastNow m_stableNow m_fitsNow m_someNow m_everyNow m_otherIn m_askLeft tb_seats tb_slack tb_saw tb_quarrel tb_people tb_pairs tb_forks tb_unsures tb_trieds tb_fed tb_seat tb_one tb_other tb_years tb_kind tb_unsure tb_may tb_tried tb_name) (some .int) R0) args s 0 0 A) (F0 m 57 ls [])) :
    ∀ (n : Nat) (l3 : Int32) (H : Heap) (locs : List Loc) (ls : Array Slot), xG s E A (wM E ad m_thrown m_trouble m_where m_rv m_tape m_taped m_size m_spot m_sort m_place m_number m_fault m_wrongAt m_word m_v m_x m_past m_kept m_acts m_images m_matchNow m_slopsNow m_matchesNow m_slopped m_seatBest m_fedBest m_slopsBest m_sawBest m_leastNow m_stableNow m_fitsNow m_someNow m_everyNow m_otherIn m_askLeft tb_seats tb_slack tb_saw tb_quarrel tb_people tb_pairs tb_forks tb_unsures tb_trieds tb_fed tb_seat tb_one tb_other tb_years tb_kind tb_unsure tb_may tb_tried tb_name) H locs → lv_has ls 4 [(0, .ref (ad 0)), (1, .int l1), (2, .int l2), (3, .int l3)] → f_M_mateBy_L2 l1 l2 m_x n l3 = some o → W p l e (xR 1 22) s m args below meth c H locs 0 0 (MQ below (xqI E A (wM E ad m_thrown m_trouble m_where m_rv m_tape m_taped m_size m_spot m_sort m_place m_number m_fault m_wrongAt m_word m_v m_x m_past m_kept m_acts m_images m_matchNow m_slopsNow m_matchesNow m_slopped m_seatBest m_fedBest m_slopsBest m_sawBest m_leastNow m_stableNow m_fitsNow m_someNow m_everyNow m_otherIn m_askLeft tb_seats tb_slack tb_saw tb_quarrel tb_people tb_pairs tb_forks tb_unsures tb_trieds tb_fed tb_seat tb_one tb_other tb_years tb_kind tb_unsure tb_may tb_tried tb_name) (some .int) R0) args s 0 0 A) (F0 m 2 ls []) := by
  have hx := C.1
  have hb := C.2.1
  intro n
  induction n with
  | zero =>
    intro l3 H locs ls G hl hf
    exact nomatch (show (none : Option ((Int32) ⊕ (Unit))) = some o from hf)
  | succ n ih =>
    intro l3 H locs ls G hl hf
    rw [f_M_mateBy_L2] at hf
    refine lv_iload_n hx hb dX12_mateBy_2 rfl (lv_at hl 3 rfl) ?_
    refine lv_aload_n hx hb dX12_mateBy_3 rfl (lv_at hl 0 rfl) ?_
    refine x_get C G fX12_21 (wM_at0) rfl dX12_mateBy_4 ?_
    refine lv_bipush (v := 55) hx hb dX12_mateBy_7 (by decide) ?_
    have hi := ck_in hf
    have hf := ck_go hf
    refine x_iald C G (wM_at3) hi dX12_mateBy_9 ?_
    refine lv_icmp_ge (tgt := 57) hx hb dX12_mateBy_10 (by decide) (fun h => ?_) (fun h => ?_)
    · have hf := it_t h hf
      exact J _ (Option.some.inj hf).symm _ _ _ G (lv_sub hl [] rfl)
    · have hf := it_f h hf
      refine lv_iload_n hx hb dX12_mateBy_13 rfl (lv_at hl 1 rfl) ?_
      refine lv_iload_n hx hb dX12_mateBy_14 rfl (lv_at hl 3 rfl) ?_
      obtain ⟨x1, hc, hf⟩ := bd_go hf
      refine xI_S C G (c_M_bit_any hc) mX12_bit kX12_237 ⟨Nat.le_of_ble_eq_true rfl, Nat.le_of_ble_eq_true rfl⟩ rfl hl.1 rfl (Nat.le_of_ble_eq_true rfl) ⟨Nat.le_refl _, Nat.le_refl _⟩ dX12_mateBy_15 (fun hz1 H locs G => ?_)
      obtain ⟨b2, hr, hf⟩ := bd_go hf
      cases b2 with
      | true =>
        have hf := it_t rfl hf
        have J : ∀ (H : Heap) (locs : List Loc), xG s E A (wM E ad m_thrown m_trouble m_where m_rv m_tape m_taped m_size m_spot m_sort m_place m_number m_fault m_wrongAt m_word m_v m_x m_past m_kept m_acts m_images m_matchNow m_slopsNow m_matchesNow m_slopped m_seatBest m_fedBest m_slopsBest m_sawBest m_leastNow m_stableNow m_fitsNow m_someNow m_everyNow m_otherIn m_askLeft tb_seats tb_slack tb_saw tb_quarrel tb_people tb_pairs tb_forks tb_unsures tb_trieds tb_fed tb_seat tb_one tb_other tb_years tb_kind tb_unsure tb_may tb_tried tb_name) H locs → W p l e (xR 1 22) s m args below meth c H locs 0 0 (MQ below (xqI E A (wM E ad m_thrown m_trouble m_where m_rv m_tape m_taped m_size m_spot m_sort m_place m_number m_fault m_wrongAt m_word m_v m_x m_past m_kept m_acts m_images m_matchNow m_slopsNow m_matchesNow m_slopped m_seatBest m_fedBest m_slopsBest m_sawBest m_leastNow m_stableNow m_fitsNow m_someNow m_everyNow m_otherIn m_askLeft tb_seats tb_slack tb_saw tb_quarrel tb_people tb_pairs tb_forks tb_unsures tb_trieds tb_fed tb_seat tb_one tb_other tb_years tb_kind tb_unsure tb_may tb_tried tb_name) (some .int) R0) args s 0 0 A) (F0 m 51 ls []) := by
          intro H locs G
          obtain ⟨x3, ex3⟩ : ∃ z : Int32, z = l3 + (1 : Int32) := ⟨_, rfl⟩
          have hf := lt_go ex3 hf
          refine lv_iinc (v := x3) (lv' := [(3, .int x3), (0, .ref (ad 0)), (1, .int l1), (2, .int l2)]) hx hb dX12_mateBy_51 hl (k := 3) rfl (by rw [ex3]; rfl) (by decide) rfl (fun ls hl => ?_)
          refine lv_goto (tgt := 2) hx hb dX12_mateBy_54 (by decide) ?_
          exact ih x3 _ _ _ G (lv_sub hl [1, 2, 3, 0] rfl) hf
        have hf := hr
        clear hr
        refine lv_if_eq (tgt := 51) hx hb dX12_mateBy_18 (by decide) (fun h => ?_) (fun h => ?_)
        · have hf := it_t h hf
          exact J _ _ G
        · have hf := it_f h hf
          refine lv_aload_n hx hb dX12_mateBy_21 rfl (lv_at hl 0 rfl) ?_
          refine lv_iload_n hx hb dX12_mateBy_22 rfl (lv_at hl 3 rfl) ?_
          refine lv_iload_n hx hb dX12_mateBy_23 rfl (lv_at hl 2 rfl) ?_
          obtain ⟨x4, hc, hf⟩ := bd_go hf
          refine xI_V C G (c_M_hasOne_m_M hc) mX12_hasOne kX12_327 (wM_at0) rfl ⟨Nat.le_of_ble_eq_true rfl, Nat.le_of_ble_eq_true rfl⟩ rfl hl.1 rfl (Nat.le_of_ble_eq_true rfl) ⟨Nat.le_refl _, Nat.le_refl _⟩ dX12_mateBy_24 (fun hz4 H locs G => ?_)
          refine lv_if_eq (tgt := 51) hx hb dX12_mateBy_27 (by decide) (fun h => ?_) (fun h => ?_)
          · have hf := it_t h hf
            exact J _ _ G
          · have hf := it_f h hf
            exact absurd (Option.some.inj hf) (by decide)
      | false =>
        have hf := it_f (by decide) hf
        have J : ∀ (H : Heap) (locs : List Loc), xG s E A (wM E ad m_thrown m_trouble m_where m_rv m_tape m_taped m_size m_spot m_sort m_place m_number m_fault m_wrongAt m_word m_v m_x m_past m_kept m_acts m_images m_matchNow m_slopsNow m_matchesNow m_slopped m_seatBest m_fedBest m_slopsBest m_sawBest m_leastNow m_stableNow m_fitsNow m_someNow m_everyNow m_otherIn m_askLeft tb_seats tb_slack tb_saw tb_quarrel tb_people tb_pairs tb_forks tb_unsures tb_trieds tb_fed tb_seat tb_one tb_other tb_years tb_kind tb_unsure tb_may tb_tried tb_name) H locs → W p l e (xR 1 22) s m args below meth c H locs 0 0 (MQ below (xqI E A (wM E ad m_thrown m_trouble m_where m_rv m_tape m_taped m_size m_spot m_sort m_place m_number m_fault m_wrongAt m_word m_v m_x m_past m_kept m_acts m_images m_matchNow m_slopsNow m_matchesNow m_slopped m_seatBest m_fedBest m_slopsBest m_sawBest m_leastNow m_stableNow m_fitsNow m_someNow m_everyNow m_otherIn m_askLeft tb_seats tb_slack tb_saw tb_quarrel tb_people tb_pairs tb_forks tb_unsures tb_trieds tb_fed tb_seat tb_one tb_other tb_years tb_kind tb_unsure tb_may tb_tried tb_name) (some .int) R0) args s 0 0 A) (F0 m 30 ls []) := by
          intro H locs G
          refine lv_aload_n hx hb dX12_mateBy_30 rfl (lv_at hl 0 rfl) ?_
          refine x_get C G fX12_21 (wM_at0) rfl dX12_mateBy_31 ?_
          refine lv_iconst (v := 5) hx hb dX12_mateBy_34 (by decide) ?_
          refine lv_iload_n hx hb dX12_mateBy_35 rfl (lv_at hl 3 rfl) ?_
          refine lv_iadd hx hb dX12_mateBy_36 ?_
          have hi := ck_in hf
          have hf := ck_go hf
          refine x_iald C G (wM_at3) hi dX12_mateBy_37 ?_
          refine lv_aload_n hx hb dX12_mateBy_38 rfl (lv_at hl 0 rfl) ?_
          refine x_get C G fX12_21 (wM_at0) rfl dX12_mateBy_39 ?_
          refine lv_bipush (v := 15) hx hb dX12_mateBy_42 (by decide) ?_
          refine lv_iload_n hx hb dX12_mateBy_44 rfl (lv_at hl 3 rfl) ?_
          refine lv_iadd hx hb dX12_mateBy_45 ?_
          have hi := ck_in hf
          have hf := ck_go hf
          refine x_iald C G (wM_at3) hi dX12_mateBy_46 ?_
          refine lv_iadd hx hb dX12_mateBy_47 ?_
          refine lv_iload_n hx hb dX12_mateBy_48 rfl (lv_at hl 2 rfl) ?_
          refine lv_isub hx hb dX12_mateBy_49 ?_
          obtain rfl := Jr _ (Option.some.inj hf).symm
          exact xI_ret C G rfl dX12_mateBy_50
        have hf := hr
        clear hr
        refine lv_if_eq (tgt := 51) hx hb dX12_mateBy_18 (by decide) (fun h => ?_) (fun h => ?_)
        · have hf := it_t h hf
          exact absurd (Option.some.inj hf) (by decide)
        · have hf := it_f h hf
          refine lv_aload_n hx hb dX12_mateBy_21 rfl (lv_at hl 0 rfl) ?_
          refine lv_iload_n hx hb dX12_mateBy_22 rfl (lv_at hl 3 rfl) ?_
          refine lv_iload_n hx hb dX12_mateBy_23 rfl (lv_at hl 2 rfl) ?_
          obtain ⟨x5, hc, hf⟩ := bd_go hf
          refine xI_V C G (c_M_hasOne_m_M hc) mX12_hasOne kX12_327 (wM_at0) rfl ⟨Nat.le_of_ble_eq_true rfl, Nat.le_of_ble_eq_true rfl⟩ rfl hl.1 rfl (Nat.le_of_ble_eq_true rfl) ⟨Nat.le_refl _, Nat.le_refl _⟩ dX12_mateBy_24 (fun hz5 H locs G => ?_)
          refine lv_if_eq (tgt := 51) hx hb dX12_mateBy_27 (by decide) (fun h => ?_) (fun h => ?_)
          · have hf := it_t h hf
            exact absurd (Option.some.inj hf) (by decide)
          · have hf := it_f h hf
            exact J _ _ G
set_option maxHeartbeats 4000000 in
set_option maxRecDepth 100000 in
theorem c_M_mateBy_m_M {l : Launch} {E : xE} {ad : Nat → Nat} {m_thrown m_trouble m_where m_taped m_size m_spot m_sort m_place m_number m_fault m_wrongAt m_acts m_images m_matchNow m_slopsNow m_matchesNow m_fedBest m_slopsBest m_sawBest m_leastNow m_stableNow m_fitsNow m_someNow m_everyNow m_askLeft tb_seats tb_slack tb_saw tb_quarrel tb_people tb_pairs tb_forks tb_unsures tb_trieds tb_fed : Int32} {m_rv : Value} {m_tape m_v m_x m_past m_kept m_slopped m_seatBest m_otherIn tb_seat tb_one tb_other tb_years tb_kind tb_unsure tb_may tb_tried : Nat → Int32} {m_word : Int64} {tb_name : Nat → Int64} {l1 : Int32} {l2 : Int32} {R0 : Int32} (hf : f_M_mateBy l1 l2 m_x = some R0) : xI l E yX12_mateBy cX12_mateBy 4 (some .int) 1 22 [.ref (ad 0), .int l1, .int l2] (wM E ad m_thrown m_trouble m_where m_rv m_tape m_taped m_size m_spot m_sort m_place m_number m_fault m_wrongAt m_word m_v m_x m_past m_kept m_acts m_images m_matchNow m_slopsNow m_matchesNow m_slopped m_seatBest m_fedBest m_slopsBest m_sawBest m_leastNow m_stableNow m_fitsNow m_someNow m_everyNow m_otherIn m_askLeft tb_seats tb_slack tb_saw tb_quarrel tb_people tb_pairs tb_forks tb_unsures tb_trieds tb_fed tb_seat tb_one tb_other tb_years tb_kind tb_unsure tb_may tb_tried tb_name) (wM E ad m_thrown m_trouble m_where m_rv m_tape m_taped m_size m_spot m_sort m_place m_number m_fault m_wrongAt m_word m_v m_x m_past m_kept m_acts m_images m_matchNow m_slopsNow m_matchesNow m_slopped m_seatBest m_fedBest m_slopsBest m_sawBest m_leastNow m_stableNow m_fitsNow m_someNow m_everyNow m_otherIn m_askLeft tb_seats tb_slack tb_saw tb_quarrel tb_people tb_pairs tb_forks tb_unsures tb_trieds tb_fed tb_seat tb_one tb_other tb_years tb_kind tb_unsure tb_may tb_tried tb_name) R0 := by
  refine xI_of (by decide) (Nat.le_of_ble_eq_true rfl) (fun p e s m args below meth c A C ls hl G => ?_)
  have hx := C.1
  have hb := C.2.1
  have hl : lv_has ls 4 [(0, .ref (ad 0)), (1, .int l1), (2, .int l2)] := hl
  unfold f_M_mateBy at hf
  refine lv_iconst (v := 0) hx hb dX12_mateBy_0 (by decide) ?_
  refine lv_istore_n (lv' := [(3, .int (0 : Int32)), (0, .ref (ad 0)), (1, .int l1), (2, .int l2)]) hx hb dX12_mateBy_1 rfl hl (by decide) rfl (fun ls hl => ?_)
  obtain ⟨ox6, hr, hf⟩ := bd_go hf
  have Jx6 : ∀ x6, ox6 = .inr x6 → ∀ (H : Heap) (locs : List Loc) (ls : Array Slot), xG s E A (wM E ad m_thrown m_trouble m_where m_rv m_tape m_taped m_size m_spot m_sort m_place m_number m_fault m_wrongAt m_word m_v m_x m_past m_kept m_acts m_images m_matchNow m_slopsNow m_matchesNow m_slopped m_seatBest m_fedBest m_slopsBest m_sawBest m_leastNow m_stableNow m_fitsNow m_someNow m_everyNow m_otherIn m_askLeft tb_seats tb_slack tb_saw tb_quarrel tb_people tb_pairs tb_forks tb_unsures tb_trieds tb_fed tb_seat tb_one tb_other tb_years tb_kind tb_unsure tb_may tb_tried tb_name) H locs → lv_has ls 4 [] → W p l e (xR 1 22) s m args below meth c H locs 0 0 (MQ below (xqI E A (wM E ad m_thrown m_trouble m_where m_rv m_tape m_taped m_size m_spot m_sort m_place m_number m_fault m_wrongAt m_word m_v m_x m_past m_kept m_acts m_images m_matchNow m_slopsNow m_matchesNow m_slopped m_seatBest m_fedBest m_slopsBest m_sawBest m_leastNow m_stableNow m_fitsNow m_someNow m_everyNow m_otherIn m_askLeft tb_seats tb_slack tb_saw tb_quarrel tb_people tb_pairs tb_forks tb_unsures tb_trieds tb_fed tb_seat tb_one tb_other tb_years tb_kind tb_unsure tb_may tb_tried tb_name) (some .int) R0) args s 0 0 A) (F0 m 57 ls []) := by
    intro x6 hq H locs ls G hl
    subst hq
    have hf := sm_r hf
    refine lv_bipush (v := -2) hx hb dX12_mateBy_57 (by decide) ?_
    obtain rfl := Option.some.inj hf
    exact xI_ret C G rfl dX12_mateBy_59
  have Jrx6 : ∀ r, ox6 = .inl r → r = R0 := by
    intro r hq
    subst hq
    exact Option.some.inj hf
  exact w_M_mateBy_m_M_L2 C Jrx6 Jx6 fu _ _ _ _ G (lv_sub hl [1, 2, 3, 0] rfl) hr
set_option maxHeartbeats 4000000 in
set_option maxRecDepth 100000 in
theorem c_M_mate_m_M {l : Launch} {E : xE} {ad : Nat → Nat} {m_thrown m_trouble m_where m_taped m_size m_spot m_sort m_place m_number m_fault m_wrongAt m_acts m_images m_matchNow m_slopsNow m_matchesNow m_fedBest m_slopsBest m_sawBest m_leastNow m_stableNow m_fitsNow m_someNow m_everyNow m_askLeft tb_seats tb_slack tb_saw tb_quarrel tb_people tb_pairs tb_forks tb_unsures tb_trieds tb_fed : Int32} {m_rv : Value} {m_tape m_v m_x m_past m_kept m_slopped m_seatBest m_otherIn tb_seat tb_one tb_other tb_years tb_kind tb_unsure tb_may tb_tried : Nat → Int32} {m_word : Int64} {tb_name : Nat → Int64} {l1 : Int32} {R0 : Int32 × Int32 × Int32 × Int32 × (Nat → Int32) × Int32 × Int32 × Int32 × (Nat → Int32)} (hf : f_M_mate l1 m_v m_x m_matchNow m_slopsNow m_matchesNow m_slopped tb_seats tb_slack tb_people = some R0) : xI l E yX12_mate cX12_mate 2 (some .int) 5 109 [.ref (ad 0), .int l1] (wM E ad m_thrown m_trouble m_where m_rv m_tape m_taped m_size m_spot m_sort m_place m_number m_fault m_wrongAt m_word m_v m_x m_past m_kept m_acts m_images m_matchNow m_slopsNow m_matchesNow m_slopped m_seatBest m_fedBest m_slopsBest m_sawBest m_leastNow m_stableNow m_fitsNow m_someNow m_everyNow m_otherIn m_askLeft tb_seats tb_slack tb_saw tb_quarrel tb_people tb_pairs tb_forks tb_unsures tb_trieds tb_fed tb_seat tb_one tb_other tb_years tb_kind tb_unsure tb_may tb_tried tb_name) (wM E ad R0.2.1 R0.2.2.1 R0.2.2.2.1 m_rv m_tape m_taped m_size m_spot m_sort m_place m_number m_fault m_wrongAt m_word m_v R0.2.2.2.2.1 m_past m_kept m_acts m_images R0.2.2.2.2.2.1 R0.2.2.2.2.2.2.1 R0.2.2.2.2.2.2.2.1 R0.2.2.2.2.2.2.2.2 m_seatBest m_fedBest m_slopsBest m_sawBest m_leastNow m_stableNow m_fitsNow m_someNow m_everyNow m_otherIn m_askLeft tb_seats tb_slack tb_saw tb_quarrel tb_people tb_pairs tb_forks tb_unsures tb_trieds tb_fed tb_seat tb_one tb_other tb_years tb_kind tb_unsure tb_may tb_tried tb_name) R0.1 := by
  refine xI_of (by decide) (Nat.le_of_ble_eq_true rfl) (fun p e s m args below meth c A C ls hl G => ?_)
  have hx := C.1
  have hb := C.2.1
  have hl : lv_has ls 2 [(0, .ref (ad 0)), (1, .int l1)] := hl
  unfold f_M_mate at hf
  refine lv_aload_n hx hb dX12_mate_0 rfl (lv_at hl 0 rfl) ?_
  refine lv_iconst (v := 0) hx hb dX12_mate_1 (by decide) ?_
  refine x_put (ws' := (wM E ad (0 : Int32) m_trouble m_where m_rv m_tape m_taped m_size m_spot m_sort m_place m_number m_fault m_wrongAt m_word m_v m_x m_past m_kept m_acts m_images m_matchNow m_slopsNow m_matchesNow m_slopped m_seatBest m_fedBest m_slopsBest m_sawBest m_leastNow m_stableNow m_fitsNow m_someNow m_everyNow m_otherIn m_askLeft tb_seats tb_slack tb_saw tb_quarrel tb_people tb_pairs tb_forks tb_unsures tb_trieds tb_fed tb_seat tb_one tb_other tb_years tb_kind tb_unsure tb_may tb_tried tb_name)) C G fX12_39 (wM_at0) rfl rfl (Nat.le_of_ble_eq_true rfl) wM_set_m_thrown dX12_mate_2 (fun H locs G => ?_)
  refine lv_aload_n hx hb dX12_mate_5 rfl (lv_at hl 0 rfl) ?_
  refine lv_iload_n hx hb dX12_mate_6 rfl (lv_at hl 1 rfl) ?_
  obtain ⟨x1, hc, hf⟩ := bd_go hf
  refine xI_V C G (c_M_isPerson_m_M hc) mX12_isPerson kX12_309 (wM_at0) rfl ⟨Nat.le_of_ble_eq_true rfl, Nat.le_of_ble_eq_true rfl⟩ rfl hl.1 rfl (Nat.le_of_ble_eq_true rfl) ⟨Nat.le_refl _, Nat.le_refl _⟩ dX12_mate_7 (fun hz1 H locs G => ?_)
  refine lv_if_ne (tgt := 19) hx hb dX12_mate_10 (by decide) (fun h => ?_) (fun h => ?_)
  · have hf := it_f h hf
    refine lv_aload_n hx hb dX12_mate_19 rfl (lv_at hl 0 rfl) ?_
    obtain ⟨x2, hc, hf⟩ := bd_go hf
    refine xV_V C G (c_M_works_m_M hc) mX12_works kX12_333 (wM_at0) rfl ⟨Nat.le_of_ble_eq_true rfl, Nat.le_of_ble_eq_true rfl⟩ rfl hl.1 rfl (Nat.le_of_ble_eq_true rfl) ⟨Nat.le_refl _, Nat.le_refl _⟩ dX12_mate_20 (fun H locs G => ?_)
    refine lv_aload_n hx hb dX12_mate_23 rfl (lv_at hl 0 rfl) ?_
    obtain ⟨x3, hc, hf⟩ := bd_go hf
    refine xI_V C G (c_M_matching_m_M hc) mX12_matching kX12_366 (wM_at0) rfl ⟨Nat.le_of_ble_eq_true rfl, Nat.le_of_ble_eq_true rfl⟩ rfl hl.1 rfl (Nat.le_of_ble_eq_true rfl) ⟨Nat.le_refl _, Nat.le_refl _⟩ dX12_mate_24 (fun hz H locs G => ?_)
    refine lv_pop hx hb dX12_mate_27 rfl ?_
    refine lv_aload_n hx hb dX12_mate_28 rfl (lv_at hl 0 rfl) ?_
    refine lv_aload_n hx hb dX12_mate_29 rfl (lv_at hl 0 rfl) ?_
    refine lv_aload_n hx hb dX12_mate_30 rfl (lv_at hl 0 rfl) ?_
    refine x_get C G fX12_354.g (wM_at0) rfl dX12_mate_31 ?_
    refine lv_iload_n hx hb dX12_mate_34 rfl (lv_at hl 1 rfl) ?_
    obtain ⟨x4, hc, hf⟩ := bd_go hf
    refine xI_V C G (c_M_mateBy_m_M hc) mX12_mateBy kX12_369 (wM_at0) rfl ⟨Nat.le_of_ble_eq_true rfl, Nat.le_of_ble_eq_true rfl⟩ rfl hl.1 rfl (Nat.le_of_ble_eq_true rfl) ⟨Nat.le_refl _, Nat.le_refl _⟩ dX12_mate_35 (fun hz H locs G => ?_)
    obtain ⟨x5, hc, hf⟩ := bd_go hf
    refine xI_V C G (c_M_good_m_M hc) mX12_good kX12_49 (wM_at0) rfl ⟨Nat.le_of_ble_eq_true rfl, Nat.le_of_ble_eq_true rfl⟩ rfl hl.1 rfl (Nat.le_of_ble_eq_true rfl) ⟨Nat.le_refl _, Nat.le_refl _⟩ dX12_mate_38 (fun hz H locs G => ?_)
    obtain rfl := Option.some.inj hf
    exact xI_ret C G rfl dX12_mate_41
  · have hf := it_t h hf
    refine lv_aload_n hx hb dX12_mate_13 rfl (lv_at hl 0 rfl) ?_
    refine lv_iconst (v := 1) hx hb dX12_mate_14 (by decide) ?_
    obtain ⟨x6, hc, hf⟩ := bd_go hf
    refine xI_V C G (c_M_refused_m_M hc) mX12_refused kX12_45 (wM_at0) rfl ⟨Nat.le_of_ble_eq_true rfl, Nat.le_of_ble_eq_true rfl⟩ rfl hl.1 rfl (Nat.le_of_ble_eq_true rfl) ⟨Nat.le_refl _, Nat.le_refl _⟩ dX12_mate_15 (fun hz H locs G => ?_)
    obtain rfl := Option.some.inj hf
    exact xI_ret C G rfl dX12_mate_18
set_option maxHeartbeats 4000000 in
set_option maxRecDepth 100000 in
theorem w_M_starving_m_M_L31 {p : Program} {l : Launch} {e : Env} {s : State} {m : MethodId} {args : Array Value} {below : List Frame} {meth : Method} {c : Code} {A : Nat → Prop} {E : xE} {Q : State → Prop} {ad : Nat → Nat} {m_thrown m_trouble m_where m_taped m_size m_spot m_sort m_place m_number m_fault m_wrongAt m_acts m_images m_matchNow m_slopsNow m_matchesNow m_fedBest m_slopsBest m_sawBest m_leastNow m_stableNow m_fitsNow m_someNow m_everyNow m_askLeft tb_seats tb_slack tb_saw tb_quarrel tb_people tb_pairs tb_forks tb_unsures tb_trieds tb_fed : Int32} {m_rv : Value} {m_tape m_v m_x m_past m_kept m_slopped m_seatBest m_otherIn tb_seat tb_one tb_other tb_years tb_kind tb_unsure tb_may tb_tried : Nat → Int32} {m_word : Int64} {tb_name : Nat → Int64} {o : Int32} (C : xC p s m args meth c cX12_starving 3 RX12 E A (some .int)) (J : ∀ (H : Heap) (locs : List Loc) (ls : Array Slot), xG s E A (wM E ad m_thrown m_trouble m_where m_rv m_tape m_taped m_size m_spot m_sort m_place m_number m_fault m_wrongAt m_word m_v m_x m_past m_kept m_acts m_images m_matchNow m_slopsNow m_matchesNow m_slopped m_seatBest m_fedBest m_slopsBest m_sawBest m_leastNow m_stableNow m_fitsNow m_someNow m_everyNow m_otherIn m_askLeft tb_seats tb_slack tb_saw tb_quarrel tb_people tb_pairs tb_forks tb_unsures tb_trieds tb_fed tb_seat tb_one tb_other tb_years tb_kind tb_unsure tb_may tb_tried tb_name) H locs → lv_has ls 3 [(0, .ref (ad 0)), (1, .int o)] → W p l e (xR 5 109) s m args below meth c H locs 0 0 Q (F0 m 72 ls [])) :
    ∀ (n : Nat) (l1 : Int32) (l2 : Int32) (H : Heap) (locs : List Loc) (ls : Array Slot), xG s E A (wM E ad m_thrown m_trouble m_where m_rv m_tape m_taped m_size m_spot m_sort m_place m_number m_fault m_wrongAt m_word m_v m_x m_past m_kept m_acts m_images m_matchNow m_slopsNow m_matchesNow m_slopped m_seatBest m_fedBest m_slopsBest m_sawBest m_leastNow m_stableNow m_fitsNow m_someNow m_everyNow m_otherIn m_askLeft tb_seats tb_slack tb_saw tb_quarrel tb_people tb_pairs tb_forks tb_unsures tb_trieds tb_fed tb_seat tb_one tb_other tb_years tb_kind tb_unsure tb_may tb_tried tb_name) H locs → lv_has ls 3 [(0, .ref (ad 0)), (1, .int l1), (2, .int l2)] → f_M_starving_L31 m_x m_matchNow tb_people n l1 l2 = some o → W p l e (xR 5 109) s m args below meth c H locs 0 0 Q (F0 m 31 ls []) := by
  have hx := C.1
  have hb := C.2.1
  intro n
  induction n with
  | zero =>
    intro l1 l2 H locs ls G hl hf
    exact nomatch (show (none : Option (Int32)) = some o from hf)
  | succ n ih =>
    intro l1 l2 H locs ls G hl hf
    rw [f_M_starving_L31] at hf
    refine lv_iload_n hx hb dX12_starving_31 rfl (lv_at hl 2 rfl) ?_
    refine lv_aload_n hx hb dX12_starving_32 rfl (lv_at hl 0 rfl) ?_
    refine x_get C G fX12_298.g (wM_at0) rfl dX12_starving_33 ?_
    refine x_get C G fX12_177.g (wM_at9) rfl dX12_starving_36 ?_
    refine lv_icmp_ge (tgt := 72) hx hb dX12_starving_39 (by decide) (fun h => ?_) (fun h => ?_)
    · have hf := it_t h hf
      obtain rfl := Option.some.inj hf
      exact J _ _ _ G (lv_sub hl [0, 1] rfl)
    · have hf := it_f h hf
      refine lv_iload_n hx hb dX12_starving_42 rfl (lv_at hl 1 rfl) ?_
      refine lv_aload_n hx hb dX12_starving_43 rfl (lv_at hl 0 rfl) ?_
      refine lv_aload_n hx hb dX12_starving_44 rfl (lv_at hl 0 rfl) ?_
      refine x_get C G fX12_354.g (wM_at0) rfl dX12_starving_45 ?_
      refine lv_iload_n hx hb dX12_starving_48 rfl (lv_at hl 2 rfl) ?_
      obtain ⟨x3, hc, hf⟩ := bd_go hf
      refine xI_V C G (c_M_mateBy_m_M hc) mX12_mateBy kX12_369 (wM_at0) rfl ⟨Nat.le_of_ble_eq_true rfl, Nat.le_of_ble_eq_true rfl⟩ rfl hl.1 rfl (Nat.le_of_ble_eq_true rfl) ⟨Nat.le_refl _, Nat.le_refl _⟩ dX12_starving_49 (fun hz H locs G => ?_)
      refine lv_bipush (v := -2) hx hb dX12_starving_52 (by decide) ?_
      obtain ⟨x4, hrx4, hf⟩ := bd_go hf
      have Jx4 : ∀ (H : Heap) (locs : List Loc) (ls : Array Slot), xG s E A (wM E ad m_thrown m_trouble m_where m_rv m_tape m_taped m_size m_spot m_sort m_place m_number m_fault m_wrongAt m_word m_v m_x m_past m_kept m_acts m_images m_matchNow m_slopsNow m_matchesNow m_slopped m_seatBest m_fedBest m_slopsBest m_sawBest m_leastNow m_stableNow m_fitsNow m_someNow m_everyNow m_otherIn m_askLeft tb_seats tb_slack tb_saw tb_quarrel tb_people tb_pairs tb_forks tb_unsures tb_trieds tb_fed tb_seat tb_one tb_other tb_years tb_kind tb_unsure tb_may tb_tried tb_name) H locs → lv_has ls 3 [(0, .ref (ad 0)), (2, .int l2)] → W p l e (xR 5 109) s m args below meth c H locs 0 0 Q (F0 m 64 ls [.int x4, .int l1]) := by
        intro H locs ls G hl
        refine lv_ior hx hb dX12_starving_64 ?_
        refine lv_topi (fun x5 ex5 => ?_)
        have hf := lt_go ex5 hf
        refine lv_istore_n (lv' := [(1, .int x5), (0, .ref (ad 0)), (2, .int l2)]) hx hb dX12_starving_65 rfl hl (by decide) rfl (fun ls hl => ?_)
        obtain ⟨x6, ex6⟩ : ∃ z : Int32, z = l2 + (1 : Int32) := ⟨_, rfl⟩
        have hf := lt_go ex6 hf
        refine lv_iinc (v := x6) (lv' := [(2, .int x6), (1, .int x5), (0, .ref (ad 0))]) hx hb dX12_starving_66 hl (k := 2) rfl (by rw [ex6]; rfl) (by decide) rfl (fun ls hl => ?_)
        refine lv_goto (tgt := 31) hx hb dX12_starving_69 (by decide) ?_
        exact ih x5 x6 _ _ _ G (lv_sub hl [2, 1, 0] rfl) hf
      have hf := hrx4
      refine lv_icmp_ne (tgt := 63) hx hb dX12_starving_54 (by decide) (fun h => ?_) (fun h => ?_)
      · have hf := it_f h hf
        refine lv_iconst (v := 0) hx hb dX12_starving_63 (by decide) ?_
        obtain rfl := Option.some.inj hf
        exact Jx4 _ _ _ G (lv_sub hl [0, 2] rfl)
      · have hf := it_t h hf
        refine lv_iconst (v := 1) hx hb dX12_starving_57 (by decide) ?_
        refine lv_iload_n hx hb dX12_starving_58 rfl (lv_at hl 2 rfl) ?_
        refine lv_ishl hx hb dX12_starving_59 ?_
        refine lv_goto (tgt := 64) hx hb dX12_starving_60 (by decide) ?_
        obtain rfl := Option.some.inj hf
        exact Jx4 _ _ _ G (lv_sub hl [0, 2] rfl)
set_option maxHeartbeats 4000000 in
set_option maxRecDepth 100000 in
theorem c_M_starving_m_M {l : Launch} {E : xE} {ad : Nat → Nat} {m_thrown m_trouble m_where m_taped m_size m_spot m_sort m_place m_number m_fault m_wrongAt m_acts m_images m_matchNow m_slopsNow m_matchesNow m_fedBest m_slopsBest m_sawBest m_leastNow m_stableNow m_fitsNow m_someNow m_everyNow m_askLeft tb_seats tb_slack tb_saw tb_quarrel tb_people tb_pairs tb_forks tb_unsures tb_trieds tb_fed : Int32} {m_rv : Value} {m_tape m_v m_x m_past m_kept m_slopped m_seatBest m_otherIn tb_seat tb_one tb_other tb_years tb_kind tb_unsure tb_may tb_tried : Nat → Int32} {m_word : Int64} {tb_name : Nat → Int64} {R0 : Int32 × Int32 × Int32 × Int32 × (Nat → Int32) × Int32 × Int32 × Int32 × (Nat → Int32)} (hf : f_M_starving m_v m_x m_slopped tb_seats tb_slack tb_people = some R0) : xI l E yX12_starving cX12_starving 3 (some .int) 5 109 [.ref (ad 0)] (wM E ad m_thrown m_trouble m_where m_rv m_tape m_taped m_size m_spot m_sort m_place m_number m_fault m_wrongAt m_word m_v m_x m_past m_kept m_acts m_images m_matchNow m_slopsNow m_matchesNow m_slopped m_seatBest m_fedBest m_slopsBest m_sawBest m_leastNow m_stableNow m_fitsNow m_someNow m_everyNow m_otherIn m_askLeft tb_seats tb_slack tb_saw tb_quarrel tb_people tb_pairs tb_forks tb_unsures tb_trieds tb_fed tb_seat tb_one tb_other tb_years tb_kind tb_unsure tb_may tb_tried tb_name) (wM E ad R0.2.1 R0.2.2.1 R0.2.2.2.1 m_rv m_tape m_taped m_size m_spot m_sort m_place m_number m_fault m_wrongAt m_word m_v R0.2.2.2.2.1 m_past m_kept m_acts m_images R0.2.2.2.2.2.1 R0.2.2.2.2.2.2.1 R0.2.2.2.2.2.2.2.1 R0.2.2.2.2.2.2.2.2 m_seatBest m_fedBest m_slopsBest m_sawBest m_leastNow m_stableNow m_fitsNow m_someNow m_everyNow m_otherIn m_askLeft tb_seats tb_slack tb_saw tb_quarrel tb_people tb_pairs tb_forks tb_unsures tb_trieds tb_fed tb_seat tb_one tb_other tb_years tb_kind tb_unsure tb_may tb_tried tb_name) R0.1 := by
  refine xI_of (by decide) (Nat.le_of_ble_eq_true rfl) (fun p e s m args below meth c A C ls hl G => ?_)
  have hx := C.1
  have hb := C.2.1
  have hl : lv_has ls 3 [(0, .ref (ad 0))] := hl
  unfold f_M_starving at hf
  refine lv_aload_n hx hb dX12_starving_0 rfl (lv_at hl 0 rfl) ?_
  refine lv_iconst (v := 0) hx hb dX12_starving_1 (by decide) ?_
  refine x_put (ws' := (wM E ad (0 : Int32) m_trouble m_where m_rv m_tape m_taped m_size m_spot m_sort m_place m_number m_fault m_wrongAt m_word m_v m_x m_past m_kept m_acts m_images m_matchNow m_slopsNow m_matchesNow m_slopped m_seatBest m_fedBest m_slopsBest m_sawBest m_leastNow m_stableNow m_fitsNow m_someNow m_everyNow m_otherIn m_askLeft tb_seats tb_slack tb_saw tb_quarrel tb_people tb_pairs tb_forks tb_unsures tb_trieds tb_fed tb_seat tb_one tb_other tb_years tb_kind tb_unsure tb_may tb_tried tb_name)) C G fX12_39 (wM_at0) rfl rfl (Nat.le_of_ble_eq_true rfl) wM_set_m_thrown dX12_starving_2 (fun H locs G => ?_)
  refine lv_aload_n hx hb dX12_starving_5 rfl (lv_at hl 0 rfl) ?_
  refine x_get C G fX12_298.g (wM_at0) rfl dX12_starving_6 ?_
  refine lv_ifnonnull (tgt := 18) hx hb dX12_starving_9 (by decide) ?_
  refine lv_aload_n hx hb dX12_starving_18 rfl (lv_at hl 0 rfl) ?_
  obtain ⟨x1, hc, hf⟩ := bd_go hf
  refine xV_V C G (c_M_works_m_M hc) mX12_works kX12_333 (wM_at0) rfl ⟨Nat.le_of_ble_eq_true rfl, Nat.le_of_ble_eq_true rfl⟩ rfl hl.1 rfl (Nat.le_of_ble_eq_true rfl) ⟨Nat.le_refl _, Nat.le_refl _⟩ dX12_starving_19 (fun H locs G => ?_)
  refine lv_aload_n hx hb dX12_starving_22 rfl (lv_at hl 0 rfl) ?_
  obtain ⟨x2, hc, hf⟩ := bd_go hf
  refine xI_V C G (c_M_matching_m_M hc) mX12_matching kX12_366 (wM_at0) rfl ⟨Nat.le_of_ble_eq_true rfl, Nat.le_of_ble_eq_true rfl⟩ rfl hl.1 rfl (Nat.le_of_ble_eq_true rfl) ⟨Nat.le_refl _, Nat.le_refl _⟩ dX12_starving_23 (fun hz H locs G => ?_)
  refine lv_pop hx hb dX12_starving_26 rfl ?_
  refine lv_iconst (v := 0) hx hb dX12_starving_27 (by decide) ?_
  refine lv_istore_n (lv' := [(1, .int (0 : Int32)), (0, .ref (ad 0))]) hx hb dX12_starving_28 rfl hl (by decide) rfl (fun ls hl => ?_)
  refine lv_iconst (v := 0) hx hb dX12_starving_29 (by decide) ?_
  refine lv_istore_n (lv' := [(2, .int (0 : Int32)), (1, .int (0 : Int32)), (0, .ref (ad 0))]) hx hb dX12_starving_30 rfl hl (by decide) rfl (fun ls hl => ?_)
  obtain ⟨x7, hr, hf⟩ := bd_go hf
  have Jx7 : ∀ (H : Heap) (locs : List Loc) (ls : Array Slot), xG s E A (wM E ad (0 : Int32) m_trouble m_where m_rv m_tape m_taped m_size m_spot m_sort m_place m_number m_fault m_wrongAt m_word m_v x1 m_past m_kept m_acts m_images x2.2.1 x2.2.2.1 x2.2.2.2.1 x2.2.2.2.2 m_seatBest m_fedBest m_slopsBest m_sawBest m_leastNow m_stableNow m_fitsNow m_someNow m_everyNow m_otherIn m_askLeft tb_seats tb_slack tb_saw tb_quarrel tb_people tb_pairs tb_forks tb_unsures tb_trieds tb_fed tb_seat tb_one tb_other tb_years tb_kind tb_unsure tb_may tb_tried tb_name) H locs → lv_has ls 3 [(0, .ref (ad 0)), (1, .int x7)] → W p l e (xR 5 109) s m args below meth c H locs 0 0 (MQ below (xqI E A (wM E ad R0.2.1 R0.2.2.1 R0.2.2.2.1 m_rv m_tape m_taped m_size m_spot m_sort m_place m_number m_fault m_wrongAt m_word m_v R0.2.2.2.2.1 m_past m_kept m_acts m_images R0.2.2.2.2.2.1 R0.2.2.2.2.2.2.1 R0.2.2.2.2.2.2.2.1 R0.2.2.2.2.2.2.2.2 m_seatBest m_fedBest m_slopsBest m_sawBest m_leastNow m_stableNow m_fitsNow m_someNow m_everyNow m_otherIn m_askLeft tb_seats tb_slack tb_saw tb_quarrel tb_people tb_pairs tb_forks tb_unsures tb_trieds tb_fed tb_seat tb_one tb_other tb_years tb_kind tb_unsure tb_may tb_tried tb_name) (some .int) R0.1) args s 0 0 A) (F0 m 72 ls []) := by
    intro H locs ls G hl
    refine lv_aload_n hx hb dX12_starving_72 rfl (lv_at hl 0 rfl) ?_
    refine lv_iload_n hx hb dX12_starving_73 rfl (lv_at hl 1 rfl) ?_
    obtain ⟨x8, hc, hf⟩ := bd_go hf
    refine xI_V C G (c_M_good_m_M hc) mX12_good kX12_49 (wM_at0) rfl ⟨Nat.le_of_ble_eq_true rfl, Nat.le_of_ble_eq_true rfl⟩ rfl hl.1 rfl (Nat.le_of_ble_eq_true rfl) ⟨Nat.le_refl _, Nat.le_refl _⟩ dX12_starving_74 (fun hz H locs G => ?_)
    obtain rfl := Option.some.inj hf
    exact xI_ret C G rfl dX12_starving_77
  exact w_M_starving_m_M_L31 C Jx7 fu _ _ _ _ _ G (lv_sub hl [2, 1, 0] rfl) hr
set_option maxHeartbeats 4000000 in
set_option maxRecDepth 100000 in
theorem c_M_matches_m_M {l : Launch} {E : xE} {ad : Nat → Nat} {m_thrown m_trouble m_where m_taped m_size m_spot m_sort m_place m_number m_fault m_wrongAt m_acts m_images m_matchNow m_slopsNow m_matchesNow m_fedBest m_slopsBest m_sawBest m_leastNow m_stableNow m_fitsNow m_someNow m_everyNow m_askLeft tb_seats tb_slack tb_saw tb_quarrel tb_people tb_pairs tb_forks tb_unsures tb_trieds tb_fed : Int32} {m_rv : Value} {m_tape m_v m_x m_past m_kept m_slopped m_seatBest m_otherIn tb_seat tb_one tb_other tb_years tb_kind tb_unsure tb_may tb_tried : Nat → Int32} {m_word : Int64} {tb_name : Nat → Int64} {R0 : Int32 × Int32 × Int32 × Int32 × (Nat → Int32) × Int32 × Int32 × Int32 × (Nat → Int32)} (hf : f_M_matches m_v m_x m_slopped tb_seats tb_slack = some R0) : xI l E yX12_matches cX12_matches 1 (some .int) 5 109 [.ref (ad 0)] (wM E ad m_thrown m_trouble m_where m_rv m_tape m_taped m_size m_spot m_sort m_place m_number m_fault m_wrongAt m_word m_v m_x m_past m_kept m_acts m_images m_matchNow m_slopsNow m_matchesNow m_slopped m_seatBest m_fedBest m_slopsBest m_sawBest m_leastNow m_stableNow m_fitsNow m_someNow m_everyNow m_otherIn m_askLeft tb_seats tb_slack tb_saw tb_quarrel tb_people tb_pairs tb_forks tb_unsures tb_trieds tb_fed tb_seat tb_one tb_other tb_years tb_kind tb_unsure tb_may tb_tried tb_name) (wM E ad R0.2.1 R0.2.2.1 R0.2.2.2.1 m_rv m_tape m_taped m_size m_spot m_sort m_place m_number m_fault m_wrongAt m_word m_v R0.2.2.2.2.1 m_past m_kept m_acts m_images R0.2.2.2.2.2.1 R0.2.2.2.2.2.2.1 R0.2.2.2.2.2.2.2.1 R0.2.2.2.2.2.2.2.2 m_seatBest m_fedBest m_slopsBest m_sawBest m_leastNow m_stableNow m_fitsNow m_someNow m_everyNow m_otherIn m_askLeft tb_seats tb_slack tb_saw tb_quarrel tb_people tb_pairs tb_forks tb_unsures tb_trieds tb_fed tb_seat tb_one tb_other tb_years tb_kind tb_unsure tb_may tb_tried tb_name) R0.1 := by
  refine xI_of (by decide) (Nat.le_of_ble_eq_true rfl) (fun p e s m args below meth c A C ls hl G => ?_)
  have hx := C.1
  have hb := C.2.1
  have hl : lv_has ls 1 [(0, .ref (ad 0))] := hl
  unfold f_M_matches at hf
  refine lv_aload_n hx hb dX12_matches_0 rfl (lv_at hl 0 rfl) ?_
  refine lv_iconst (v := 0) hx hb dX12_matches_1 (by decide) ?_
  refine x_put (ws' := (wM E ad (0 : Int32) m_trouble m_where m_rv m_tape m_taped m_size m_spot m_sort m_place m_number m_fault m_wrongAt m_word m_v m_x m_past m_kept m_acts m_images m_matchNow m_slopsNow m_matchesNow m_slopped m_seatBest m_fedBest m_slopsBest m_sawBest m_leastNow m_stableNow m_fitsNow m_someNow m_everyNow m_otherIn m_askLeft tb_seats tb_slack tb_saw tb_quarrel tb_people tb_pairs tb_forks tb_unsures tb_trieds tb_fed tb_seat tb_one tb_other tb_years tb_kind tb_unsure tb_may tb_tried tb_name)) C G fX12_39 (wM_at0) rfl rfl (Nat.le_of_ble_eq_true rfl) wM_set_m_thrown dX12_matches_2 (fun H locs G => ?_)
  refine lv_aload_n hx hb dX12_matches_5 rfl (lv_at hl 0 rfl) ?_
  refine x_get C G fX12_298.g (wM_at0) rfl dX12_matches_6 ?_
  refine lv_ifnonnull (tgt := 18) hx hb dX12_matches_9 (by decide) ?_
  refine lv_aload_n hx hb dX12_matches_18 rfl (lv_at hl 0 rfl) ?_
  obtain ⟨x1, hc, hf⟩ := bd_go hf
  refine xV_V C G (c_M_works_m_M hc) mX12_works kX12_333 (wM_at0) rfl ⟨Nat.le_of_ble_eq_true rfl, Nat.le_of_ble_eq_true rfl⟩ rfl hl.1 rfl (Nat.le_of_ble_eq_true rfl) ⟨Nat.le_refl _, Nat.le_refl _⟩ dX12_matches_19 (fun H locs G => ?_)
  refine lv_aload_n hx hb dX12_matches_22 rfl (lv_at hl 0 rfl) ?_
  obtain ⟨x2, hc, hf⟩ := bd_go hf
  refine xI_V C G (c_M_matching_m_M hc) mX12_matching kX12_366 (wM_at0) rfl ⟨Nat.le_of_ble_eq_true rfl, Nat.le_of_ble_eq_true rfl⟩ rfl hl.1 rfl (Nat.le_of_ble_eq_true rfl) ⟨Nat.le_refl _, Nat.le_refl _⟩ dX12_matches_23 (fun hz H locs G => ?_)
  refine lv_pop hx hb dX12_matches_26 rfl ?_
  refine lv_aload_n hx hb dX12_matches_27 rfl (lv_at hl 0 rfl) ?_
  refine lv_aload_n hx hb dX12_matches_28 rfl (lv_at hl 0 rfl) ?_
  refine x_get C G fX12_351.g (wM_at0) rfl dX12_matches_29 ?_
  obtain ⟨x3, hc, hf⟩ := bd_go hf
  refine xI_V C G (c_M_good_m_M hc) mX12_good kX12_49 (wM_at0) rfl ⟨Nat.le_of_ble_eq_true rfl, Nat.le_of_ble_eq_true rfl⟩ rfl hl.1 rfl (Nat.le_of_ble_eq_true rfl) ⟨Nat.le_refl _, Nat.le_refl _⟩ dX12_matches_32 (fun hz H locs G => ?_)
  obtain rfl := Option.some.inj hf
  exact xI_ret C G rfl dX12_matches_35
set_option maxHeartbeats 4000000 in
set_option maxRecDepth 100000 in
theorem c_M_refusesYears_m_M {l : Launch} {E : xE} {ad : Nat → Nat} {m_thrown m_trouble m_where m_taped m_size m_spot m_sort m_place m_number m_fault m_wrongAt m_acts m_images m_matchNow m_slopsNow m_matchesNow m_fedBest m_slopsBest m_sawBest m_leastNow m_stableNow m_fitsNow m_someNow m_everyNow m_askLeft tb_seats tb_slack tb_saw tb_quarrel tb_people tb_pairs tb_forks tb_unsures tb_trieds tb_fed : Int32} {m_rv : Value} {m_tape m_v m_x m_past m_kept m_slopped m_seatBest m_otherIn tb_seat tb_one tb_other tb_years tb_kind tb_unsure tb_may tb_tried : Nat → Int32} {m_word : Int64} {tb_name : Nat → Int64} {l1 : Int32} {l2 : Int32} {R0 : Int32} (hf : f_M_refusesYears l1 l2 = some R0) : xI l E yX12_refusesYears cX12_refusesYears 3 (some .int) 1 22 [.ref (ad 0), .int l1, .int l2] (wM E ad m_thrown m_trouble m_where m_rv m_tape m_taped m_size m_spot m_sort m_place m_number m_fault m_wrongAt m_word m_v m_x m_past m_kept m_acts m_images m_matchNow m_slopsNow m_matchesNow m_slopped m_seatBest m_fedBest m_slopsBest m_sawBest m_leastNow m_stableNow m_fitsNow m_someNow m_everyNow m_otherIn m_askLeft tb_seats tb_slack tb_saw tb_quarrel tb_people tb_pairs tb_forks tb_unsures tb_trieds tb_fed tb_seat tb_one tb_other tb_years tb_kind tb_unsure tb_may tb_tried tb_name) (wM E ad m_thrown m_trouble m_where m_rv m_tape m_taped m_size m_spot m_sort m_place m_number m_fault m_wrongAt m_word m_v m_x m_past m_kept m_acts m_images m_matchNow m_slopsNow m_matchesNow m_slopped m_seatBest m_fedBest m_slopsBest m_sawBest m_leastNow m_stableNow m_fitsNow m_someNow m_everyNow m_otherIn m_askLeft tb_seats tb_slack tb_saw tb_quarrel tb_people tb_pairs tb_forks tb_unsures tb_trieds tb_fed tb_seat tb_one tb_other tb_years tb_kind tb_unsure tb_may tb_tried tb_name) R0 := by
  refine xI_of (by decide) (Nat.le_of_ble_eq_true rfl) (fun p e s m args below meth c A C ls hl G => ?_)
  have hx := C.1
  have hb := C.2.1
  have hl : lv_has ls 3 [(0, .ref (ad 0)), (1, .int l1), (2, .int l2)] := hl
  unfold f_M_refusesYears at hf
  refine lv_iload_n hx hb dX12_refusesYears_0 rfl (lv_at hl 1 rfl) ?_
  refine lv_if_ne (tgt := 8) hx hb dX12_refusesYears_1 (by decide) (fun h => ?_) (fun h => ?_)
  · have hf := it_f h hf
    refine lv_iload_n hx hb dX12_refusesYears_8 rfl (lv_at hl 2 rfl) ?_
    refine lv_iconst (v := 0) hx hb dX12_refusesYears_9 (by decide) ?_
    refine lv_bipush (v := 60) hx hb dX12_refusesYears_10 (by decide) ?_
    obtain ⟨x1, hc, hf⟩ := bd_go hf
    refine xI_S C G (c_M_in_any hc) mX12_in kX12_118 ⟨Nat.le_of_ble_eq_true rfl, Nat.le_of_ble_eq_true rfl⟩ rfl hl.1 rfl (Nat.le_of_ble_eq_true rfl) ⟨Nat.le_refl _, Nat.le_refl _⟩ dX12_refusesYears_12 (fun hz1 H locs G => ?_)
    refine lv_if_eq (tgt := 22) hx hb dX12_refusesYears_15 (by decide) (fun h => ?_) (fun h => ?_)
    · have hf := it_t h hf
      refine lv_iconst (v := 2) hx hb dX12_refusesYears_22 (by decide) ?_
      obtain rfl := Option.some.inj hf
      exact xI_ret C G rfl dX12_refusesYears_23
    · have hf := it_f h hf
      refine lv_iconst (v := 0) hx hb dX12_refusesYears_18 (by decide) ?_
      refine lv_goto (tgt := 23) hx hb dX12_refusesYears_19 (by decide) ?_
      obtain rfl := Option.some.inj hf
      exact xI_ret C G rfl dX12_refusesYears_23
  · have hf := it_t h hf
    refine lv_iconst (v := 1) hx hb dX12_refusesYears_4 (by decide) ?_
    refine lv_goto (tgt := 23) hx hb dX12_refusesYears_5 (by decide) ?_
    obtain rfl := Option.some.inj hf
    exact xI_ret C G rfl dX12_refusesYears_23
set_option maxHeartbeats 4000000 in
set_option maxRecDepth 100000 in
theorem w_M_worksIn_m_M_L6 {p : Program} {l : Launch} {e : Env} {s : State} {m : MethodId} {args : Array Value} {below : List Frame} {meth : Method} {c : Code} {A : Nat → Prop} {E : xE} {Q : State → Prop} {ad : Nat → Nat} {m_thrown m_trouble m_where m_taped m_size m_spot m_sort m_place m_number m_fault m_wrongAt m_acts m_images m_matchNow m_slopsNow m_matchesNow m_fedBest m_slopsBest m_sawBest m_leastNow m_stableNow m_fitsNow m_someNow m_everyNow m_askLeft tb_seats tb_slack tb_saw tb_quarrel tb_people tb_pairs tb_forks tb_unsures tb_trieds tb_fed : Int32} {m_rv : Value} {m_tape m_v m_past m_kept m_slopped m_seatBest m_otherIn tb_seat tb_one tb_other tb_years tb_kind tb_unsure tb_may tb_tried : Nat → Int32} {m_word : Int64} {tb_name : Nat → Int64} {l1 : Int32} {o : (Nat → Int32)} (C : xC p s m args meth c cX12_worksIn 3 RX12 E A none) (J : ∀ (H : Heap) (locs : List Loc) (ls : Array Slot), xG s E A (wM E ad m_thrown m_trouble m_where m_rv m_tape m_taped m_size m_spot m_sort m_place m_number m_fault m_wrongAt m_word m_v o m_past m_kept m_acts m_images m_matchNow m_slopsNow m_matchesNow m_slopped m_seatBest m_fedBest m_slopsBest m_sawBest m_leastNow m_stableNow m_fitsNow m_someNow m_everyNow m_otherIn m_askLeft tb_seats tb_slack tb_saw tb_quarrel tb_people tb_pairs tb_forks tb_unsures tb_trieds tb_fed tb_seat tb_one tb_other tb_years tb_kind tb_unsure tb_may tb_tried tb_name) H locs → lv_has ls 3 [] → W p l e (xR 1 21) s m args below meth c H locs 0 0 Q (F0 m 36 ls [])) :
    ∀ (n : Nat) (l2 : Int32) (m_x : Nat → Int32) (H : Heap) (locs : List Loc) (ls : Array Slot), xG s E A (wM E ad m_thrown m_trouble m_where m_rv m_tape m_taped m_size m_spot m_sort m_place m_number m_fault m_wrongAt m_word m_v m_x m_past m_kept m_acts m_images m_matchNow m_slopsNow m_matchesNow m_slopped m_seatBest m_fedBest m_slopsBest m_sawBest m_leastNow m_stableNow m_fitsNow m_someNow m_everyNow m_otherIn m_askLeft tb_seats tb_slack tb_saw tb_quarrel tb_people tb_pairs tb_forks tb_unsures tb_trieds tb_fed tb_seat tb_one tb_other tb_years tb_kind tb_unsure tb_may tb_tried tb_name) H locs → lv_has ls 3 [(0, .ref (ad 0)), (1, .int l1), (2, .int l2)] → f_M_worksIn_L6 l1 n l2 m_x = some o → W p l e (xR 1 21) s m args below meth c H locs 0 0 Q (F0 m 6 ls []) := by
  have hx := C.1
  have hb := C.2.1
  intro n
  induction n with
  | zero =>
    intro l2 m_x H locs ls G hl hf
    exact nomatch (show (none : Option ((Nat → Int32))) = some o from hf)
  | succ n ih =>
    intro l2 m_x H locs ls G hl hf
    rw [f_M_worksIn_L6] at hf
    refine lv_iload_n hx hb dX12_worksIn_6 rfl (lv_at hl 2 rfl) ?_
    refine lv_aload_n hx hb dX12_worksIn_7 rfl (lv_at hl 0 rfl) ?_
    refine x_get C G fX12_21 (wM_at0) rfl dX12_worksIn_8 ?_
    refine lv_bipush (v := 55) hx hb dX12_worksIn_11 (by decide) ?_
    have hi := ck_in hf
    have hf := ck_go hf
    refine x_iald C G (wM_at3) hi dX12_worksIn_13 ?_
    refine lv_icmp_ge (tgt := 36) hx hb dX12_worksIn_14 (by decide) (fun h => ?_) (fun h => ?_)
    · have hf := it_t h hf
      obtain rfl := Option.some.inj hf
      exact J _ _ _ G (lv_sub hl [] rfl)
    · have hf := it_f h hf
      refine lv_aload_n hx hb dX12_worksIn_17 rfl (lv_at hl 0 rfl) ?_
      refine x_get C G fX12_21 (wM_at0) rfl dX12_worksIn_18 ?_
      refine lv_bipush (v := 25) hx hb dX12_worksIn_21 (by decide) ?_
      refine lv_iload_n hx hb dX12_worksIn_23 rfl (lv_at hl 2 rfl) ?_
      refine lv_iadd hx hb dX12_worksIn_24 ?_
      refine lv_topi (fun x2 ex2 => ?_)
      have hf := lt_go ex2 hf
      refine lv_dup2_11 hx hb dX12_worksIn_25 rfl rfl ?_
      have hi := ck_in hf
      have hf := ck_go hf
      refine x_iald C G (wM_at3) hi dX12_worksIn_26 ?_
      refine lv_iload_n hx hb dX12_worksIn_27 rfl (lv_at hl 1 rfl) ?_
      refine lv_iadd hx hb dX12_worksIn_28 ?_
      have hi := ck_in hf
      have hf := ck_go hf
      refine x_iast (ws' := (wM E ad m_thrown m_trouble m_where m_rv m_tape m_taped m_size m_spot m_sort m_place m_number m_fault m_wrongAt m_word m_v (upd m_x x2.toNatClampNeg ((m_x x2.toNatClampNeg) + l1)) m_past m_kept m_acts m_images m_matchNow m_slopsNow m_matchesNow m_slopped m_seatBest m_fedBest m_slopsBest m_sawBest m_leastNow m_stableNow m_fitsNow m_someNow m_everyNow m_otherIn m_askLeft tb_seats tb_slack tb_saw tb_quarrel tb_people tb_pairs tb_forks tb_unsures tb_trieds tb_fed tb_seat tb_one tb_other tb_years tb_kind tb_unsure tb_may tb_tried tb_name)) C G (wM_at3) hi wM_set_m_x dX12_worksIn_29 (fun H locs G => ?_)
      obtain ⟨x3, ex3⟩ : ∃ z : Int32, z = l2 + (1 : Int32) := ⟨_, rfl⟩
      have hf := lt_go ex3 hf
      refine lv_iinc (v := x3) (lv' := [(2, .int x3), (0, .ref (ad 0)), (1, .int l1)]) hx hb dX12_worksIn_30 hl (k := 2) rfl (by rw [ex3]; rfl) (by decide) rfl (fun ls hl => ?_)
      refine lv_goto (tgt := 6) hx hb dX12_worksIn_33 (by decide) ?_
      exact ih x3 (upd m_x x2.toNatClampNeg ((m_x x2.toNatClampNeg) + l1)) _ _ _ G (lv_sub hl [1, 2, 0] rfl) hf
set_option maxHeartbeats 4000000 in
set_option maxRecDepth 100000 in
theorem c_M_worksIn_m_M {l : Launch} {E : xE} {ad : Nat → Nat} {m_thrown m_trouble m_where m_taped m_size m_spot m_sort m_place m_number m_fault m_wrongAt m_acts m_images m_matchNow m_slopsNow m_matchesNow m_fedBest m_slopsBest m_sawBest m_leastNow m_stableNow m_fitsNow m_someNow m_everyNow m_askLeft tb_seats tb_slack tb_saw tb_quarrel tb_people tb_pairs tb_forks tb_unsures tb_trieds tb_fed : Int32} {m_rv : Value} {m_tape m_v m_x m_past m_kept m_slopped m_seatBest m_otherIn tb_seat tb_one tb_other tb_years tb_kind tb_unsure tb_may tb_tried : Nat → Int32} {m_word : Int64} {tb_name : Nat → Int64} {l1 : Int32} {R0 : (Nat → Int32)} (hf : f_M_worksIn l1 m_v m_x = some R0) : xV l E yX12_worksIn cX12_worksIn 3 none 1 21 [.ref (ad 0), .int l1] (wM E ad m_thrown m_trouble m_where m_rv m_tape m_taped m_size m_spot m_sort m_place m_number m_fault m_wrongAt m_word m_v m_x m_past m_kept m_acts m_images m_matchNow m_slopsNow m_matchesNow m_slopped m_seatBest m_fedBest m_slopsBest m_sawBest m_leastNow m_stableNow m_fitsNow m_someNow m_everyNow m_otherIn m_askLeft tb_seats tb_slack tb_saw tb_quarrel tb_people tb_pairs tb_forks tb_unsures tb_trieds tb_fed tb_seat tb_one tb_other tb_years tb_kind tb_unsure tb_may tb_tried tb_name) (wM E ad m_thrown m_trouble m_where m_rv m_tape m_taped m_size m_spot m_sort m_place m_number m_fault m_wrongAt m_word m_v R0 m_past m_kept m_acts m_images m_matchNow m_slopsNow m_matchesNow m_slopped m_seatBest m_fedBest m_slopsBest m_sawBest m_leastNow m_stableNow m_fitsNow m_someNow m_everyNow m_otherIn m_askLeft tb_seats tb_slack tb_saw tb_quarrel tb_people tb_pairs tb_forks tb_unsures tb_trieds tb_fed tb_seat tb_one tb_other tb_years tb_kind tb_unsure tb_may tb_tried tb_name) := by
  refine xV_of (by decide) (Nat.le_of_ble_eq_true rfl) (fun p e s m args below meth c A C ls hl G => ?_)
  have hx := C.1
  have hb := C.2.1
  have hl : lv_has ls 3 [(0, .ref (ad 0)), (1, .int l1)] := hl
  unfold f_M_worksIn at hf
  refine lv_aload_n hx hb dX12_worksIn_0 rfl (lv_at hl 0 rfl) ?_
  obtain ⟨x1, hc, hf⟩ := bd_go hf
  refine xV_V C G (c_M_works_m_M hc) mX12_works kX12_333 (wM_at0) rfl ⟨Nat.le_of_ble_eq_true rfl, Nat.le_of_ble_eq_true rfl⟩ rfl hl.1 rfl (Nat.le_of_ble_eq_true rfl) ⟨Nat.le_refl _, Nat.le_refl _⟩ dX12_worksIn_1 (fun H locs G => ?_)
  refine lv_iconst (v := 0) hx hb dX12_worksIn_4 (by decide) ?_
  refine lv_istore_n (lv' := [(2, .int (0 : Int32)), (0, .ref (ad 0)), (1, .int l1)]) hx hb dX12_worksIn_5 rfl hl (by decide) rfl (fun ls hl => ?_)
  obtain ⟨x4, hr, hf⟩ := bd_go hf
  have Jx4 : ∀ (H : Heap) (locs : List Loc) (ls : Array Slot), xG s E A (wM E ad m_thrown m_trouble m_where m_rv m_tape m_taped m_size m_spot m_sort m_place m_number m_fault m_wrongAt m_word m_v x4 m_past m_kept m_acts m_images m_matchNow m_slopsNow m_matchesNow m_slopped m_seatBest m_fedBest m_slopsBest m_sawBest m_leastNow m_stableNow m_fitsNow m_someNow m_everyNow m_otherIn m_askLeft tb_seats tb_slack tb_saw tb_quarrel tb_people tb_pairs tb_forks tb_unsures tb_trieds tb_fed tb_seat tb_one tb_other tb_years tb_kind tb_unsure tb_may tb_tried tb_name) H locs → lv_has ls 3 [] → W p l e (xR 1 21) s m args below meth c H locs 0 0 (MQ below (xqV E A (wM E ad m_thrown m_trouble m_where m_rv m_tape m_taped m_size m_spot m_sort m_place m_number m_fault m_wrongAt m_word m_v R0 m_past m_kept m_acts m_images m_matchNow m_slopsNow m_matchesNow m_slopped m_seatBest m_fedBest m_slopsBest m_sawBest m_leastNow m_stableNow m_fitsNow m_someNow m_everyNow m_otherIn m_askLeft tb_seats tb_slack tb_saw tb_quarrel tb_people tb_pairs tb_forks tb_unsures tb_trieds tb_fed tb_seat tb_one tb_other tb_years tb_kind tb_unsure tb_may tb_tried tb_name)) args s 0 0 A) (F0 m 36 ls []) := by
    intro H locs ls G hl
    obtain rfl := Option.some.inj hf
    exact xV_ret C G dX12_worksIn_36
  exact w_M_worksIn_m_M_L6 C Jx4 fu _ _ _ _ _ G (lv_sub hl [1, 2, 0] rfl) hr
set_option maxHeartbeats 4000000 in
set_option maxRecDepth 100000 in
theorem c_M_handleIn_m_M {l : Launch} {E : xE} {ad : Nat → Nat} {m_thrown m_trouble m_where m_taped m_size m_spot m_sort m_place m_number m_fault m_wrongAt m_acts m_images m_matchNow m_slopsNow m_matchesNow m_fedBest m_slopsBest m_sawBest m_leastNow m_stableNow m_fitsNow m_someNow m_everyNow m_askLeft tb_seats tb_slack tb_saw tb_quarrel tb_people tb_pairs tb_forks tb_unsures tb_trieds tb_fed : Int32} {m_rv : Value} {m_tape m_v m_x m_past m_kept m_slopped m_seatBest m_otherIn tb_seat tb_one tb_other tb_years tb_kind tb_unsure tb_may tb_tried : Nat → Int32} {m_word : Int64} {tb_name : Nat → Int64} {l1 : Int32} {l2 : Int32} {R0 : Int32 × Int32 × Int32 × Int32 × (Nat → Int32)} (hf : f_M_handleIn l1 l2 m_v m_x = some R0) : xI l E yX12_handleIn cX12_handleIn 4 (some .int) 2 44 [.ref (ad 0), .int l1, .int l2] (wM E ad m_thrown m_trouble m_where m_rv m_tape m_taped m_size m_spot m_sort m_place m_number m_fault m_wrongAt m_word m_v m_x m_past m_kept m_acts m_images m_matchNow m_slopsNow m_matchesNow m_slopped m_seatBest m_fedBest m_slopsBest m_sawBest m_leastNow m_stableNow m_fitsNow m_someNow m_everyNow m_otherIn m_askLeft tb_seats tb_slack tb_saw tb_quarrel tb_people tb_pairs tb_forks tb_unsures tb_trieds tb_fed tb_seat tb_one tb_other tb_years tb_kind tb_unsure tb_may tb_tried tb_name) (wM E ad R0.2.1 R0.2.2.1 R0.2.2.2.1 m_rv m_tape m_taped m_size m_spot m_sort m_place m_number m_fault m_wrongAt m_word m_v R0.2.2.2.2 m_past m_kept m_acts m_images m_matchNow m_slopsNow m_matchesNow m_slopped m_seatBest m_fedBest m_slopsBest m_sawBest m_leastNow m_stableNow m_fitsNow m_someNow m_everyNow m_otherIn m_askLeft tb_seats tb_slack tb_saw tb_quarrel tb_people tb_pairs tb_forks tb_unsures tb_trieds tb_fed tb_seat tb_one tb_other tb_years tb_kind tb_unsure tb_may tb_tried tb_name) R0.1 := by
  refine xI_of (by decide) (Nat.le_of_ble_eq_true rfl) (fun p e s m args below meth c A C ls hl G => ?_)
  have hx := C.1
  have hb := C.2.1
  have hl : lv_has ls 4 [(0, .ref (ad 0)), (1, .int l1), (2, .int l2)] := hl
  unfold f_M_handleIn at hf
  refine lv_aload_n hx hb dX12_handleIn_0 rfl (lv_at hl 0 rfl) ?_
  refine lv_iconst (v := 0) hx hb dX12_handleIn_1 (by decide) ?_
  refine x_put (ws' := (wM E ad (0 : Int32) m_trouble m_where m_rv m_tape m_taped m_size m_spot m_sort m_place m_number m_fault m_wrongAt m_word m_v m_x m_past m_kept m_acts m_images m_matchNow m_slopsNow m_matchesNow m_slopped m_seatBest m_fedBest m_slopsBest m_sawBest m_leastNow m_stableNow m_fitsNow m_someNow m_everyNow m_otherIn m_askLeft tb_seats tb_slack tb_saw tb_quarrel tb_people tb_pairs tb_forks tb_unsures tb_trieds tb_fed tb_seat tb_one tb_other tb_years tb_kind tb_unsure tb_may tb_tried tb_name)) C G fX12_39 (wM_at0) rfl rfl (Nat.le_of_ble_eq_true rfl) wM_set_m_thrown dX12_handleIn_2 (fun H locs G => ?_)
  refine lv_aload_n hx hb dX12_handleIn_5 rfl (lv_at hl 0 rfl) ?_
  refine lv_aload_n hx hb dX12_handleIn_6 rfl (lv_at hl 0 rfl) ?_
  refine lv_iload_n hx hb dX12_handleIn_7 rfl (lv_at hl 1 rfl) ?_
  obtain ⟨x1, hc, hf⟩ := bd_go hf
  refine xI_V C G (c_M_isPair_m_M hc) mX12_isPair kX12_330 (wM_at0) rfl ⟨Nat.le_of_ble_eq_true rfl, Nat.le_of_ble_eq_true rfl⟩ rfl hl.1 rfl (Nat.le_of_ble_eq_true rfl) ⟨Nat.le_refl _, Nat.le_refl _⟩ dX12_handleIn_8 (fun hz1 H locs G => ?_)
  refine lv_iload_n hx hb dX12_handleIn_11 rfl (lv_at hl 2 rfl) ?_
  obtain ⟨x2, hc, hf⟩ := bd_go hf
  refine xI_V C G (c_M_refusesYears_m_M hc) mX12_refusesYears kX12_372 (wM_at0) rfl ⟨Nat.le_of_ble_eq_true rfl, Nat.le_of_ble_eq_true rfl⟩ rfl hl.1 rfl (Nat.le_of_ble_eq_true rfl) ⟨Nat.le_refl _, Nat.le_refl _⟩ dX12_handleIn_12 (fun hz H locs G => ?_)
  refine lv_istore_n (lv' := [(3, .int x2), (0, .ref (ad 0)), (1, .int l1), (2, .int l2)]) hx hb dX12_handleIn_15 rfl hl (by decide) rfl (fun ls hl => ?_)
  refine lv_iload_n hx hb dX12_handleIn_16 rfl (lv_at hl 0 rfl) ?_
  refine lv_if_le (tgt := 26) hx hb dX12_handleIn_17 (by decide) (fun h => ?_) (fun h => ?_)
  · have hf := it_t h hf
    refine lv_aload_n hx hb dX12_handleIn_26 rfl (lv_at hl 1 rfl) ?_
    refine lv_iload_n hx hb dX12_handleIn_27 rfl (lv_at hl 3 rfl) ?_
    obtain ⟨x3, hc, hf⟩ := bd_go hf
    refine xV_V C G (c_M_worksIn_m_M hc) mX12_worksIn kX12_376 (wM_at0) rfl ⟨Nat.le_of_ble_eq_true rfl, Nat.le_of_ble_eq_true rfl⟩ rfl hl.1 rfl (Nat.le_of_ble_eq_true rfl) ⟨Nat.le_refl _, Nat.le_refl _⟩ dX12_handleIn_28 (fun H locs G => ?_)
    refine lv_aload_n hx hb dX12_handleIn_31 rfl (lv_at hl 1 rfl) ?_
    refine lv_aload_n hx hb dX12_handleIn_32 rfl (lv_at hl 1 rfl) ?_
    refine lv_iload_n hx hb dX12_handleIn_33 rfl (lv_at hl 2 rfl) ?_
    obtain ⟨x4, hc, hf⟩ := bd_go hf
    refine xI_V C G (c_M_handleOf_m_M hc) mX12_handleOf kX12_321 (wM_at0) rfl ⟨Nat.le_of_ble_eq_true rfl, Nat.le_of_ble_eq_true rfl⟩ rfl hl.1 rfl (Nat.le_of_ble_eq_true rfl) ⟨Nat.le_refl _, Nat.le_refl _⟩ dX12_handleIn_34 (fun hz H locs G => ?_)
    obtain ⟨x5, hc, hf⟩ := bd_go hf
    refine xI_V C G (c_M_good_m_M hc) mX12_good kX12_49 (wM_at0) rfl ⟨Nat.le_of_ble_eq_true rfl, Nat.le_of_ble_eq_true rfl⟩ rfl hl.1 rfl (Nat.le_of_ble_eq_true rfl) ⟨Nat.le_refl _, Nat.le_refl _⟩ dX12_handleIn_37 (fun hz H locs G => ?_)
    obtain rfl := Option.some.inj hf
    exact xI_ret C G rfl dX12_handleIn_40
  · have hf := it_f h hf
    refine lv_aload_n hx hb dX12_handleIn_20 rfl (lv_at hl 1 rfl) ?_
    refine lv_iload_n hx hb dX12_handleIn_21 rfl (lv_at hl 0 rfl) ?_
    obtain ⟨x6, hc, hf⟩ := bd_go hf
    refine xI_V C G (c_M_refused_m_M hc) mX12_refused kX12_45 (wM_at0) rfl ⟨Nat.le_of_ble_eq_true rfl, Nat.le_of_ble_eq_true rfl⟩ rfl hl.1 rfl (Nat.le_of_ble_eq_true rfl) ⟨Nat.le_refl _, Nat.le_refl _⟩ dX12_handleIn_22 (fun hz H locs G => ?_)
    obtain rfl := Option.some.inj hf
    exact xI_ret C G rfl dX12_handleIn_25
set_option maxHeartbeats 4000000 in
set_option maxRecDepth 100000 in
theorem w_M_feedsIn_m_M_L21 {p : Program} {l : Launch} {e : Env} {s : State} {m : MethodId} {args : Array Value} {below : List Frame} {meth : Method} {c : Code} {A : Nat → Prop} {E : xE} {ad : Nat → Nat} {m_thrown m_trouble m_where m_taped m_size m_spot m_sort m_place m_number m_fault m_wrongAt m_acts m_images m_matchNow m_slopsNow m_matchesNow m_fedBest m_slopsBest m_sawBest m_leastNow m_stableNow m_fitsNow m_someNow m_everyNow m_askLeft tb_seats tb_slack tb_saw tb_quarrel tb_people tb_pairs tb_forks tb_unsures tb_trieds tb_fed : Int32} {m_rv : Value} {m_tape m_v m_past m_kept m_slopped m_seatBest m_otherIn tb_seat tb_one tb_other tb_years tb_kind tb_unsure tb_may tb_tried : Nat → Int32} {m_word : Int64} {tb_name : Nat → Int64} {l1 : Int32} {o : (Int32 × Int32 × Int32 × Int32 × (Nat → Int32)) ⊕ (Int32 × Int32 × (Nat → Int32))} {R0 : Int32 × Int32 × Int32 × Int32 × (Nat → Int32)} (C : xC p s m args meth c cX12_feedsIn 3 RX12 E A (some .int)) (Jr : ∀ r, o = .inl r → r = R0) (J : ∀ t, o = .inr t → ∀ (H : Heap) (locs : List Loc) (ls : Array Slot), xG s E A (wM E ad m_thrown t.1 t.2.1 m_rv m_tape m_taped m_size m_spot m_sort m_place m_number m_fault m_wrongAt m_word m_v t.2.2 m_past m_kept m_acts m_images m_matchNow m_slopsNow m_matchesNow m_slopped m_seatBest m_fedBest m_slopsBest m_sawBest m_leastNow m_stableNow m_fitsNow m_someNow m_everyNow m_otherIn m_askLeft tb_seats tb_slack tb_saw tb_quarrel tb_people tb_pairs tb_forks tb_unsures tb_trieds tb_fed tb_seat tb_one tb_other tb_years tb_kind tb_unsure tb_may tb_tried tb_name) H locs → lv_has ls 3 [(0, .ref (ad 0))] → W p l e (xR 4 87) s m args below meth c H locs 0 0 (MQ below (xqI E A (wM E ad R0.2.1 R0.2.2.1 R0.2.2.2.1 m_rv m_tape m_taped m_size m_spot m_sort m_place m_number m_fault m_wrongAt m_word m_v R0.2.2.2.2 m_past m_kept m_acts m_images m_matchNow m_slopsNow m_matchesNow m_slopped m_seatBest m_fedBest m_slopsBest m_sawBest m_leastNow m_stableNow m_fitsNow m_someNow m_everyNow m_otherIn m_askLeft tb_seats tb_slack tb_saw tb_quarrel tb_people tb_pairs tb_forks tb_unsures tb_trieds tb_fed tb_seat tb_one tb_other tb_years tb_kind tb_unsure tb_may tb_tried tb_name) (some .int) R0.1) args s 0 0 A) (F0 m 52 ls [])) :
    ∀ (n : Nat) (l2 : Int32) (m_x : Nat → Int32) (H : Heap) (locs : List Loc) (ls : Array Slot), xG s E A (wM E ad m_thrown m_trouble m_where m_rv m_tape m_taped m_size m_spot m_sort m_place m_number m_fault m_wrongAt m_word m_v m_x m_past m_kept m_acts m_images m_matchNow m_slopsNow m_matchesNow m_slopped m_seatBest m_fedBest m_slopsBest m_sawBest m_leastNow m_stableNow m_fitsNow m_someNow m_everyNow m_otherIn m_askLeft tb_seats tb_slack tb_saw tb_quarrel tb_people tb_pairs tb_forks tb_unsures tb_trieds tb_fed tb_seat tb_one tb_other tb_years tb_kind tb_unsure tb_may tb_tried tb_name) H locs → lv_has ls 3 [(0, .ref (ad 0)), (1, .int l1), (2, .int l2)] → f_M_feedsIn_L21 l1 m_thrown m_trouble m_where m_v tb_slack n l2 m_x = some o → W p l e (xR 4 87) s m args below meth c H locs 0 0 (MQ below (xqI E A (wM E ad R0.2.1 R0.2.2.1 R0.2.2.2.1 m_rv m_tape m_taped m_size m_spot m_sort m_place m_number m_fault m_wrongAt m_word m_v R0.2.2.2.2 m_past m_kept m_acts m_images m_matchNow m_slopsNow m_matchesNow m_slopped m_seatBest m_fedBest m_slopsBest m_sawBest m_leastNow m_stableNow m_fitsNow m_someNow m_everyNow m_otherIn m_askLeft tb_seats tb_slack tb_saw tb_quarrel tb_people tb_pairs tb_forks tb_unsures tb_trieds tb_fed tb_seat tb_one tb_other tb_years tb_kind tb_unsure tb_may tb_tried tb_name) (some .int) R0.1) args s 0 0 A) (F0 m 21 ls []) := by
  have hx := C.1
  have hb := C.2.1
  intro n
  induction n with
  | zero =>
    intro l2 m_x H locs ls G hl hf
    exact nomatch (show (none : Option ((Int32 × Int32 × Int32 × Int32 × (Nat → Int32)) ⊕ (Int32 × Int32 × (Nat → Int32)))) = some o from hf)
  | succ n ih =>
    intro l2 m_x H locs ls G hl hf
    rw [f_M_feedsIn_L21] at hf
    refine lv_iload_n hx hb dX12_feedsIn_21 rfl (lv_at hl 2 rfl) ?_
    refine lv_bipush (v := 60) hx hb dX12_feedsIn_22 (by decide) ?_
    refine lv_icmp_gt (tgt := 52) hx hb dX12_feedsIn_24 (by decide) (fun h => ?_) (fun h => ?_)
    · have hf := it_t h hf
      exact J _ (Option.some.inj hf).symm _ _ _ G (lv_sub hl [0] rfl)
    · have hf := it_f h hf
      refine lv_aload_n hx hb dX12_feedsIn_27 rfl (lv_at hl 0 rfl) ?_
      refine lv_iload_n hx hb dX12_feedsIn_28 rfl (lv_at hl 2 rfl) ?_
      obtain ⟨x2, hc, hf⟩ := bd_go hf
      refine xV_V C G (c_M_worksIn_m_M hc) mX12_worksIn kX12_376 (wM_at0) rfl ⟨Nat.le_of_ble_eq_true rfl, Nat.le_of_ble_eq_true rfl⟩ rfl hl.1 rfl (Nat.le_of_ble_eq_true rfl) ⟨Nat.le_refl _, Nat.le_refl _⟩ dX12_feedsIn_29 (fun H locs G => ?_)
      refine lv_aload_n hx hb dX12_feedsIn_32 rfl (lv_at hl 0 rfl) ?_
      refine lv_iload_n hx hb dX12_feedsIn_33 rfl (lv_at hl 1 rfl) ?_
      obtain ⟨x3, hc, hf⟩ := bd_go hf
      refine xI_V C G (c_M_isFeeding_m_M hc) mX12_isFeeding kX12_336 (wM_at0) rfl ⟨Nat.le_of_ble_eq_true rfl, Nat.le_of_ble_eq_true rfl⟩ rfl hl.1 rfl (Nat.le_of_ble_eq_true rfl) ⟨Nat.le_refl _, Nat.le_refl _⟩ dX12_feedsIn_34 (fun hz3 H locs G => ?_)
      refine lv_if_eq (tgt := 46) hx hb dX12_feedsIn_37 (by decide) (fun h => ?_) (fun h => ?_)
      · have hf := it_t h hf
        obtain ⟨x4, ex4⟩ : ∃ z : Int32, z = l2 + (1 : Int32) := ⟨_, rfl⟩
        have hf := lt_go ex4 hf
        refine lv_iinc (v := x4) (lv' := [(2, .int x4), (0, .ref (ad 0)), (1, .int l1)]) hx hb dX12_feedsIn_46 hl (k := 2) rfl (by rw [ex4]; rfl) (by decide) rfl (fun ls hl => ?_)
        refine lv_goto (tgt := 21) hx hb dX12_feedsIn_49 (by decide) ?_
        exact ih x4 x2 _ _ _ G (lv_sub hl [1, 2, 0] rfl) hf
      · have hf := it_f h hf
        refine lv_aload_n hx hb dX12_feedsIn_40 rfl (lv_at hl 0 rfl) ?_
        refine lv_iload_n hx hb dX12_feedsIn_41 rfl (lv_at hl 2 rfl) ?_
        obtain ⟨x5, hc, hf⟩ := bd_go hf
        refine xI_V C G (c_M_good_m_M hc) mX12_good kX12_49 (wM_at0) rfl ⟨Nat.le_of_ble_eq_true rfl, Nat.le_of_ble_eq_true rfl⟩ rfl hl.1 rfl (Nat.le_of_ble_eq_true rfl) ⟨Nat.le_refl _, Nat.le_refl _⟩ dX12_feedsIn_42 (fun hz H locs G => ?_)
        obtain rfl := Jr _ (Option.some.inj hf).symm
        exact xI_ret C G rfl dX12_feedsIn_45
set_option maxHeartbeats 4000000 in
set_option maxRecDepth 100000 in
theorem c_M_feedsIn_m_M {l : Launch} {E : xE} {ad : Nat → Nat} {m_thrown m_trouble m_where m_taped m_size m_spot m_sort m_place m_number m_fault m_wrongAt m_acts m_images m_matchNow m_slopsNow m_matchesNow m_fedBest m_slopsBest m_sawBest m_leastNow m_stableNow m_fitsNow m_someNow m_everyNow m_askLeft tb_seats tb_slack tb_saw tb_quarrel tb_people tb_pairs tb_forks tb_unsures tb_trieds tb_fed : Int32} {m_rv : Value} {m_tape m_v m_x m_past m_kept m_slopped m_seatBest m_otherIn tb_seat tb_one tb_other tb_years tb_kind tb_unsure tb_may tb_tried : Nat → Int32} {m_word : Int64} {tb_name : Nat → Int64} {l1 : Int32} {R0 : Int32 × Int32 × Int32 × Int32 × (Nat → Int32)} (hf : f_M_feedsIn l1 m_trouble m_where m_v m_x tb_slack = some R0) : xI l E yX12_feedsIn cX12_feedsIn 3 (some .int) 4 87 [.ref (ad 0), .int l1] (wM E ad m_thrown m_trouble m_where m_rv m_tape m_taped m_size m_spot m_sort m_place m_number m_fault m_wrongAt m_word m_v m_x m_past m_kept m_acts m_images m_matchNow m_slopsNow m_matchesNow m_slopped m_seatBest m_fedBest m_slopsBest m_sawBest m_leastNow m_stableNow m_fitsNow m_someNow m_everyNow m_otherIn m_askLeft tb_seats tb_slack tb_saw tb_quarrel tb_people tb_pairs tb_forks tb_unsures tb_trieds tb_fed tb_seat tb_one tb_other tb_years tb_kind tb_unsure tb_may tb_tried tb_name) (wM E ad R0.2.1 R0.2.2.1 R0.2.2.2.1 m_rv m_tape m_taped m_size m_spot m_sort m_place m_number m_fault m_wrongAt m_word m_v R0.2.2.2.2 m_past m_kept m_acts m_images m_matchNow m_slopsNow m_matchesNow m_slopped m_seatBest m_fedBest m_slopsBest m_sawBest m_leastNow m_stableNow m_fitsNow m_someNow m_everyNow m_otherIn m_askLeft tb_seats tb_slack tb_saw tb_quarrel tb_people tb_pairs tb_forks tb_unsures tb_trieds tb_fed tb_seat tb_one tb_other tb_years tb_kind tb_unsure tb_may tb_tried tb_name) R0.1 := by
  refine xI_of (by decide) (Nat.le_of_ble_eq_true rfl) (fun p e s m args below meth c A C ls hl G => ?_)
  have hx := C.1
  have hb := C.2.1
  have hl : lv_has ls 3 [(0, .ref (ad 0)), (1, .int l1)] := hl
  unfold f_M_feedsIn at hf
  refine lv_aload_n hx hb dX12_feedsIn_0 rfl (lv_at hl 0 rfl) ?_
  refine lv_iconst (v := 0) hx hb dX12_feedsIn_1 (by decide) ?_
  refine x_put (ws' := (wM E ad (0 : Int32) m_trouble m_where m_rv m_tape m_taped m_size m_spot m_sort m_place m_number m_fault m_wrongAt m_word m_v m_x m_past m_kept m_acts m_images m_matchNow m_slopsNow m_matchesNow m_slopped m_seatBest m_fedBest m_slopsBest m_sawBest m_leastNow m_stableNow m_fitsNow m_someNow m_everyNow m_otherIn m_askLeft tb_seats tb_slack tb_saw tb_quarrel tb_people tb_pairs tb_forks tb_unsures tb_trieds tb_fed tb_seat tb_one tb_other tb_years tb_kind tb_unsure tb_may tb_tried tb_name)) C G fX12_39 (wM_at0) rfl rfl (Nat.le_of_ble_eq_true rfl) wM_set_m_thrown dX12_feedsIn_2 (fun H locs G => ?_)
  refine lv_aload_n hx hb dX12_feedsIn_5 rfl (lv_at hl 0 rfl) ?_
  refine lv_iload_n hx hb dX12_feedsIn_6 rfl (lv_at hl 1 rfl) ?_
  obtain ⟨x1, hc, hf⟩ := bd_go hf
  refine xI_V C G (c_M_isPair_m_M hc) mX12_isPair kX12_330 (wM_at0) rfl ⟨Nat.le_of_ble_eq_true rfl, Nat.le_of_ble_eq_true rfl⟩ rfl hl.1 rfl (Nat.le_of_ble_eq_true rfl) ⟨Nat.le_refl _, Nat.le_refl _⟩ dX12_feedsIn_7 (fun hz1 H locs G => ?_)
  refine lv_if_ne (tgt := 19) hx hb dX12_feedsIn_10 (by decide) (fun h => ?_) (fun h => ?_)
  · have hf := it_f h hf
    refine lv_iconst (v := 0) hx hb dX12_feedsIn_19 (by decide) ?_
    refine lv_istore_n (lv' := [(2, .int (0 : Int32)), (0, .ref (ad 0)), (1, .int l1)]) hx hb dX12_feedsIn_20 rfl hl (by decide) rfl (fun ls hl => ?_)
    obtain ⟨ox6, hr, hf⟩ := bd_go hf
    have Jx6 : ∀ x6, ox6 = .inr x6 → ∀ (H : Heap) (locs : List Loc) (ls : Array Slot), xG s E A (wM E ad (0 : Int32) x6.1 x6.2.1 m_rv m_tape m_taped m_size m_spot m_sort m_place m_number m_fault m_wrongAt m_word m_v x6.2.2 m_past m_kept m_acts m_images m_matchNow m_slopsNow m_matchesNow m_slopped m_seatBest m_fedBest m_slopsBest m_sawBest m_leastNow m_stableNow m_fitsNow m_someNow m_everyNow m_otherIn m_askLeft tb_seats tb_slack tb_saw tb_quarrel tb_people tb_pairs tb_forks tb_unsures tb_trieds tb_fed tb_seat tb_one tb_other tb_years tb_kind tb_unsure tb_may tb_tried tb_name) H locs → lv_has ls 3 [(0, .ref (ad 0))] → W p l e (xR 4 87) s m args below meth c H locs 0 0 (MQ below (xqI E A (wM E ad R0.2.1 R0.2.2.1 R0.2.2.2.1 m_rv m_tape m_taped m_size m_spot m_sort m_place m_number m_fault m_wrongAt m_word m_v R0.2.2.2.2 m_past m_kept m_acts m_images m_matchNow m_slopsNow m_matchesNow m_slopped m_seatBest m_fedBest m_slopsBest m_sawBest m_leastNow m_stableNow m_fitsNow m_someNow m_everyNow m_otherIn m_askLeft tb_seats tb_slack tb_saw tb_quarrel tb_people tb_pairs tb_forks tb_unsures tb_trieds tb_fed tb_seat tb_one tb_other tb_years tb_kind tb_unsure tb_may tb_tried tb_name) (some .int) R0.1) args s 0 0 A) (F0 m 52 ls []) := by
      intro x6 hq H locs ls G hl
      subst hq
      have hf := sm_r hf
      refine lv_aload_n hx hb dX12_feedsIn_52 rfl (lv_at hl 0 rfl) ?_
      refine lv_bipush (v := -2) hx hb dX12_feedsIn_53 (by decide) ?_
      obtain ⟨x7, hc, hf⟩ := bd_go hf
      refine xI_V C G (c_M_good_m_M hc) mX12_good kX12_49 (wM_at0) rfl ⟨Nat.le_of_ble_eq_true rfl, Nat.le_of_ble_eq_true rfl⟩ rfl hl.1 rfl (Nat.le_of_ble_eq_true rfl) ⟨Nat.le_refl _, Nat.le_refl _⟩ dX12_feedsIn_55 (fun hz H locs G => ?_)
      obtain rfl := Option.some.inj hf
      exact xI_ret C G rfl dX12_feedsIn_58
    have Jrx6 : ∀ r, ox6 = .inl r → r = R0 := by
      intro r hq
      subst hq
      exact Option.some.inj hf
    exact w_M_feedsIn_m_M_L21 C Jrx6 Jx6 fu _ _ _ _ _ G (lv_sub hl [1, 2, 0] rfl) hr
  · have hf := it_t h hf
    refine lv_aload_n hx hb dX12_feedsIn_13 rfl (lv_at hl 0 rfl) ?_
    refine lv_iconst (v := 1) hx hb dX12_feedsIn_14 (by decide) ?_
    obtain ⟨x8, hc, hf⟩ := bd_go hf
    refine xI_V C G (c_M_refused_m_M hc) mX12_refused kX12_45 (wM_at0) rfl ⟨Nat.le_of_ble_eq_true rfl, Nat.le_of_ble_eq_true rfl⟩ rfl hl.1 rfl (Nat.le_of_ble_eq_true rfl) ⟨Nat.le_refl _, Nat.le_refl _⟩ dX12_feedsIn_15 (fun hz H locs G => ?_)
    obtain rfl := Option.some.inj hf
    exact xI_ret C G rfl dX12_feedsIn_18
set_option maxHeartbeats 4000000 in
set_option maxRecDepth 100000 in
theorem w_M_feedsOften_m_M_L23 {p : Program} {l : Launch} {e : Env} {s : State} {m : MethodId} {args : Array Value} {below : List Frame} {meth : Method} {c : Code} {A : Nat → Prop} {E : xE} {Q : State → Prop} {ad : Nat → Nat} {m_thrown m_trouble m_where m_taped m_size m_spot m_sort m_place m_number m_fault m_wrongAt m_acts m_images m_matchNow m_slopsNow m_matchesNow m_fedBest m_slopsBest m_sawBest m_leastNow m_stableNow m_fitsNow m_someNow m_everyNow m_askLeft tb_seats tb_slack tb_saw tb_quarrel tb_people tb_pairs tb_forks tb_unsures tb_trieds tb_fed : Int32} {m_rv : Value} {m_tape m_v m_past m_kept m_slopped m_seatBest m_otherIn tb_seat tb_one tb_other tb_years tb_kind tb_unsure tb_may tb_tried : Nat → Int32} {m_word : Int64} {tb_name : Nat → Int64} {l1 : Int32} {o : Int32 × (Nat → Int32)} (C : xC p s m args meth c cX12_feedsOften 4 RX12 E A (some .int)) (J : ∀ (H : Heap) (locs : List Loc) (ls : Array Slot), xG s E A (wM E ad m_thrown m_trouble m_where m_rv m_tape m_taped m_size m_spot m_sort m_place m_number m_fault m_wrongAt m_word m_v o.2 m_past m_kept m_acts m_images m_matchNow m_slopsNow m_matchesNow m_slopped m_seatBest m_fedBest m_slopsBest m_sawBest m_leastNow m_stableNow m_fitsNow m_someNow m_everyNow m_otherIn m_askLeft tb_seats tb_slack tb_saw tb_quarrel tb_people tb_pairs tb_forks tb_unsures tb_trieds tb_fed tb_seat tb_one tb_other tb_years tb_kind tb_unsure tb_may tb_tried tb_name) H locs → lv_has ls 4 [(0, .ref (ad 0)), (2, .int o.1)] → W p l e (xR 4 87) s m args below meth c H locs 0 0 Q (F0 m 56 ls [])) :
    ∀ (n : Nat) (l2 : Int32) (l3 : Int32) (m_x : Nat → Int32) (H : Heap) (locs : List Loc) (ls : Array Slot), xG s E A (wM E ad m_thrown m_trouble m_where m_rv m_tape m_taped m_size m_spot m_sort m_place m_number m_fault m_wrongAt m_word m_v m_x m_past m_kept m_acts m_images m_matchNow m_slopsNow m_matchesNow m_slopped m_seatBest m_fedBest m_slopsBest m_sawBest m_leastNow m_stableNow m_fitsNow m_someNow m_everyNow m_otherIn m_askLeft tb_seats tb_slack tb_saw tb_quarrel tb_people tb_pairs tb_forks tb_unsures tb_trieds tb_fed tb_seat tb_one tb_other tb_years tb_kind tb_unsure tb_may tb_tried tb_name) H locs → lv_has ls 4 [(0, .ref (ad 0)), (1, .int l1), (2, .int l2), (3, .int l3)] → f_M_feedsOften_L23 l1 m_v tb_slack n l2 l3 m_x = some o → W p l e (xR 4 87) s m args below meth c H locs 0 0 Q (F0 m 23 ls []) := by
  have hx := C.1
  have hb := C.2.1
  intro n
  induction n with
  | zero =>
    intro l2 l3 m_x H locs ls G hl hf
    exact nomatch (show (none : Option (Int32 × (Nat → Int32))) = some o from hf)
  | succ n ih =>
    intro l2 l3 m_x H locs ls G hl hf
    rw [f_M_feedsOften_L23] at hf
    refine lv_iload_n hx hb dX12_feedsOften_23 rfl (lv_at hl 3 rfl) ?_
    refine lv_bipush (v := 60) hx hb dX12_feedsOften_24 (by decide) ?_
    refine lv_icmp_gt (tgt := 56) hx hb dX12_feedsOften_26 (by decide) (fun h => ?_) (fun h => ?_)
    · have hf := it_t h hf
      obtain rfl := Option.some.inj hf
      exact J _ _ _ G (lv_sub hl [0, 2] rfl)
    · have hf := it_f h hf
      refine lv_aload_n hx hb dX12_feedsOften_29 rfl (lv_at hl 0 rfl) ?_
      refine lv_iload_n hx hb dX12_feedsOften_30 rfl (lv_at hl 3 rfl) ?_
      obtain ⟨x2, hc, hf⟩ := bd_go hf
      refine xV_V C G (c_M_worksIn_m_M hc) mX12_worksIn kX12_376 (wM_at0) rfl ⟨Nat.le_of_ble_eq_true rfl, Nat.le_of_ble_eq_true rfl⟩ rfl hl.1 rfl (Nat.le_of_ble_eq_true rfl) ⟨Nat.le_refl _, Nat.le_refl _⟩ dX12_feedsOften_31 (fun H locs G => ?_)
      refine lv_iload_n hx hb dX12_feedsOften_34 rfl (lv_at hl 2 rfl) ?_
      refine lv_aload_n hx hb dX12_feedsOften_35 rfl (lv_at hl 0 rfl) ?_
      refine lv_iload_n hx hb dX12_feedsOften_36 rfl (lv_at hl 1 rfl) ?_
      obtain ⟨x3, hc, hf⟩ := bd_go hf
      refine xI_V C G (c_M_isFeeding_m_M hc) mX12_isFeeding kX12_336 (wM_at0) rfl ⟨Nat.le_of_ble_eq_true rfl, Nat.le_of_ble_eq_true rfl⟩ rfl hl.1 rfl (Nat.le_of_ble_eq_true rfl) ⟨Nat.le_refl _, Nat.le_refl _⟩ dX12_feedsOften_37 (fun hz3 H locs G => ?_)
      obtain ⟨x4, hrx4, hf⟩ := bd_go hf
      have Jx4 : ∀ (H : Heap) (locs : List Loc) (ls : Array Slot), xG s E A (wM E ad m_thrown m_trouble m_where m_rv m_tape m_taped m_size m_spot m_sort m_place m_number m_fault m_wrongAt m_word m_v x2 m_past m_kept m_acts m_images m_matchNow m_slopsNow m_matchesNow m_slopped m_seatBest m_fedBest m_slopsBest m_sawBest m_leastNow m_stableNow m_fitsNow m_someNow m_everyNow m_otherIn m_askLeft tb_seats tb_slack tb_saw tb_quarrel tb_people tb_pairs tb_forks tb_unsures tb_trieds tb_fed tb_seat tb_one tb_other tb_years tb_kind tb_unsure tb_may tb_tried tb_name) H locs → lv_has ls 4 [(0, .ref (ad 0)), (1, .int l1), (3, .int l3)] → W p l e (xR 4 87) s m args below meth c H locs 0 0 Q (F0 m 48 ls [.int x4, .int l2]) := by
        intro H locs ls G hl
        refine lv_iadd hx hb dX12_feedsOften_48 ?_
        refine lv_topi (fun x5 ex5 => ?_)
        have hf := lt_go ex5 hf
        refine lv_istore_n (lv' := [(2, .int x5), (0, .ref (ad 0)), (1, .int l1), (3, .int l3)]) hx hb dX12_feedsOften_49 rfl hl (by decide) rfl (fun ls hl => ?_)
        obtain ⟨x6, ex6⟩ : ∃ z : Int32, z = l3 + (1 : Int32) := ⟨_, rfl⟩
        have hf := lt_go ex6 hf
        refine lv_iinc (v := x6) (lv' := [(3, .int x6), (2, .int x5), (0, .ref (ad 0)), (1, .int l1)]) hx hb dX12_feedsOften_50 hl (k := 3) rfl (by rw [ex6]; rfl) (by decide) rfl (fun ls hl => ?_)
        refine lv_goto (tgt := 23) hx hb dX12_feedsOften_53 (by decide) ?_
        exact ih x5 x6 x2 _ _ _ G (lv_sub hl [2, 3, 1, 0] rfl) hf
      have hf := hrx4
      refine lv_if_eq (tgt := 47) hx hb dX12_feedsOften_40 (by decide) (fun h => ?_) (fun h => ?_)
      · have hf := it_t h hf
        refine lv_iconst (v := 0) hx hb dX12_feedsOften_47 (by decide) ?_
        obtain rfl := Option.some.inj hf
        exact Jx4 _ _ _ G (lv_sub hl [0, 1, 3] rfl)
      · have hf := it_f h hf
        refine lv_iconst (v := 1) hx hb dX12_feedsOften_43 (by decide) ?_
        refine lv_goto (tgt := 48) hx hb dX12_feedsOften_44 (by decide) ?_
        obtain rfl := Option.some.inj hf
        exact Jx4 _ _ _ G (lv_sub hl [0, 1, 3] rfl)
set_option maxHeartbeats 4000000 in
set_option maxRecDepth 100000 in
theorem c_M_feedsOften_m_M {l : Launch} {E : xE} {ad : Nat → Nat} {m_thrown m_trouble m_where m_taped m_size m_spot m_sort m_place m_number m_fault m_wrongAt m_acts m_images m_matchNow m_slopsNow m_matchesNow m_fedBest m_slopsBest m_sawBest m_leastNow m_stableNow m_fitsNow m_someNow m_everyNow m_askLeft tb_seats tb_slack tb_saw tb_quarrel tb_people tb_pairs tb_forks tb_unsures tb_trieds tb_fed : Int32} {m_rv : Value} {m_tape m_v m_x m_past m_kept m_slopped m_seatBest m_otherIn tb_seat tb_one tb_other tb_years tb_kind tb_unsure tb_may tb_tried : Nat → Int32} {m_word : Int64} {tb_name : Nat → Int64} {l1 : Int32} {R0 : Int32 × Int32 × Int32 × Int32 × (Nat → Int32)} (hf : f_M_feedsOften l1 m_v m_x tb_slack = some R0) : xI l E yX12_feedsOften cX12_feedsOften 4 (some .int) 4 87 [.ref (ad 0), .int l1] (wM E ad m_thrown m_trouble m_where m_rv m_tape m_taped m_size m_spot m_sort m_place m_number m_fault m_wrongAt m_word m_v m_x m_past m_kept m_acts m_images m_matchNow m_slopsNow m_matchesNow m_slopped m_seatBest m_fedBest m_slopsBest m_sawBest m_leastNow m_stableNow m_fitsNow m_someNow m_everyNow m_otherIn m_askLeft tb_seats tb_slack tb_saw tb_quarrel tb_people tb_pairs tb_forks tb_unsures tb_trieds tb_fed tb_seat tb_one tb_other tb_years tb_kind tb_unsure tb_may tb_tried tb_name) (wM E ad R0.2.1 R0.2.2.1 R0.2.2.2.1 m_rv m_tape m_taped m_size m_spot m_sort m_place m_number m_fault m_wrongAt m_word m_v R0.2.2.2.2 m_past m_kept m_acts m_images m_matchNow m_slopsNow m_matchesNow m_slopped m_seatBest m_fedBest m_slopsBest m_sawBest m_leastNow m_stableNow m_fitsNow m_someNow m_everyNow m_otherIn m_askLeft tb_seats tb_slack tb_saw tb_quarrel tb_people tb_pairs tb_forks tb_unsures tb_trieds tb_fed tb_seat tb_one tb_other tb_years tb_kind tb_unsure tb_may tb_tried tb_name) R0.1 := by
  refine xI_of (by decide) (Nat.le_of_ble_eq_true rfl) (fun p e s m args below meth c A C ls hl G => ?_)
  have hx := C.1
  have hb := C.2.1
  have hl : lv_has ls 4 [(0, .ref (ad 0)), (1, .int l1)] := hl
  unfold f_M_feedsOften at hf
  refine lv_aload_n hx hb dX12_feedsOften_0 rfl (lv_at hl 0 rfl) ?_
  refine lv_iconst (v := 0) hx hb dX12_feedsOften_1 (by decide) ?_
  refine x_put (ws' := (wM E ad (0 : Int32) m_trouble m_where m_rv m_tape m_taped m_size m_spot m_sort m_place m_number m_fault m_wrongAt m_word m_v m_x m_past m_kept m_acts m_images m_matchNow m_slopsNow m_matchesNow m_slopped m_seatBest m_fedBest m_slopsBest m_sawBest m_leastNow m_stableNow m_fitsNow m_someNow m_everyNow m_otherIn m_askLeft tb_seats tb_slack tb_saw tb_quarrel tb_people tb_pairs tb_forks tb_unsures tb_trieds tb_fed tb_seat tb_one tb_other tb_years tb_kind tb_unsure tb_may tb_tried tb_name)) C G fX12_39 (wM_at0) rfl rfl (Nat.le_of_ble_eq_true rfl) wM_set_m_thrown dX12_feedsOften_2 (fun H locs G => ?_)
  refine lv_aload_n hx hb dX12_feedsOften_5 rfl (lv_at hl 0 rfl) ?_
  refine lv_iload_n hx hb dX12_feedsOften_6 rfl (lv_at hl 1 rfl) ?_
  obtain ⟨x1, hc, hf⟩ := bd_go hf
  refine xI_V C G (c_M_isPair_m_M hc) mX12_isPair kX12_330 (wM_at0) rfl ⟨Nat.le_of_ble_eq_true rfl, Nat.le_of_ble_eq_true rfl⟩ rfl hl.1 rfl (Nat.le_of_ble_eq_true rfl) ⟨Nat.le_refl _, Nat.le_refl _⟩ dX12_feedsOften_7 (fun hz1 H locs G => ?_)
  refine lv_if_ne (tgt := 19) hx hb dX12_feedsOften_10 (by decide) (fun h => ?_) (fun h => ?_)
  · have hf := it_f h hf
    refine lv_iconst (v := 0) hx hb dX12_feedsOften_19 (by decide) ?_
    refine lv_istore_n (lv' := [(2, .int (0 : Int32)), (0, .ref (ad 0)), (1, .int l1)]) hx hb dX12_feedsOften_20 rfl hl (by decide) rfl (fun ls hl => ?_)
    refine lv_iconst (v := 0) hx hb dX12_feedsOften_21 (by decide) ?_
    refine lv_istore_n (lv' := [(3, .int (0 : Int32)), (2, .int (0 : Int32)), (0, .ref (ad 0)), (1, .int l1)]) hx hb dX12_feedsOften_22 rfl hl (by decide) rfl (fun ls hl => ?_)
    obtain ⟨x7, hr, hf⟩ := bd_go hf
    have Jx7 : ∀ (H : Heap) (locs : List Loc) (ls : Array Slot), xG s E A (wM E ad (0 : Int32) m_trouble m_where m_rv m_tape m_taped m_size m_spot m_sort m_place m_number m_fault m_wrongAt m_word m_v x7.2 m_past m_kept m_acts m_images m_matchNow m_slopsNow m_matchesNow m_slopped m_seatBest m_fedBest m_slopsBest m_sawBest m_leastNow m_stableNow m_fitsNow m_someNow m_everyNow m_otherIn m_askLeft tb_seats tb_slack tb_saw tb_quarrel tb_people tb_pairs tb_forks tb_unsures tb_trieds tb_fed tb_seat tb_one tb_other tb_years tb_kind tb_unsure tb_may tb_tried tb_name) H locs → lv_has ls 4 [(0, .ref (ad 0)), (2, .int x7.1)] → W p l e (xR 4 87) s m args below meth c H locs 0 0 (MQ below (xqI E A (wM E ad R0.2.1 R0.2.2.1 R0.2.2.2.1 m_rv m_tape m_taped m_size m_spot m_sort m_place m_number m_fault m_wrongAt m_word m_v R0.2.2.2.2 m_past m_kept m_acts m_images m_matchNow m_slopsNow m_matchesNow m_slopped m_seatBest m_fedBest m_slopsBest m_sawBest m_leastNow m_stableNow m_fitsNow m_someNow m_everyNow m_otherIn m_askLeft tb_seats tb_slack tb_saw tb_quarrel tb_people tb_pairs tb_forks tb_unsures tb_trieds tb_fed tb_seat tb_one tb_other tb_years tb_kind tb_unsure tb_may tb_tried tb_name) (some .int) R0.1) args s 0 0 A) (F0 m 56 ls []) := by
      intro H locs ls G hl
      refine lv_aload_n hx hb dX12_feedsOften_56 rfl (lv_at hl 0 rfl) ?_
      refine lv_iload_n hx hb dX12_feedsOften_57 rfl (lv_at hl 1 rfl) ?_
      obtain ⟨x8, hc, hf⟩ := bd_go hf
      refine xI_V C G (c_M_good_m_M hc) mX12_good kX12_49 (wM_at0) rfl ⟨Nat.le_of_ble_eq_true rfl, Nat.le_of_ble_eq_true rfl⟩ rfl hl.1 rfl (Nat.le_of_ble_eq_true rfl) ⟨Nat.le_refl _, Nat.le_refl _⟩ dX12_feedsOften_58 (fun hz H locs G => ?_)
      obtain rfl := Option.some.inj hf
      exact xI_ret C G rfl dX12_feedsOften_61
    exact w_M_feedsOften_m_M_L23 C Jx7 fu _ _ _ _ _ _ G (lv_sub hl [2, 3, 1, 0] rfl) hr
  · have hf := it_t h hf
    refine lv_aload_n hx hb dX12_feedsOften_13 rfl (lv_at hl 0 rfl) ?_
    refine lv_iconst (v := 1) hx hb dX12_feedsOften_14 (by decide) ?_
    obtain ⟨x9, hc, hf⟩ := bd_go hf
    refine xI_V C G (c_M_refused_m_M hc) mX12_refused kX12_45 (wM_at0) rfl ⟨Nat.le_of_ble_eq_true rfl, Nat.le_of_ble_eq_true rfl⟩ rfl hl.1 rfl (Nat.le_of_ble_eq_true rfl) ⟨Nat.le_refl _, Nat.le_refl _⟩ dX12_feedsOften_15 (fun hz H locs G => ?_)
    obtain rfl := Option.some.inj hf
    exact xI_ret C G rfl dX12_feedsOften_18
set_option maxHeartbeats 4000000 in
set_option maxRecDepth 100000 in
theorem c_M_fedIn_m_M {l : Launch} {E : xE} {ad : Nat → Nat} {m_thrown m_trouble m_where m_taped m_size m_spot m_sort m_place m_number m_fault m_wrongAt m_acts m_images m_matchNow m_slopsNow m_matchesNow m_fedBest m_slopsBest m_sawBest m_leastNow m_stableNow m_fitsNow m_someNow m_everyNow m_askLeft tb_seats tb_slack tb_saw tb_quarrel tb_people tb_pairs tb_forks tb_unsures tb_trieds tb_fed : Int32} {m_rv : Value} {m_tape m_v m_x m_past m_kept m_slopped m_seatBest m_otherIn tb_seat tb_one tb_other tb_years tb_kind tb_unsure tb_may tb_tried : Nat → Int32} {m_word : Int64} {tb_name : Nat → Int64} {l1 : Int32} {R0 : Int32 × Int32 × Int32 × Int32 × (Nat → Int32) × Int32 × Int32 × Int32 × (Nat → Int32)} (hf : f_M_fedIn l1 m_v m_x m_matchNow m_slopsNow m_matchesNow m_slopped tb_seats tb_slack = some R0) : xI l E yX12_fedIn cX12_fedIn 3 (some .int) 5 109 [.ref (ad 0), .int l1] (wM E ad m_thrown m_trouble m_where m_rv m_tape m_taped m_size m_spot m_sort m_place m_number m_fault m_wrongAt m_word m_v m_x m_past m_kept m_acts m_images m_matchNow m_slopsNow m_matchesNow m_slopped m_seatBest m_fedBest m_slopsBest m_sawBest m_leastNow m_stableNow m_fitsNow m_someNow m_everyNow m_otherIn m_askLeft tb_seats tb_slack tb_saw tb_quarrel tb_people tb_pairs tb_forks tb_unsures tb_trieds tb_fed tb_seat tb_one tb_other tb_years tb_kind tb_unsure tb_may tb_tried tb_name) (wM E ad R0.2.1 R0.2.2.1 R0.2.2.2.1 m_rv m_tape m_taped m_size m_spot m_sort m_place m_number m_fault m_wrongAt m_word m_v R0.2.2.2.2.1 m_past m_kept m_acts m_images R0.2.2.2.2.2.1 R0.2.2.2.2.2.2.1 R0.2.2.2.2.2.2.2.1 R0.2.2.2.2.2.2.2.2 m_seatBest m_fedBest m_slopsBest m_sawBest m_leastNow m_stableNow m_fitsNow m_someNow m_everyNow m_otherIn m_askLeft tb_seats tb_slack tb_saw tb_quarrel tb_people tb_pairs tb_forks tb_unsures tb_trieds tb_fed tb_seat tb_one tb_other tb_years tb_kind tb_unsure tb_may tb_tried tb_name) R0.1 := by
  refine xI_of (by decide) (Nat.le_of_ble_eq_true rfl) (fun p e s m args below meth c A C ls hl G => ?_)
  have hx := C.1
  have hb := C.2.1
  have hl : lv_has ls 3 [(0, .ref (ad 0)), (1, .int l1)] := hl
  unfold f_M_fedIn at hf
  refine lv_aload_n hx hb dX12_fedIn_0 rfl (lv_at hl 0 rfl) ?_
  refine lv_iconst (v := 0) hx hb dX12_fedIn_1 (by decide) ?_
  refine x_put (ws' := (wM E ad (0 : Int32) m_trouble m_where m_rv m_tape m_taped m_size m_spot m_sort m_place m_number m_fault m_wrongAt m_word m_v m_x m_past m_kept m_acts m_images m_matchNow m_slopsNow m_matchesNow m_slopped m_seatBest m_fedBest m_slopsBest m_sawBest m_leastNow m_stableNow m_fitsNow m_someNow m_everyNow m_otherIn m_askLeft tb_seats tb_slack tb_saw tb_quarrel tb_people tb_pairs tb_forks tb_unsures tb_trieds tb_fed tb_seat tb_one tb_other tb_years tb_kind tb_unsure tb_may tb_tried tb_name)) C G fX12_39 (wM_at0) rfl rfl (Nat.le_of_ble_eq_true rfl) wM_set_m_thrown dX12_fedIn_2 (fun H locs G => ?_)
  refine lv_aload_n hx hb dX12_fedIn_5 rfl (lv_at hl 0 rfl) ?_
  refine lv_aload_n hx hb dX12_fedIn_6 rfl (lv_at hl 0 rfl) ?_
  refine x_get C G fX12_298.g (wM_at0) rfl dX12_fedIn_7 ?_
  refine lv_ifnull hx hb dX12_fedIn_10 ?_
  refine lv_iconst (v := 1) hx hb dX12_fedIn_13 (by decide) ?_
  refine lv_goto (tgt := 18) hx hb dX12_fedIn_14 (by decide) ?_
  refine lv_iload_n hx hb dX12_fedIn_18 rfl (lv_at hl 1 rfl) ?_
  obtain ⟨x1, hc, hf⟩ := bd_go hf
  refine xI_V C G (c_M_refusesYears_m_M hc) mX12_refusesYears kX12_372 (wM_at0) rfl ⟨Nat.le_of_ble_eq_true rfl, Nat.le_of_ble_eq_true rfl⟩ rfl hl.1 rfl (Nat.le_of_ble_eq_true rfl) ⟨Nat.le_refl _, Nat.le_refl _⟩ dX12_fedIn_19 (fun hz H locs G => ?_)
  refine lv_istore_n (lv' := [(2, .int x1), (0, .ref (ad 0)), (1, .int l1)]) hx hb dX12_fedIn_22 rfl hl (by decide) rfl (fun ls hl => ?_)
  refine lv_iload_n hx hb dX12_fedIn_23 rfl (lv_at hl 0 rfl) ?_
  refine lv_if_le (tgt := 33) hx hb dX12_fedIn_24 (by decide) (fun h => ?_) (fun h => ?_)
  · have hf := it_t h hf
    refine lv_aload_n hx hb dX12_fedIn_33 rfl (lv_at hl 1 rfl) ?_
    refine lv_iload_n hx hb dX12_fedIn_34 rfl (lv_at hl 2 rfl) ?_
    obtain ⟨x2, hc, hf⟩ := bd_go hf
    refine xV_V C G (c_M_worksIn_m_M hc) mX12_worksIn kX12_376 (wM_at0) rfl ⟨Nat.le_of_ble_eq_true rfl, Nat.le_of_ble_eq_true rfl⟩ rfl hl.1 rfl (Nat.le_of_ble_eq_true rfl) ⟨Nat.le_refl _, Nat.le_refl _⟩ dX12_fedIn_35 (fun H locs G => ?_)
    refine lv_aload_n hx hb dX12_fedIn_38 rfl (lv_at hl 1 rfl) ?_
    refine lv_aload_n hx hb dX12_fedIn_39 rfl (lv_at hl 1 rfl) ?_
    obtain ⟨x3, hc, hf⟩ := bd_go hf
    refine xI_V C G (c_M_matching_m_M hc) mX12_matching kX12_366 (wM_at0) rfl ⟨Nat.le_of_ble_eq_true rfl, Nat.le_of_ble_eq_true rfl⟩ rfl hl.1 rfl (Nat.le_of_ble_eq_true rfl) ⟨Nat.le_refl _, Nat.le_refl _⟩ dX12_fedIn_40 (fun hz H locs G => ?_)
    obtain ⟨x4, hc, hf⟩ := bd_go hf
    refine xI_V C G (c_M_good_m_M hc) mX12_good kX12_49 (wM_at0) rfl ⟨Nat.le_of_ble_eq_true rfl, Nat.le_of_ble_eq_true rfl⟩ rfl hl.1 rfl (Nat.le_of_ble_eq_true rfl) ⟨Nat.le_refl _, Nat.le_refl _⟩ dX12_fedIn_43 (fun hz H locs G => ?_)
    obtain rfl := Option.some.inj hf
    exact xI_ret C G rfl dX12_fedIn_46
  · have hf := it_f h hf
    refine lv_aload_n hx hb dX12_fedIn_27 rfl (lv_at hl 1 rfl) ?_
    refine lv_iload_n hx hb dX12_fedIn_28 rfl (lv_at hl 0 rfl) ?_
    obtain ⟨x5, hc, hf⟩ := bd_go hf
    refine xI_V C G (c_M_refused_m_M hc) mX12_refused kX12_45 (wM_at0) rfl ⟨Nat.le_of_ble_eq_true rfl, Nat.le_of_ble_eq_true rfl⟩ rfl hl.1 rfl (Nat.le_of_ble_eq_true rfl) ⟨Nat.le_refl _, Nat.le_refl _⟩ dX12_fedIn_29 (fun hz H locs G => ?_)
    obtain rfl := Option.some.inj hf
    exact xI_ret C G rfl dX12_fedIn_32
set_option maxHeartbeats 4000000 in
set_option maxRecDepth 100000 in
theorem w_M_bestYear_m_M_L24 {p : Program} {l : Launch} {e : Env} {s : State} {m : MethodId} {args : Array Value} {below : List Frame} {meth : Method} {c : Code} {A : Nat → Prop} {E : xE} {Q : State → Prop} {ad : Nat → Nat} {m_thrown m_trouble m_where m_taped m_size m_spot m_sort m_place m_number m_fault m_wrongAt m_acts m_images m_fedBest m_slopsBest m_sawBest m_leastNow m_stableNow m_fitsNow m_someNow m_everyNow m_askLeft tb_seats tb_slack tb_saw tb_quarrel tb_people tb_pairs tb_forks tb_unsures tb_trieds tb_fed : Int32} {m_rv : Value} {m_tape m_v m_past m_kept m_seatBest m_otherIn tb_seat tb_one tb_other tb_years tb_kind tb_unsure tb_may tb_tried : Nat → Int32} {m_word : Int64} {tb_name : Nat → Int64} {o : Int32 × (Nat → Int32) × Int32 × Int32 × Int32 × (Nat → Int32)} (C : xC p s m args meth c cX12_bestYear 5 RX12 E A (some .int)) (J : ∀ (H : Heap) (locs : List Loc) (ls : Array Slot), xG s E A (wM E ad m_thrown m_trouble m_where m_rv m_tape m_taped m_size m_spot m_sort m_place m_number m_fault m_wrongAt m_word m_v o.2.1 m_past m_kept m_acts m_images o.2.2.1 o.2.2.2.1 o.2.2.2.2.1 o.2.2.2.2.2 m_seatBest m_fedBest m_slopsBest m_sawBest m_leastNow m_stableNow m_fitsNow m_someNow m_everyNow m_otherIn m_askLeft tb_seats tb_slack tb_saw tb_quarrel tb_people tb_pairs tb_forks tb_unsures tb_trieds tb_fed tb_seat tb_one tb_other tb_years tb_kind tb_unsure tb_may tb_tried tb_name) H locs → lv_has ls 5 [(0, .ref (ad 0)), (1, .int o.1)] → W p l e (xR 5 109) s m args below meth c H locs 0 0 Q (F0 m 61 ls [])) :
    ∀ (n : Nat) (l1 : Int32) (l2 : Int32) (l3 : Int32) (m_x : Nat → Int32) (m_matchNow : Int32) (m_slopsNow : Int32) (m_matchesNow : Int32) (m_slopped : Nat → Int32) (H : Heap) (locs : List Loc) (ls : Array Slot), xG s E A (wM E ad m_thrown m_trouble m_where m_rv m_tape m_taped m_size m_spot m_sort m_place m_number m_fault m_wrongAt m_word m_v m_x m_past m_kept m_acts m_images m_matchNow m_slopsNow m_matchesNow m_slopped m_seatBest m_fedBest m_slopsBest m_sawBest m_leastNow m_stableNow m_fitsNow m_someNow m_everyNow m_otherIn m_askLeft tb_seats tb_slack tb_saw tb_quarrel tb_people tb_pairs tb_forks tb_unsures tb_trieds tb_fed tb_seat tb_one tb_other tb_years tb_kind tb_unsure tb_may tb_tried tb_name) H locs → lv_has ls 5 [(0, .ref (ad 0)), (1, .int l1), (2, .int l2), (3, .int l3)] → f_M_bestYear_L24 m_v tb_seats tb_slack n l1 l2 l3 m_x m_matchNow m_slopsNow m_matchesNow m_slopped = some o → W p l e (xR 5 109) s m args below meth c H locs 0 0 Q (F0 m 24 ls []) := by
  have hx := C.1
  have hb := C.2.1
  intro n
  induction n with
  | zero =>
    intro l1 l2 l3 m_x m_matchNow m_slopsNow m_matchesNow m_slopped H locs ls G hl hf
    exact nomatch (show (none : Option (Int32 × (Nat → Int32) × Int32 × Int32 × Int32 × (Nat → Int32))) = some o from hf)
  | succ n ih =>
    intro l1 l2 l3 m_x m_matchNow m_slopsNow m_matchesNow m_slopped H locs ls G hl hf
    rw [f_M_bestYear_L24] at hf
    refine lv_iload_n hx hb dX12_bestYear_24 rfl (lv_at hl 3 rfl) ?_
    refine lv_bipush (v := 60) hx hb dX12_bestYear_25 (by decide) ?_
    refine lv_icmp_gt (tgt := 61) hx hb dX12_bestYear_27 (by decide) (fun h => ?_) (fun h => ?_)
    · have hf := it_t h hf
      obtain rfl := Option.some.inj hf
      exact J _ _ _ G (lv_sub hl [0, 1] rfl)
    · have hf := it_f h hf
      refine lv_aload_n hx hb dX12_bestYear_30 rfl (lv_at hl 0 rfl) ?_
      refine lv_iload_n hx hb dX12_bestYear_31 rfl (lv_at hl 3 rfl) ?_
      obtain ⟨x1, hc, hf⟩ := bd_go hf
      refine xV_V C G (c_M_worksIn_m_M hc) mX12_worksIn kX12_376 (wM_at0) rfl ⟨Nat.le_of_ble_eq_true rfl, Nat.le_of_ble_eq_true rfl⟩ rfl hl.1 rfl (Nat.le_of_ble_eq_true rfl) ⟨Nat.le_refl _, Nat.le_refl _⟩ dX12_bestYear_32 (fun H locs G => ?_)
      refine lv_aload_n hx hb dX12_bestYear_35 rfl (lv_at hl 0 rfl) ?_
      obtain ⟨x2, hc, hf⟩ := bd_go hf
      refine xI_V C G (c_M_matching_m_M hc) mX12_matching kX12_366 (wM_at0) rfl ⟨Nat.le_of_ble_eq_true rfl, Nat.le_of_ble_eq_true rfl⟩ rfl hl.1 rfl (Nat.le_of_ble_eq_true rfl) ⟨Nat.le_refl _, Nat.le_refl _⟩ dX12_bestYear_36 (fun hz H locs G => ?_)
      refine lv_istore (lv' := [(4, .int x2.1), (0, .ref (ad 0)), (1, .int l1), (2, .int l2), (3, .int l3)]) hx hb dX12_bestYear_39 hl (by decide) rfl (fun ls hl => ?_)
      refine lv_iload hx hb dX12_bestYear_41 (lv_at hl 0 rfl) ?_
      refine lv_iload_n hx hb dX12_bestYear_43 rfl (lv_at hl 3 rfl) ?_
      refine lv_icmp_gt (tgt := 50) hx hb dX12_bestYear_44 (by decide) (fun h => ?_) (fun h => ?_)
      · have hf := it_t h hf
        refine lv_iload hx hb dX12_bestYear_50 (lv_at hl 0 rfl) ?_
        refine lv_istore_n (lv' := [(2, .int x2.1), (4, .int x2.1), (0, .ref (ad 0)), (1, .int l1), (3, .int l3)]) hx hb dX12_bestYear_52 rfl hl (by decide) rfl (fun ls hl => ?_)
        refine lv_iload_n hx hb dX12_bestYear_53 rfl (lv_at hl 4 rfl) ?_
        refine lv_istore_n (lv' := [(1, .int l3), (2, .int x2.1), (4, .int x2.1), (0, .ref (ad 0)), (3, .int l3)]) hx hb dX12_bestYear_54 rfl hl (by decide) rfl (fun ls hl => ?_)
        obtain ⟨x3, ex3⟩ : ∃ z : Int32, z = l3 + (1 : Int32) := ⟨_, rfl⟩
        have hf := lt_go ex3 hf
        refine lv_iinc (v := x3) (lv' := [(3, .int x3), (1, .int l3), (2, .int x2.1), (4, .int x2.1), (0, .ref (ad 0))]) hx hb dX12_bestYear_55 hl (k := 4) rfl (by rw [ex3]; rfl) (by decide) rfl (fun ls hl => ?_)
        refine lv_goto (tgt := 24) hx hb dX12_bestYear_58 (by decide) ?_
        exact ih l3 x2.1 x3 x1 x2.2.1 x2.2.2.1 x2.2.2.2.1 x2.2.2.2.2 _ _ _ G (lv_sub hl [4, 1, 2, 0] rfl) hf
      · have hf := it_f h hf
        refine lv_goto (tgt := 55) hx hb dX12_bestYear_47 (by decide) ?_
        obtain ⟨x4, ex4⟩ : ∃ z : Int32, z = l3 + (1 : Int32) := ⟨_, rfl⟩
        have hf := lt_go ex4 hf
        refine lv_iinc (v := x4) (lv' := [(3, .int x4), (4, .int x2.1), (0, .ref (ad 0)), (1, .int l1), (2, .int l2)]) hx hb dX12_bestYear_55 hl (k := 4) rfl (by rw [ex4]; rfl) (by decide) rfl (fun ls hl => ?_)
        refine lv_goto (tgt := 24) hx hb dX12_bestYear_58 (by decide) ?_
        exact ih l1 l2 x4 x1 x2.2.1 x2.2.2.1 x2.2.2.2.1 x2.2.2.2.2 _ _ _ G (lv_sub hl [2, 3, 4, 0] rfl) hf
set_option maxHeartbeats 4000000 in
set_option maxRecDepth 100000 in
theorem c_M_bestYear_m_M {l : Launch} {E : xE} {ad : Nat → Nat} {m_thrown m_trouble m_where m_taped m_size m_spot m_sort m_place m_number m_fault m_wrongAt m_acts m_images m_matchNow m_slopsNow m_matchesNow m_fedBest m_slopsBest m_sawBest m_leastNow m_stableNow m_fitsNow m_someNow m_everyNow m_askLeft tb_seats tb_slack tb_saw tb_quarrel tb_people tb_pairs tb_forks tb_unsures tb_trieds tb_fed : Int32} {m_rv : Value} {m_tape m_v m_x m_past m_kept m_slopped m_seatBest m_otherIn tb_seat tb_one tb_other tb_years tb_kind tb_unsure tb_may tb_tried : Nat → Int32} {m_word : Int64} {tb_name : Nat → Int64} {R0 : Int32 × Int32 × Int32 × Int32 × (Nat → Int32) × Int32 × Int32 × Int32 × (Nat → Int32)} (hf : f_M_bestYear m_v m_x m_matchNow m_slopsNow m_matchesNow m_slopped tb_seats tb_slack = some R0) : xI l E yX12_bestYear cX12_bestYear 5 (some .int) 5 109 [.ref (ad 0)] (wM E ad m_thrown m_trouble m_where m_rv m_tape m_taped m_size m_spot m_sort m_place m_number m_fault m_wrongAt m_word m_v m_x m_past m_kept m_acts m_images m_matchNow m_slopsNow m_matchesNow m_slopped m_seatBest m_fedBest m_slopsBest m_sawBest m_leastNow m_stableNow m_fitsNow m_someNow m_everyNow m_otherIn m_askLeft tb_seats tb_slack tb_saw tb_quarrel tb_people tb_pairs tb_forks tb_unsures tb_trieds tb_fed tb_seat tb_one tb_other tb_years tb_kind tb_unsure tb_may tb_tried tb_name) (wM E ad R0.2.1 R0.2.2.1 R0.2.2.2.1 m_rv m_tape m_taped m_size m_spot m_sort m_place m_number m_fault m_wrongAt m_word m_v R0.2.2.2.2.1 m_past m_kept m_acts m_images R0.2.2.2.2.2.1 R0.2.2.2.2.2.2.1 R0.2.2.2.2.2.2.2.1 R0.2.2.2.2.2.2.2.2 m_seatBest m_fedBest m_slopsBest m_sawBest m_leastNow m_stableNow m_fitsNow m_someNow m_everyNow m_otherIn m_askLeft tb_seats tb_slack tb_saw tb_quarrel tb_people tb_pairs tb_forks tb_unsures tb_trieds tb_fed tb_seat tb_one tb_other tb_years tb_kind tb_unsure tb_may tb_tried tb_name) R0.1 := by
  refine xI_of (by decide) (Nat.le_of_ble_eq_true rfl) (fun p e s m args below meth c A C ls hl G => ?_)
  have hx := C.1
  have hb := C.2.1
  have hl : lv_has ls 5 [(0, .ref (ad 0))] := hl
  unfold f_M_bestYear at hf
  refine lv_aload_n hx hb dX12_bestYear_0 rfl (lv_at hl 0 rfl) ?_
  refine lv_iconst (v := 0) hx hb dX12_bestYear_1 (by decide) ?_
  refine x_put (ws' := (wM E ad (0 : Int32) m_trouble m_where m_rv m_tape m_taped m_size m_spot m_sort m_place m_number m_fault m_wrongAt m_word m_v m_x m_past m_kept m_acts m_images m_matchNow m_slopsNow m_matchesNow m_slopped m_seatBest m_fedBest m_slopsBest m_sawBest m_leastNow m_stableNow m_fitsNow m_someNow m_everyNow m_otherIn m_askLeft tb_seats tb_slack tb_saw tb_quarrel tb_people tb_pairs tb_forks tb_unsures tb_trieds tb_fed tb_seat tb_one tb_other tb_years tb_kind tb_unsure tb_may tb_tried tb_name)) C G fX12_39 (wM_at0) rfl rfl (Nat.le_of_ble_eq_true rfl) wM_set_m_thrown dX12_bestYear_2 (fun H locs G => ?_)
  refine lv_aload_n hx hb dX12_bestYear_5 rfl (lv_at hl 0 rfl) ?_
  refine x_get C G fX12_298.g (wM_at0) rfl dX12_bestYear_6 ?_
  refine lv_ifnonnull (tgt := 18) hx hb dX12_bestYear_9 (by decide) ?_
  refine lv_iconst (v := 0) hx hb dX12_bestYear_18 (by decide) ?_
  refine lv_istore_n (lv' := [(1, .int (0 : Int32)), (0, .ref (ad 0))]) hx hb dX12_bestYear_19 rfl hl (by decide) rfl (fun ls hl => ?_)
  refine lv_iconst (v := -1) hx hb dX12_bestYear_20 (by decide) ?_
  refine lv_istore_n (lv' := [(2, .int (-1 : Int32)), (1, .int (0 : Int32)), (0, .ref (ad 0))]) hx hb dX12_bestYear_21 rfl hl (by decide) rfl (fun ls hl => ?_)
  refine lv_iconst (v := 0) hx hb dX12_bestYear_22 (by decide) ?_
  refine lv_istore_n (lv' := [(3, .int (0 : Int32)), (2, .int (-1 : Int32)), (1, .int (0 : Int32)), (0, .ref (ad 0))]) hx hb dX12_bestYear_23 rfl hl (by decide) rfl (fun ls hl => ?_)
  obtain ⟨x5, hr, hf⟩ := bd_go hf
  have Jx5 : ∀ (H : Heap) (locs : List Loc) (ls : Array Slot), xG s E A (wM E ad (0 : Int32) m_trouble m_where m_rv m_tape m_taped m_size m_spot m_sort m_place m_number m_fault m_wrongAt m_word m_v x5.2.1 m_past m_kept m_acts m_images x5.2.2.1 x5.2.2.2.1 x5.2.2.2.2.1 x5.2.2.2.2.2 m_seatBest m_fedBest m_slopsBest m_sawBest m_leastNow m_stableNow m_fitsNow m_someNow m_everyNow m_otherIn m_askLeft tb_seats tb_slack tb_saw tb_quarrel tb_people tb_pairs tb_forks tb_unsures tb_trieds tb_fed tb_seat tb_one tb_other tb_years tb_kind tb_unsure tb_may tb_tried tb_name) H locs → lv_has ls 5 [(0, .ref (ad 0)), (1, .int x5.1)] → W p l e (xR 5 109) s m args below meth c H locs 0 0 (MQ below (xqI E A (wM E ad R0.2.1 R0.2.2.1 R0.2.2.2.1 m_rv m_tape m_taped m_size m_spot m_sort m_place m_number m_fault m_wrongAt m_word m_v R0.2.2.2.2.1 m_past m_kept m_acts m_images R0.2.2.2.2.2.1 R0.2.2.2.2.2.2.1 R0.2.2.2.2.2.2.2.1 R0.2.2.2.2.2.2.2.2 m_seatBest m_fedBest m_slopsBest m_sawBest m_leastNow m_stableNow m_fitsNow m_someNow m_everyNow m_otherIn m_askLeft tb_seats tb_slack tb_saw tb_quarrel tb_people tb_pairs tb_forks tb_unsures tb_trieds tb_fed tb_seat tb_one tb_other tb_years tb_kind tb_unsure tb_may tb_tried tb_name) (some .int) R0.1) args s 0 0 A) (F0 m 61 ls []) := by
    intro H locs ls G hl
    refine lv_aload_n hx hb dX12_bestYear_61 rfl (lv_at hl 0 rfl) ?_
    refine lv_iload_n hx hb dX12_bestYear_62 rfl (lv_at hl 1 rfl) ?_
    obtain ⟨x6, hc, hf⟩ := bd_go hf
    refine xI_V C G (c_M_good_m_M hc) mX12_good kX12_49 (wM_at0) rfl ⟨Nat.le_of_ble_eq_true rfl, Nat.le_of_ble_eq_true rfl⟩ rfl hl.1 rfl (Nat.le_of_ble_eq_true rfl) ⟨Nat.le_refl _, Nat.le_refl _⟩ dX12_bestYear_63 (fun hz H locs G => ?_)
    obtain rfl := Option.some.inj hf
    exact xI_ret C G rfl dX12_bestYear_66
  exact w_M_bestYear_m_M_L24 C Jx5 fu _ _ _ _ _ _ _ _ _ _ _ G (lv_sub hl [3, 2, 1, 0] rfl) hr
set_option maxHeartbeats 4000000 in
set_option maxRecDepth 100000 in
theorem w_M_allIn_m_M_L20 {p : Program} {l : Launch} {e : Env} {s : State} {m : MethodId} {args : Array Value} {below : List Frame} {meth : Method} {c : Code} {A : Nat → Prop} {E : xE} {ad : Nat → Nat} {m_thrown m_trouble m_where m_taped m_size m_spot m_sort m_place m_number m_fault m_wrongAt m_acts m_images m_fedBest m_slopsBest m_sawBest m_leastNow m_stableNow m_fitsNow m_someNow m_everyNow m_askLeft tb_seats tb_slack tb_saw tb_quarrel tb_people tb_pairs tb_forks tb_unsures tb_trieds tb_fed : Int32} {m_rv : Value} {m_tape m_v m_past m_kept m_seatBest m_otherIn tb_seat tb_one tb_other tb_years tb_kind tb_unsure tb_may tb_tried : Nat → Int32} {m_word : Int64} {tb_name : Nat → Int64} {o : (Int32 × Int32 × Int32 × Int32 × (Nat → Int32) × Int32 × Int32 × Int32 × (Nat → Int32)) ⊕ (Int32 × Int32 × (Nat → Int32) × Int32 × Int32 × Int32 × (Nat → Int32))} {R0 : Int32 × Int32 × Int32 × Int32 × (Nat → Int32) × Int32 × Int32 × Int32 × (Nat → Int32)} (C : xC p s m args meth c cX12_allIn 2 RX12 E A (some .int)) (Jr : ∀ r, o = .inl r → r = R0) (J : ∀ t, o = .inr t → ∀ (H : Heap) (locs : List Loc) (ls : Array Slot), xG s E A (wM E ad m_thrown t.1 t.2.1 m_rv m_tape m_taped m_size m_spot m_sort m_place m_number m_fault m_wrongAt m_word m_v t.2.2.1 m_past m_kept m_acts m_images t.2.2.2.1 t.2.2.2.2.1 t.2.2.2.2.2.1 t.2.2.2.2.2.2 m_seatBest m_fedBest m_slopsBest m_sawBest m_leastNow m_stableNow m_fitsNow m_someNow m_everyNow m_otherIn m_askLeft tb_seats tb_slack tb_saw tb_quarrel tb_people tb_pairs tb_forks tb_unsures tb_trieds tb_fed tb_seat tb_one tb_other tb_years tb_kind tb_unsure tb_may tb_tried tb_name) H locs → lv_has ls 2 [(0, .ref (ad 0))] → W p l e (xR 5 109) s m args below meth c H locs 0 0 (MQ below (xqI E A (wM E ad R0.2.1 R0.2.2.1 R0.2.2.2.1 m_rv m_tape m_taped m_size m_spot m_sort m_place m_number m_fault m_wrongAt m_word m_v R0.2.2.2.2.1 m_past m_kept m_acts m_images R0.2.2.2.2.2.1 R0.2.2.2.2.2.2.1 R0.2.2.2.2.2.2.2.1 R0.2.2.2.2.2.2.2.2 m_seatBest m_fedBest m_slopsBest m_sawBest m_leastNow m_stableNow m_fitsNow m_someNow m_everyNow m_otherIn m_askLeft tb_seats tb_slack tb_saw tb_quarrel tb_people tb_pairs tb_forks tb_unsures tb_trieds tb_fed tb_seat tb_one tb_other tb_years tb_kind tb_unsure tb_may tb_tried tb_name) (some .int) R0.1) args s 0 0 A) (F0 m 59 ls [])) :
    ∀ (n : Nat) (l1 : Int32) (m_x : Nat → Int32) (m_matchNow : Int32) (m_slopsNow : Int32) (m_matchesNow : Int32) (m_slopped : Nat → Int32) (H : Heap) (locs : List Loc) (ls : Array Slot), xG s E A (wM E ad m_thrown m_trouble m_where m_rv m_tape m_taped m_size m_spot m_sort m_place m_number m_fault m_wrongAt m_word m_v m_x m_past m_kept m_acts m_images m_matchNow m_slopsNow m_matchesNow m_slopped m_seatBest m_fedBest m_slopsBest m_sawBest m_leastNow m_stableNow m_fitsNow m_someNow m_everyNow m_otherIn m_askLeft tb_seats tb_slack tb_saw tb_quarrel tb_people tb_pairs tb_forks tb_unsures tb_trieds tb_fed tb_seat tb_one tb_other tb_years tb_kind tb_unsure tb_may tb_tried tb_name) H locs → lv_has ls 2 [(0, .ref (ad 0)), (1, .int l1)] → f_M_allIn_L20 m_thrown m_trouble m_where m_v tb_seats tb_slack tb_people n l1 m_x m_matchNow m_slopsNow m_matchesNow m_slopped = some o → W p l e (xR 5 109) s m args below meth c H locs 0 0 (MQ below (xqI E A (wM E ad R0.2.1 R0.2.2.1 R0.2.2.2.1 m_rv m_tape m_taped m_size m_spot m_sort m_place m_number m_fault m_wrongAt m_word m_v R0.2.2.2.2.1 m_past m_kept m_acts m_images R0.2.2.2.2.2.1 R0.2.2.2.2.2.2.1 R0.2.2.2.2.2.2.2.1 R0.2.2.2.2.2.2.2.2 m_seatBest m_fedBest m_slopsBest m_sawBest m_leastNow m_stableNow m_fitsNow m_someNow m_everyNow m_otherIn m_askLeft tb_seats tb_slack tb_saw tb_quarrel tb_people tb_pairs tb_forks tb_unsures tb_trieds tb_fed tb_seat tb_one tb_other tb_years tb_kind tb_unsure tb_may tb_tried tb_name) (some .int) R0.1) args s 0 0 A) (F0 m 20 ls []) := by
  have hx := C.1
  have hb := C.2.1
  intro n
  induction n with
  | zero =>
    intro l1 m_x m_matchNow m_slopsNow m_matchesNow m_slopped H locs ls G hl hf
    exact nomatch (show (none : Option ((Int32 × Int32 × Int32 × Int32 × (Nat → Int32) × Int32 × Int32 × Int32 × (Nat → Int32)) ⊕ (Int32 × Int32 × (Nat → Int32) × Int32 × Int32 × Int32 × (Nat → Int32)))) = some o from hf)
  | succ n ih =>
    intro l1 m_x m_matchNow m_slopsNow m_matchesNow m_slopped H locs ls G hl hf
    rw [f_M_allIn_L20] at hf
    refine lv_iload_n hx hb dX12_allIn_20 rfl (lv_at hl 1 rfl) ?_
    refine lv_bipush (v := 60) hx hb dX12_allIn_21 (by decide) ?_
    refine lv_icmp_gt (tgt := 59) hx hb dX12_allIn_23 (by decide) (fun h => ?_) (fun h => ?_)
    · have hf := it_t h hf
      exact J _ (Option.some.inj hf).symm _ _ _ G (lv_sub hl [0] rfl)
    · have hf := it_f h hf
      refine lv_aload_n hx hb dX12_allIn_26 rfl (lv_at hl 0 rfl) ?_
      refine lv_iload_n hx hb dX12_allIn_27 rfl (lv_at hl 1 rfl) ?_
      obtain ⟨x1, hc, hf⟩ := bd_go hf
      refine xV_V C G (c_M_worksIn_m_M hc) mX12_worksIn kX12_376 (wM_at0) rfl ⟨Nat.le_of_ble_eq_true rfl, Nat.le_of_ble_eq_true rfl⟩ rfl hl.1 rfl (Nat.le_of_ble_eq_true rfl) ⟨Nat.le_refl _, Nat.le_refl _⟩ dX12_allIn_28 (fun H locs G => ?_)
      refine lv_aload_n hx hb dX12_allIn_31 rfl (lv_at hl 0 rfl) ?_
      obtain ⟨x2, hc, hf⟩ := bd_go hf
      refine xI_V C G (c_M_matching_m_M hc) mX12_matching kX12_366 (wM_at0) rfl ⟨Nat.le_of_ble_eq_true rfl, Nat.le_of_ble_eq_true rfl⟩ rfl hl.1 rfl (Nat.le_of_ble_eq_true rfl) ⟨Nat.le_refl _, Nat.le_refl _⟩ dX12_allIn_32 (fun hz H locs G => ?_)
      refine lv_aload_n hx hb dX12_allIn_35 rfl (lv_at hl 0 rfl) ?_
      refine x_get C G fX12_298.g (wM_at0) rfl dX12_allIn_36 ?_
      refine x_get C G fX12_177.g (wM_at9) rfl dX12_allIn_39 ?_
      refine lv_iconst (v := 1) hx hb dX12_allIn_42 (by decide) ?_
      refine lv_isub hx hb dX12_allIn_43 ?_
      refine lv_icmp_lt (tgt := 53) hx hb dX12_allIn_44 (by decide) (fun h => ?_) (fun h => ?_)
      · have hf := it_t h hf
        obtain ⟨x3, ex3⟩ : ∃ z : Int32, z = l1 + (1 : Int32) := ⟨_, rfl⟩
        have hf := lt_go ex3 hf
        refine lv_iinc (v := x3) (lv' := [(1, .int x3), (0, .ref (ad 0))]) hx hb dX12_allIn_53 hl (k := 1) rfl (by rw [ex3]; rfl) (by decide) rfl (fun ls hl => ?_)
        refine lv_goto (tgt := 20) hx hb dX12_allIn_56 (by decide) ?_
        exact ih x3 x1 x2.2.1 x2.2.2.1 x2.2.2.2.1 x2.2.2.2.2 _ _ _ G (lv_sub hl [1, 0] rfl) hf
      · have hf := it_f h hf
        refine lv_aload_n hx hb dX12_allIn_47 rfl (lv_at hl 0 rfl) ?_
        refine lv_iload_n hx hb dX12_allIn_48 rfl (lv_at hl 1 rfl) ?_
        obtain ⟨x4, hc, hf⟩ := bd_go hf
        refine xI_V C G (c_M_good_m_M hc) mX12_good kX12_49 (wM_at0) rfl ⟨Nat.le_of_ble_eq_true rfl, Nat.le_of_ble_eq_true rfl⟩ rfl hl.1 rfl (Nat.le_of_ble_eq_true rfl) ⟨Nat.le_refl _, Nat.le_refl _⟩ dX12_allIn_49 (fun hz H locs G => ?_)
        obtain rfl := Jr _ (Option.some.inj hf).symm
        exact xI_ret C G rfl dX12_allIn_52
set_option maxHeartbeats 4000000 in
set_option maxRecDepth 100000 in
theorem c_M_allIn_m_M {l : Launch} {E : xE} {ad : Nat → Nat} {m_thrown m_trouble m_where m_taped m_size m_spot m_sort m_place m_number m_fault m_wrongAt m_acts m_images m_matchNow m_slopsNow m_matchesNow m_fedBest m_slopsBest m_sawBest m_leastNow m_stableNow m_fitsNow m_someNow m_everyNow m_askLeft tb_seats tb_slack tb_saw tb_quarrel tb_people tb_pairs tb_forks tb_unsures tb_trieds tb_fed : Int32} {m_rv : Value} {m_tape m_v m_x m_past m_kept m_slopped m_seatBest m_otherIn tb_seat tb_one tb_other tb_years tb_kind tb_unsure tb_may tb_tried : Nat → Int32} {m_word : Int64} {tb_name : Nat → Int64} {R0 : Int32 × Int32 × Int32 × Int32 × (Nat → Int32) × Int32 × Int32 × Int32 × (Nat → Int32)} (hf : f_M_allIn m_trouble m_where m_v m_x m_matchNow m_slopsNow m_matchesNow m_slopped tb_seats tb_slack tb_people = some R0) : xI l E yX12_allIn cX12_allIn 2 (some .int) 5 109 [.ref (ad 0)] (wM E ad m_thrown m_trouble m_where m_rv m_tape m_taped m_size m_spot m_sort m_place m_number m_fault m_wrongAt m_word m_v m_x m_past m_kept m_acts m_images m_matchNow m_slopsNow m_matchesNow m_slopped m_seatBest m_fedBest m_slopsBest m_sawBest m_leastNow m_stableNow m_fitsNow m_someNow m_everyNow m_otherIn m_askLeft tb_seats tb_slack tb_saw tb_quarrel tb_people tb_pairs tb_forks tb_unsures tb_trieds tb_fed tb_seat tb_one tb_other tb_years tb_kind tb_unsure tb_may tb_tried tb_name) (wM E ad R0.2.1 R0.2.2.1 R0.2.2.2.1 m_rv m_tape m_taped m_size m_spot m_sort m_place m_number m_fault m_wrongAt m_word m_v R0.2.2.2.2.1 m_past m_kept m_acts m_images R0.2.2.2.2.2.1 R0.2.2.2.2.2.2.1 R0.2.2.2.2.2.2.2.1 R0.2.2.2.2.2.2.2.2 m_seatBest m_fedBest m_slopsBest m_sawBest m_leastNow m_stableNow m_fitsNow m_someNow m_everyNow m_otherIn m_askLeft tb_seats tb_slack tb_saw tb_quarrel tb_people tb_pairs tb_forks tb_unsures tb_trieds tb_fed tb_seat tb_one tb_other tb_years tb_kind tb_unsure tb_may tb_tried tb_name) R0.1 := by
  refine xI_of (by decide) (Nat.le_of_ble_eq_true rfl) (fun p e s m args below meth c A C ls hl G => ?_)
  have hx := C.1
  have hb := C.2.1
  have hl : lv_has ls 2 [(0, .ref (ad 0))] := hl
  unfold f_M_allIn at hf
  refine lv_aload_n hx hb dX12_allIn_0 rfl (lv_at hl 0 rfl) ?_
  refine lv_iconst (v := 0) hx hb dX12_allIn_1 (by decide) ?_
  refine x_put (ws' := (wM E ad (0 : Int32) m_trouble m_where m_rv m_tape m_taped m_size m_spot m_sort m_place m_number m_fault m_wrongAt m_word m_v m_x m_past m_kept m_acts m_images m_matchNow m_slopsNow m_matchesNow m_slopped m_seatBest m_fedBest m_slopsBest m_sawBest m_leastNow m_stableNow m_fitsNow m_someNow m_everyNow m_otherIn m_askLeft tb_seats tb_slack tb_saw tb_quarrel tb_people tb_pairs tb_forks tb_unsures tb_trieds tb_fed tb_seat tb_one tb_other tb_years tb_kind tb_unsure tb_may tb_tried tb_name)) C G fX12_39 (wM_at0) rfl rfl (Nat.le_of_ble_eq_true rfl) wM_set_m_thrown dX12_allIn_2 (fun H locs G => ?_)
  refine lv_aload_n hx hb dX12_allIn_5 rfl (lv_at hl 0 rfl) ?_
  refine x_get C G fX12_298.g (wM_at0) rfl dX12_allIn_6 ?_
  refine lv_ifnonnull (tgt := 18) hx hb dX12_allIn_9 (by decide) ?_
  refine lv_iconst (v := 0) hx hb dX12_allIn_18 (by decide) ?_
  refine lv_istore_n (lv' := [(1, .int (0 : Int32)), (0, .ref (ad 0))]) hx hb dX12_allIn_19 rfl hl (by decide) rfl (fun ls hl => ?_)
  obtain ⟨ox5, hr, hf⟩ := bd_go hf
  have Jx5 : ∀ x5, ox5 = .inr x5 → ∀ (H : Heap) (locs : List Loc) (ls : Array Slot), xG s E A (wM E ad (0 : Int32) x5.1 x5.2.1 m_rv m_tape m_taped m_size m_spot m_sort m_place m_number m_fault m_wrongAt m_word m_v x5.2.2.1 m_past m_kept m_acts m_images x5.2.2.2.1 x5.2.2.2.2.1 x5.2.2.2.2.2.1 x5.2.2.2.2.2.2 m_seatBest m_fedBest m_slopsBest m_sawBest m_leastNow m_stableNow m_fitsNow m_someNow m_everyNow m_otherIn m_askLeft tb_seats tb_slack tb_saw tb_quarrel tb_people tb_pairs tb_forks tb_unsures tb_trieds tb_fed tb_seat tb_one tb_other tb_years tb_kind tb_unsure tb_may tb_tried tb_name) H locs → lv_has ls 2 [(0, .ref (ad 0))] → W p l e (xR 5 109) s m args below meth c H locs 0 0 (MQ below (xqI E A (wM E ad R0.2.1 R0.2.2.1 R0.2.2.2.1 m_rv m_tape m_taped m_size m_spot m_sort m_place m_number m_fault m_wrongAt m_word m_v R0.2.2.2.2.1 m_past m_kept m_acts m_images R0.2.2.2.2.2.1 R0.2.2.2.2.2.2.1 R0.2.2.2.2.2.2.2.1 R0.2.2.2.2.2.2.2.2 m_seatBest m_fedBest m_slopsBest m_sawBest m_leastNow m_stableNow m_fitsNow m_someNow m_everyNow m_otherIn m_askLeft tb_seats tb_slack tb_saw tb_quarrel tb_people tb_pairs tb_forks tb_unsures tb_trieds tb_fed tb_seat tb_one tb_other tb_years tb_kind tb_unsure tb_may tb_tried tb_name) (some .int) R0.1) args s 0 0 A) (F0 m 59 ls []) := by
    intro x5 hq H locs ls G hl
    subst hq
    have hf := sm_r hf
    refine lv_aload_n hx hb dX12_allIn_59 rfl (lv_at hl 0 rfl) ?_
    refine lv_bipush (v := -2) hx hb dX12_allIn_60 (by decide) ?_
    obtain ⟨x6, hc, hf⟩ := bd_go hf
    refine xI_V C G (c_M_good_m_M hc) mX12_good kX12_49 (wM_at0) rfl ⟨Nat.le_of_ble_eq_true rfl, Nat.le_of_ble_eq_true rfl⟩ rfl hl.1 rfl (Nat.le_of_ble_eq_true rfl) ⟨Nat.le_refl _, Nat.le_refl _⟩ dX12_allIn_62 (fun hz H locs G => ?_)
    obtain rfl := Option.some.inj hf
    exact xI_ret C G rfl dX12_allIn_65
  have Jrx5 : ∀ r, ox5 = .inl r → r = R0 := by
    intro r hq
    subst hq
    exact Option.some.inj hf
  exact w_M_allIn_m_M_L20 C Jrx5 Jx5 fu _ _ _ _ _ _ _ _ _ G (lv_sub hl [1, 0] rfl) hr
set_option maxHeartbeats 4000000 in
set_option maxRecDepth 100000 in
theorem w_M_notesSeats_m_M_L48 {p : Program} {l : Launch} {e : Env} {s : State} {m : MethodId} {args : Array Value} {below : List Frame} {meth : Method} {c : Code} {A : Nat → Prop} {E : xE} {Q : State → Prop} {ad : Nat → Nat} {m_thrown m_trouble m_where m_taped m_size m_spot m_sort m_place m_number m_fault m_wrongAt m_acts m_images m_matchNow m_slopsNow m_matchesNow m_fedBest m_slopsBest m_sawBest m_leastNow m_stableNow m_fitsNow m_someNow m_everyNow m_askLeft tb_seats tb_slack tb_saw tb_quarrel tb_people tb_pairs tb_forks tb_unsures tb_trieds tb_fed : Int32} {m_rv : Value} {m_tape m_v m_x m_past m_kept m_slopped m_otherIn tb_seat tb_one tb_other tb_years tb_kind tb_unsure tb_may tb_tried : Nat → Int32} {m_word : Int64} {tb_name : Nat → Int64} {o : (Nat → Int32)} (C : xC p s m args meth c cX12_notesSeats 3 RX12 E A none) (J : ∀ (H : Heap) (locs : List Loc) (ls : Array Slot), xG s E A (wM E ad m_thrown m_trouble m_where m_rv m_tape m_taped m_size m_spot m_sort m_place m_number m_fault m_wrongAt m_word m_v m_x m_past m_kept m_acts m_images m_matchNow m_slopsNow m_matchesNow m_slopped o m_fedBest m_slopsBest m_sawBest m_leastNow m_stableNow m_fitsNow m_someNow m_everyNow m_otherIn m_askLeft tb_seats tb_slack tb_saw tb_quarrel tb_people tb_pairs tb_forks tb_unsures tb_trieds tb_fed tb_seat tb_one tb_other tb_years tb_kind tb_unsure tb_may tb_tried tb_name) H locs → lv_has ls 3 [] → W p l e (xR 5 109) s m args below meth c H locs 0 0 Q (F0 m 77 ls [])) :
    ∀ (n : Nat) (l2 : Int32) (m_seatBest : Nat → Int32) (H : Heap) (locs : List Loc) (ls : Array Slot), xG s E A (wM E ad m_thrown m_trouble m_where m_rv m_tape m_taped m_size m_spot m_sort m_place m_number m_fault m_wrongAt m_word m_v m_x m_past m_kept m_acts m_images m_matchNow m_slopsNow m_matchesNow m_slopped m_seatBest m_fedBest m_slopsBest m_sawBest m_leastNow m_stableNow m_fitsNow m_someNow m_everyNow m_otherIn m_askLeft tb_seats tb_slack tb_saw tb_quarrel tb_people tb_pairs tb_forks tb_unsures tb_trieds tb_fed tb_seat tb_one tb_other tb_years tb_kind tb_unsure tb_may tb_tried tb_name) H locs → lv_has ls 3 [(0, .ref (ad 0)), (2, .int l2)] → f_M_notesSeats_L48 m_x tb_people n l2 m_seatBest = some o → W p l e (xR 5 109) s m args below meth c H locs 0 0 Q (F0 m 48 ls []) := by
  have hx := C.1
  have hb := C.2.1
  intro n
  induction n with
  | zero =>
    intro l2 m_seatBest H locs ls G hl hf
    exact nomatch (show (none : Option ((Nat → Int32))) = some o from hf)
  | succ n ih =>
    intro l2 m_seatBest H locs ls G hl hf
    rw [f_M_notesSeats_L48] at hf
    refine lv_iload_n hx hb dX12_notesSeats_48 rfl (lv_at hl 1 rfl) ?_
    refine lv_aload_n hx hb dX12_notesSeats_49 rfl (lv_at hl 0 rfl) ?_
    refine x_get C G fX12_298.g (wM_at0) rfl dX12_notesSeats_50 ?_
    refine x_get C G fX12_177.g (wM_at9) rfl dX12_notesSeats_53 ?_
    refine lv_icmp_ge (tgt := 77) hx hb dX12_notesSeats_56 (by decide) (fun h => ?_) (fun h => ?_)
    · have hf := it_t h hf
      obtain rfl := Option.some.inj hf
      exact J _ _ _ G (lv_sub hl [] rfl)
    · have hf := it_f h hf
      refine lv_aload_n hx hb dX12_notesSeats_59 rfl (lv_at hl 0 rfl) ?_
      refine x_get C G fX12_33 (wM_at0) rfl dX12_notesSeats_60 ?_
      refine lv_iload_n hx hb dX12_notesSeats_63 rfl (lv_at hl 1 rfl) ?_
      refine lv_aload_n hx hb dX12_notesSeats_64 rfl (lv_at hl 0 rfl) ?_
      refine x_get C G fX12_21 (wM_at0) rfl dX12_notesSeats_65 ?_
      refine lv_iload_n hx hb dX12_notesSeats_68 rfl (lv_at hl 1 rfl) ?_
      have hi := ck_in hf
      have hf := ck_go hf
      refine x_iald C G (wM_at3) hi dX12_notesSeats_69 ?_
      have hi := ck_in hf
      have hf := ck_go hf
      refine x_iast (ws' := (wM E ad m_thrown m_trouble m_where m_rv m_tape m_taped m_size m_spot m_sort m_place m_number m_fault m_wrongAt m_word m_v m_x m_past m_kept m_acts m_images m_matchNow m_slopsNow m_matchesNow m_slopped (upd m_seatBest l2.toNatClampNeg (m_x l2.toNatClampNeg)) m_fedBest m_slopsBest m_sawBest m_leastNow m_stableNow m_fitsNow m_someNow m_everyNow m_otherIn m_askLeft tb_seats tb_slack tb_saw tb_quarrel tb_people tb_pairs tb_forks tb_unsures tb_trieds tb_fed tb_seat tb_one tb_other tb_years tb_kind tb_unsure tb_may tb_tried tb_name)) C G (wM_at7) hi wM_set_m_seatBest dX12_notesSeats_70 (fun H locs G => ?_)
      obtain ⟨x3, ex3⟩ : ∃ z : Int32, z = l2 + (1 : Int32) := ⟨_, rfl⟩
      have hf := lt_go ex3 hf
      refine lv_iinc (v := x3) (lv' := [(2, .int x3), (0, .ref (ad 0))]) hx hb dX12_notesSeats_71 hl (k := 1) rfl (by rw [ex3]; rfl) (by decide) rfl (fun ls hl => ?_)
      refine lv_goto (tgt := 48) hx hb dX12_notesSeats_74 (by decide) ?_
      exact ih x3 (upd m_seatBest l2.toNatClampNeg (m_x l2.toNatClampNeg)) _ _ _ G (lv_sub hl [1, 0] rfl) hf
set_option maxHeartbeats 4000000 in
set_option maxRecDepth 100000 in
theorem c_M_notesSeats_m_M {l : Launch} {E : xE} {ad : Nat → Nat} {m_thrown m_trouble m_where m_taped m_size m_spot m_sort m_place m_number m_fault m_wrongAt m_acts m_images m_matchNow m_slopsNow m_matchesNow m_fedBest m_slopsBest m_sawBest m_leastNow m_stableNow m_fitsNow m_someNow m_everyNow m_askLeft tb_seats tb_slack tb_saw tb_quarrel tb_people tb_pairs tb_forks tb_unsures tb_trieds tb_fed : Int32} {m_rv : Value} {m_tape m_v m_x m_past m_kept m_slopped m_seatBest m_otherIn tb_seat tb_one tb_other tb_years tb_kind tb_unsure tb_may tb_tried : Nat → Int32} {m_word : Int64} {tb_name : Nat → Int64} {R0 : Int32 × Int32 × Int32 × (Nat → Int32) × (Nat → Int32) × Int32 × Int32} (hf : f_M_notesSeats m_x m_slopped m_seatBest m_fedBest m_slopsBest tb_seats tb_slack tb_people = some R0) : xV l E yX12_notesSeats cX12_notesSeats 3 none 5 109 [.ref (ad 0)] (wM E ad m_thrown m_trouble m_where m_rv m_tape m_taped m_size m_spot m_sort m_place m_number m_fault m_wrongAt m_word m_v m_x m_past m_kept m_acts m_images m_matchNow m_slopsNow m_matchesNow m_slopped m_seatBest m_fedBest m_slopsBest m_sawBest m_leastNow m_stableNow m_fitsNow m_someNow m_everyNow m_otherIn m_askLeft tb_seats tb_slack tb_saw tb_quarrel tb_people tb_pairs tb_forks tb_unsures tb_trieds tb_fed tb_seat tb_one tb_other tb_years tb_kind tb_unsure tb_may tb_tried tb_name) (wM E ad m_thrown m_trouble m_where m_rv m_tape m_taped m_size m_spot m_sort m_place m_number m_fault m_wrongAt m_word m_v m_x m_past m_kept m_acts m_images R0.1 R0.2.1 R0.2.2.1 R0.2.2.2.1 R0.2.2.2.2.1 R0.2.2.2.2.2.1 R0.2.2.2.2.2.2 m_sawBest m_leastNow m_stableNow m_fitsNow m_someNow m_everyNow m_otherIn m_askLeft tb_seats tb_slack tb_saw tb_quarrel tb_people tb_pairs tb_forks tb_unsures tb_trieds tb_fed tb_seat tb_one tb_other tb_years tb_kind tb_unsure tb_may tb_tried tb_name) := by
  refine xV_of (by decide) (Nat.le_of_ble_eq_true rfl) (fun p e s m args below meth c A C ls hl G => ?_)
  have hx := C.1
  have hb := C.2.1
  have hl : lv_has ls 3 [(0, .ref (ad 0))] := hl
  unfold f_M_notesSeats at hf
  refine lv_aload_n hx hb dX12_notesSeats_0 rfl (lv_at hl 0 rfl) ?_
  obtain ⟨x1, hc, hf⟩ := bd_go hf
  refine xI_V C G (c_M_matching_m_M hc) mX12_matching kX12_366 (wM_at0) rfl ⟨Nat.le_of_ble_eq_true rfl, Nat.le_of_ble_eq_true rfl⟩ rfl hl.1 rfl (Nat.le_of_ble_eq_true rfl) ⟨Nat.le_refl _, Nat.le_refl _⟩ dX12_notesSeats_1 (fun hz H locs G => ?_)
  refine lv_istore_n (lv' := [(1, .int x1.1), (0, .ref (ad 0))]) hx hb dX12_notesSeats_4 rfl hl (by decide) rfl (fun ls hl => ?_)
  refine lv_iload_n hx hb dX12_notesSeats_5 rfl (lv_at hl 0 rfl) ?_
  refine lv_aload_n hx hb dX12_notesSeats_6 rfl (lv_at hl 1 rfl) ?_
  refine x_get C G fX12_382.g (wM_at0) rfl dX12_notesSeats_7 ?_
  obtain ⟨b2, hr, hf⟩ := bd_go hf
  cases b2 with
  | true =>
    have hf := it_t rfl hf
    have J : ∀ (H : Heap) (locs : List Loc), xG s E A (wM E ad m_thrown m_trouble m_where m_rv m_tape m_taped m_size m_spot m_sort m_place m_number m_fault m_wrongAt m_word m_v m_x m_past m_kept m_acts m_images x1.2.1 x1.2.2.1 x1.2.2.2.1 x1.2.2.2.2 m_seatBest m_fedBest m_slopsBest m_sawBest m_leastNow m_stableNow m_fitsNow m_someNow m_everyNow m_otherIn m_askLeft tb_seats tb_slack tb_saw tb_quarrel tb_people tb_pairs tb_forks tb_unsures tb_trieds tb_fed tb_seat tb_one tb_other tb_years tb_kind tb_unsure tb_may tb_tried tb_name) H locs → W p l e (xR 5 109) s m args below meth c H locs 0 0 (MQ below (xqV E A (wM E ad m_thrown m_trouble m_where m_rv m_tape m_taped m_size m_spot m_sort m_place m_number m_fault m_wrongAt m_word m_v m_x m_past m_kept m_acts m_images R0.1 R0.2.1 R0.2.2.1 R0.2.2.2.1 R0.2.2.2.2.1 R0.2.2.2.2.2.1 R0.2.2.2.2.2.2 m_sawBest m_leastNow m_stableNow m_fitsNow m_someNow m_everyNow m_otherIn m_askLeft tb_seats tb_slack tb_saw tb_quarrel tb_people tb_pairs tb_forks tb_unsures tb_trieds tb_fed tb_seat tb_one tb_other tb_years tb_kind tb_unsure tb_may tb_tried tb_name)) args s 0 0 A) (F0 m 32 ls []) := by
      intro H locs G
      obtain rfl := Option.some.inj hf
      exact xV_ret C G dX12_notesSeats_32
    have hf := hr
    clear hr
    refine lv_icmp_lt (tgt := 32) hx hb dX12_notesSeats_10 (by decide) (fun h => ?_) (fun h => ?_)
    · have hf := it_t h hf
      exact J _ _ G
    · have hf := it_f h hf
      refine lv_iload_n hx hb dX12_notesSeats_13 rfl (lv_at hl 0 rfl) ?_
      refine lv_aload_n hx hb dX12_notesSeats_14 rfl (lv_at hl 1 rfl) ?_
      refine x_get C G fX12_382.g (wM_at0) rfl dX12_notesSeats_15 ?_
      refine lv_icmp_ne (tgt := 33) hx hb dX12_notesSeats_18 (by decide) (fun h => ?_) (fun h => ?_)
      · have hf := it_f h hf
        exact absurd (Option.some.inj hf) (by decide)
      · have hf := it_t h hf
        refine lv_aload_n hx hb dX12_notesSeats_21 rfl (lv_at hl 1 rfl) ?_
        refine x_get C G fX12_357.g (wM_at0) rfl dX12_notesSeats_22 ?_
        refine lv_aload_n hx hb dX12_notesSeats_25 rfl (lv_at hl 1 rfl) ?_
        refine x_get C G fX12_385.g (wM_at0) rfl dX12_notesSeats_26 ?_
        refine lv_icmp_lt (tgt := 33) hx hb dX12_notesSeats_29 (by decide) (fun h => ?_) (fun h => ?_)
        · have hf := it_t h hf
          exact absurd (Option.some.inj hf) (by decide)
        · have hf := it_f h hf
          exact J _ _ G
  | false =>
    have hf := it_f (by decide) hf
    have J : ∀ (H : Heap) (locs : List Loc), xG s E A (wM E ad m_thrown m_trouble m_where m_rv m_tape m_taped m_size m_spot m_sort m_place m_number m_fault m_wrongAt m_word m_v m_x m_past m_kept m_acts m_images x1.2.1 x1.2.2.1 x1.2.2.2.1 x1.2.2.2.2 m_seatBest m_fedBest m_slopsBest m_sawBest m_leastNow m_stableNow m_fitsNow m_someNow m_everyNow m_otherIn m_askLeft tb_seats tb_slack tb_saw tb_quarrel tb_people tb_pairs tb_forks tb_unsures tb_trieds tb_fed tb_seat tb_one tb_other tb_years tb_kind tb_unsure tb_may tb_tried tb_name) H locs → W p l e (xR 5 109) s m args below meth c H locs 0 0 (MQ below (xqV E A (wM E ad m_thrown m_trouble m_where m_rv m_tape m_taped m_size m_spot m_sort m_place m_number m_fault m_wrongAt m_word m_v m_x m_past m_kept m_acts m_images R0.1 R0.2.1 R0.2.2.1 R0.2.2.2.1 R0.2.2.2.2.1 R0.2.2.2.2.2.1 R0.2.2.2.2.2.2 m_sawBest m_leastNow m_stableNow m_fitsNow m_someNow m_everyNow m_otherIn m_askLeft tb_seats tb_slack tb_saw tb_quarrel tb_people tb_pairs tb_forks tb_unsures tb_trieds tb_fed tb_seat tb_one tb_other tb_years tb_kind tb_unsure tb_may tb_tried tb_name)) args s 0 0 A) (F0 m 33 ls []) := by
      intro H locs G
      refine lv_aload_n hx hb dX12_notesSeats_33 rfl (lv_at hl 1 rfl) ?_
      refine lv_iload_n hx hb dX12_notesSeats_34 rfl (lv_at hl 0 rfl) ?_
      refine x_put (ws' := (wM E ad m_thrown m_trouble m_where m_rv m_tape m_taped m_size m_spot m_sort m_place m_number m_fault m_wrongAt m_word m_v m_x m_past m_kept m_acts m_images x1.2.1 x1.2.2.1 x1.2.2.2.1 x1.2.2.2.2 m_seatBest x1.1 m_slopsBest m_sawBest m_leastNow m_stableNow m_fitsNow m_someNow m_everyNow m_otherIn m_askLeft tb_seats tb_slack tb_saw tb_quarrel tb_people tb_pairs tb_forks tb_unsures tb_trieds tb_fed tb_seat tb_one tb_other tb_years tb_kind tb_unsure tb_may tb_tried tb_name)) C G fX12_382 (wM_at0) rfl rfl (Nat.le_of_ble_eq_true rfl) wM_set_m_fedBest dX12_notesSeats_35 (fun H locs G => ?_)
      refine lv_aload_n hx hb dX12_notesSeats_38 rfl (lv_at hl 1 rfl) ?_
      refine lv_aload_n hx hb dX12_notesSeats_39 rfl (lv_at hl 1 rfl) ?_
      refine x_get C G fX12_357.g (wM_at0) rfl dX12_notesSeats_40 ?_
      refine x_put (ws' := (wM E ad m_thrown m_trouble m_where m_rv m_tape m_taped m_size m_spot m_sort m_place m_number m_fault m_wrongAt m_word m_v m_x m_past m_kept m_acts m_images x1.2.1 x1.2.2.1 x1.2.2.2.1 x1.2.2.2.2 m_seatBest x1.1 x1.2.2.1 m_sawBest m_leastNow m_stableNow m_fitsNow m_someNow m_everyNow m_otherIn m_askLeft tb_seats tb_slack tb_saw tb_quarrel tb_people tb_pairs tb_forks tb_unsures tb_trieds tb_fed tb_seat tb_one tb_other tb_years tb_kind tb_unsure tb_may tb_tried tb_name)) C G fX12_385 (wM_at0) rfl rfl (Nat.le_of_ble_eq_true rfl) wM_set_m_slopsBest dX12_notesSeats_43 (fun H locs G => ?_)
      refine lv_iconst (v := 0) hx hb dX12_notesSeats_46 (by decide) ?_
      refine lv_istore_n (lv' := [(2, .int (0 : Int32)), (1, .int x1.1), (0, .ref (ad 0))]) hx hb dX12_notesSeats_47 rfl hl (by decide) rfl (fun ls hl => ?_)
      obtain ⟨x4, hr, hf⟩ := bd_go hf
      have Jx4 : ∀ (H : Heap) (locs : List Loc) (ls : Array Slot), xG s E A (wM E ad m_thrown m_trouble m_where m_rv m_tape m_taped m_size m_spot m_sort m_place m_number m_fault m_wrongAt m_word m_v m_x m_past m_kept m_acts m_images x1.2.1 x1.2.2.1 x1.2.2.2.1 x1.2.2.2.2 x4 x1.1 x1.2.2.1 m_sawBest m_leastNow m_stableNow m_fitsNow m_someNow m_everyNow m_otherIn m_askLeft tb_seats tb_slack tb_saw tb_quarrel tb_people tb_pairs tb_forks tb_unsures tb_trieds tb_fed tb_seat tb_one tb_other tb_years tb_kind tb_unsure tb_may tb_tried tb_name) H locs → lv_has ls 3 [] → W p l e (xR 5 109) s m args below meth c H locs 0 0 (MQ below (xqV E A (wM E ad m_thrown m_trouble m_where m_rv m_tape m_taped m_size m_spot m_sort m_place m_number m_fault m_wrongAt m_word m_v m_x m_past m_kept m_acts m_images R0.1 R0.2.1 R0.2.2.1 R0.2.2.2.1 R0.2.2.2.2.1 R0.2.2.2.2.2.1 R0.2.2.2.2.2.2 m_sawBest m_leastNow m_stableNow m_fitsNow m_someNow m_everyNow m_otherIn m_askLeft tb_seats tb_slack tb_saw tb_quarrel tb_people tb_pairs tb_forks tb_unsures tb_trieds tb_fed tb_seat tb_one tb_other tb_years tb_kind tb_unsure tb_may tb_tried tb_name)) args s 0 0 A) (F0 m 77 ls []) := by
        intro H locs ls G hl
        obtain rfl := Option.some.inj hf
        exact xV_ret C G dX12_notesSeats_77
      exact w_M_notesSeats_m_M_L48 C Jx4 fu _ _ _ _ _ G (lv_sub hl [2, 0] rfl) hr
    have hf := hr
    clear hr
    refine lv_icmp_lt (tgt := 32) hx hb dX12_notesSeats_10 (by decide) (fun h => ?_) (fun h => ?_)
    · have hf := it_t h hf
      exact absurd (Option.some.inj hf) (by decide)
    · have hf := it_f h hf
      refine lv_iload_n hx hb dX12_notesSeats_13 rfl (lv_at hl 0 rfl) ?_
      refine lv_aload_n hx hb dX12_notesSeats_14 rfl (lv_at hl 1 rfl) ?_
      refine x_get C G fX12_382.g (wM_at0) rfl dX12_notesSeats_15 ?_
      refine lv_icmp_ne (tgt := 33) hx hb dX12_notesSeats_18 (by decide) (fun h => ?_) (fun h => ?_)
      · have hf := it_f h hf
        exact J _ _ G
      · have hf := it_t h hf
        refine lv_aload_n hx hb dX12_notesSeats_21 rfl (lv_at hl 1 rfl) ?_
        refine x_get C G fX12_357.g (wM_at0) rfl dX12_notesSeats_22 ?_
        refine lv_aload_n hx hb dX12_notesSeats_25 rfl (lv_at hl 1 rfl) ?_
        refine x_get C G fX12_385.g (wM_at0) rfl dX12_notesSeats_26 ?_
        refine lv_icmp_lt (tgt := 33) hx hb dX12_notesSeats_29 (by decide) (fun h => ?_) (fun h => ?_)
        · have hf := it_t h hf
          exact J _ _ G
        · have hf := it_f h hf
          exact absurd (Option.some.inj hf) (by decide)
set_option maxHeartbeats 4000000 in
set_option maxRecDepth 100000 in
theorem w_M_isFree_m_M_L2 {p : Program} {l : Launch} {e : Env} {s : State} {m : MethodId} {args : Array Value} {below : List Frame} {meth : Method} {c : Code} {A : Nat → Prop} {E : xE} {ad : Nat → Nat} {m_thrown m_trouble m_where m_taped m_size m_spot m_sort m_place m_number m_fault m_wrongAt m_acts m_images m_matchNow m_slopsNow m_matchesNow m_fedBest m_slopsBest m_sawBest m_leastNow m_stableNow m_fitsNow m_someNow m_everyNow m_askLeft tb_seats tb_slack tb_saw tb_quarrel tb_people tb_pairs tb_forks tb_unsures tb_trieds tb_fed : Int32} {m_rv : Value} {m_tape m_v m_x m_past m_kept m_slopped m_seatBest m_otherIn tb_seat tb_one tb_other tb_years tb_kind tb_unsure tb_may tb_tried : Nat → Int32} {m_word : Int64} {tb_name : Nat → Int64} {l1 : Int32} {l2 : Int32} {o : (Int32) ⊕ (Unit)} {R0 : Int32} (C : xC p s m args meth c cX12_isFree 4 RX12 E A (some .boolean)) (Jr : ∀ r, o = .inl r → r = R0) (J : ∀ t, o = .inr t → ∀ (H : Heap) (locs : List Loc) (ls : Array Slot), xG s E A (wM E ad m_thrown m_trouble m_where m_rv m_tape m_taped m_size m_spot m_sort m_place m_number m_fault m_wrongAt m_word m_v m_x m_past m_kept m_acts m_images m_matchNow m_slopsNow m_matchesNow m_slopped m_seatBest m_fedBest m_slopsBest m_sawBest m_leastNow m_stableNow m_fitsNow m_someNow m_everyNow m_otherIn m_askLeft tb_seats tb_slack tb_saw tb_quarrel tb_people tb_pairs tb_forks tb_unsures tb_trieds tb_fed tb_seat tb_one tb_other tb_years tb_kind tb_unsure tb_may tb_tried tb_name) H locs → lv_has ls 4 [] → W p l e (xR 0 0) s m args below meth c H locs 0 0 (MQ below (xqI E A (wM E ad m_thrown m_trouble m_where m_rv m_tape m_taped m_size m_spot m_sort m_place m_number m_fault m_wrongAt m_word m_v m_x m_past m_kept m_acts m_images m_matchNow m_slopsNow m_matchesNow m_slopped m_seatBest m_fedBest m_slopsBest m_sawBest m_leastNow m_stableNow m_fitsNow m_someNow m_everyNow m_otherIn m_askLeft tb_seats tb_slack tb_saw tb_quarrel tb_people tb_pairs tb_forks tb_unsures tb_trieds tb_fed tb_seat tb_one tb_other tb_years tb_kind tb_unsure tb_may tb_tried tb_name) (some .boolean) R0) args s 0 0 A) (F0 m 25 ls [])) :
    ∀ (n : Nat) (l3 : Int32) (H : Heap) (locs : List Loc) (ls : Array Slot), xG s E A (wM E ad m_thrown m_trouble m_where m_rv m_tape m_taped m_size m_spot m_sort m_place m_number m_fault m_wrongAt m_word m_v m_x m_past m_kept m_acts m_images m_matchNow m_slopsNow m_matchesNow m_slopped m_seatBest m_fedBest m_slopsBest m_sawBest m_leastNow m_stableNow m_fitsNow m_someNow m_everyNow m_otherIn m_askLeft tb_seats tb_slack tb_saw tb_quarrel tb_people tb_pairs tb_forks tb_unsures tb_trieds tb_fed tb_seat tb_one tb_other tb_years tb_kind tb_unsure tb_may tb_tried tb_name) H locs → lv_has ls 4 [(0, .ref (ad 0)), (1, .int l1), (2, .int l2), (3, .int l3)] → f_M_isFree_L2 l1 l2 m_x n l3 = some o → W p l e (xR 0 0) s m args below meth c H locs 0 0 (MQ below (xqI E A (wM E ad m_thrown m_trouble m_where m_rv m_tape m_taped m_size m_spot m_sort m_place m_number m_fault m_wrongAt m_word m_v m_x m_past m_kept m_acts m_images m_matchNow m_slopsNow m_matchesNow m_slopped m_seatBest m_fedBest m_slopsBest m_sawBest m_leastNow m_stableNow m_fitsNow m_someNow m_everyNow m_otherIn m_askLeft tb_seats tb_slack tb_saw tb_quarrel tb_people tb_pairs tb_forks tb_unsures tb_trieds tb_fed tb_seat tb_one tb_other tb_years tb_kind tb_unsure tb_may tb_tried tb_name) (some .boolean) R0) args s 0 0 A) (F0 m 2 ls []) := by
  have hx := C.1
  have hb := C.2.1
  intro n
  induction n with
  | zero =>
    intro l3 H locs ls G hl hf
    exact nomatch (show (none : Option ((Int32) ⊕ (Unit))) = some o from hf)
  | succ n ih =>
    intro l3 H locs ls G hl hf
    rw [f_M_isFree_L2] at hf
    refine lv_iload_n hx hb dX12_isFree_2 rfl (lv_at hl 3 rfl) ?_
    refine lv_iload_n hx hb dX12_isFree_3 rfl (lv_at hl 2 rfl) ?_
    refine lv_icmp_ge (tgt := 25) hx hb dX12_isFree_4 (by decide) (fun h => ?_) (fun h => ?_)
    · have hf := it_t h hf
      exact J _ (Option.some.inj hf).symm _ _ _ G (lv_sub hl [] rfl)
    · have hf := it_f h hf
      refine lv_aload_n hx hb dX12_isFree_7 rfl (lv_at hl 0 rfl) ?_
      refine x_get C G fX12_21 (wM_at0) rfl dX12_isFree_8 ?_
      refine lv_iload_n hx hb dX12_isFree_11 rfl (lv_at hl 3 rfl) ?_
      have hi := ck_in hf
      have hf := ck_go hf
      refine x_iald C G (wM_at3) hi dX12_isFree_12 ?_
      refine lv_iload_n hx hb dX12_isFree_13 rfl (lv_at hl 1 rfl) ?_
      refine lv_icmp_ne (tgt := 19) hx hb dX12_isFree_14 (by decide) (fun h => ?_) (fun h => ?_)
      · have hf := it_f h hf
        obtain ⟨x1, ex1⟩ : ∃ z : Int32, z = l3 + (1 : Int32) := ⟨_, rfl⟩
        have hf := lt_go ex1 hf
        refine lv_iinc (v := x1) (lv' := [(3, .int x1), (0, .ref (ad 0)), (1, .int l1), (2, .int l2)]) hx hb dX12_isFree_19 hl (k := 3) rfl (by rw [ex1]; rfl) (by decide) rfl (fun ls hl => ?_)
        refine lv_goto (tgt := 2) hx hb dX12_isFree_22 (by decide) ?_
        exact ih x1 _ _ _ G (lv_sub hl [1, 2, 3, 0] rfl) hf
      · have hf := it_t h hf
        refine lv_iconst (v := 0) hx hb dX12_isFree_17 (by decide) ?_
        obtain rfl := Jr _ (Option.some.inj hf).symm
        exact xI_ret (r := (0 : Int32)) C G rfl dX12_isFree_18
set_option maxHeartbeats 4000000 in
set_option maxRecDepth 100000 in
theorem c_M_isFree_m_M {l : Launch} {E : xE} {ad : Nat → Nat} {m_thrown m_trouble m_where m_taped m_size m_spot m_sort m_place m_number m_fault m_wrongAt m_acts m_images m_matchNow m_slopsNow m_matchesNow m_fedBest m_slopsBest m_sawBest m_leastNow m_stableNow m_fitsNow m_someNow m_everyNow m_askLeft tb_seats tb_slack tb_saw tb_quarrel tb_people tb_pairs tb_forks tb_unsures tb_trieds tb_fed : Int32} {m_rv : Value} {m_tape m_v m_x m_past m_kept m_slopped m_seatBest m_otherIn tb_seat tb_one tb_other tb_years tb_kind tb_unsure tb_may tb_tried : Nat → Int32} {m_word : Int64} {tb_name : Nat → Int64} {l1 : Int32} {l2 : Int32} {R0 : Int32} (hf : f_M_isFree l1 l2 m_x = some R0) : xI l E yX12_isFree cX12_isFree 4 (some .boolean) 0 0 [.ref (ad 0), .int l1, .int l2] (wM E ad m_thrown m_trouble m_where m_rv m_tape m_taped m_size m_spot m_sort m_place m_number m_fault m_wrongAt m_word m_v m_x m_past m_kept m_acts m_images m_matchNow m_slopsNow m_matchesNow m_slopped m_seatBest m_fedBest m_slopsBest m_sawBest m_leastNow m_stableNow m_fitsNow m_someNow m_everyNow m_otherIn m_askLeft tb_seats tb_slack tb_saw tb_quarrel tb_people tb_pairs tb_forks tb_unsures tb_trieds tb_fed tb_seat tb_one tb_other tb_years tb_kind tb_unsure tb_may tb_tried tb_name) (wM E ad m_thrown m_trouble m_where m_rv m_tape m_taped m_size m_spot m_sort m_place m_number m_fault m_wrongAt m_word m_v m_x m_past m_kept m_acts m_images m_matchNow m_slopsNow m_matchesNow m_slopped m_seatBest m_fedBest m_slopsBest m_sawBest m_leastNow m_stableNow m_fitsNow m_someNow m_everyNow m_otherIn m_askLeft tb_seats tb_slack tb_saw tb_quarrel tb_people tb_pairs tb_forks tb_unsures tb_trieds tb_fed tb_seat tb_one tb_other tb_years tb_kind tb_unsure tb_may tb_tried tb_name) R0 := by
  refine xI_of (by decide) (Nat.le_of_ble_eq_true rfl) (fun p e s m args below meth c A C ls hl G => ?_)
  have hx := C.1
  have hb := C.2.1
  have hl : lv_has ls 4 [(0, .ref (ad 0)), (1, .int l1), (2, .int l2)] := hl
  unfold f_M_isFree at hf
  refine lv_iconst (v := 0) hx hb dX12_isFree_0 (by decide) ?_
  refine lv_istore_n (lv' := [(3, .int (0 : Int32)), (0, .ref (ad 0)), (1, .int l1), (2, .int l2)]) hx hb dX12_isFree_1 rfl hl (by decide) rfl (fun ls hl => ?_)
  obtain ⟨ox2, hr, hf⟩ := bd_go hf
  have Jx2 : ∀ x2, ox2 = .inr x2 → ∀ (H : Heap) (locs : List Loc) (ls : Array Slot), xG s E A (wM E ad m_thrown m_trouble m_where m_rv m_tape m_taped m_size m_spot m_sort m_place m_number m_fault m_wrongAt m_word m_v m_x m_past m_kept m_acts m_images m_matchNow m_slopsNow m_matchesNow m_slopped m_seatBest m_fedBest m_slopsBest m_sawBest m_leastNow m_stableNow m_fitsNow m_someNow m_everyNow m_otherIn m_askLeft tb_seats tb_slack tb_saw tb_quarrel tb_people tb_pairs tb_forks tb_unsures tb_trieds tb_fed tb_seat tb_one tb_other tb_years tb_kind tb_unsure tb_may tb_tried tb_name) H locs → lv_has ls 4 [] → W p l e (xR 0 0) s m args below meth c H locs 0 0 (MQ below (xqI E A (wM E ad m_thrown m_trouble m_where m_rv m_tape m_taped m_size m_spot m_sort m_place m_number m_fault m_wrongAt m_word m_v m_x m_past m_kept m_acts m_images m_matchNow m_slopsNow m_matchesNow m_slopped m_seatBest m_fedBest m_slopsBest m_sawBest m_leastNow m_stableNow m_fitsNow m_someNow m_everyNow m_otherIn m_askLeft tb_seats tb_slack tb_saw tb_quarrel tb_people tb_pairs tb_forks tb_unsures tb_trieds tb_fed tb_seat tb_one tb_other tb_years tb_kind tb_unsure tb_may tb_tried tb_name) (some .boolean) R0) args s 0 0 A) (F0 m 25 ls []) := by
    intro x2 hq H locs ls G hl
    subst hq
    have hf := sm_r hf
    refine lv_iconst (v := 1) hx hb dX12_isFree_25 (by decide) ?_
    obtain rfl := Option.some.inj hf
    exact xI_ret (r := (1 : Int32)) C G rfl dX12_isFree_26
  have Jrx2 : ∀ r, ox2 = .inl r → r = R0 := by
    intro r hq
    subst hq
    exact Option.some.inj hf
  exact w_M_isFree_m_M_L2 C Jrx2 Jx2 fu _ _ _ _ G (lv_sub hl [1, 2, 3, 0] rfl) hr
set_option maxHeartbeats 4000000 in
set_option maxRecDepth 100000 in
theorem w_M_nextFree_m_M_L2 {p : Program} {l : Launch} {e : Env} {s : State} {m : MethodId} {args : Array Value} {below : List Frame} {meth : Method} {c : Code} {A : Nat → Prop} {E : xE} {Q : State → Prop} {ad : Nat → Nat} {m_thrown m_trouble m_where m_taped m_size m_spot m_sort m_place m_number m_fault m_wrongAt m_acts m_images m_matchNow m_slopsNow m_matchesNow m_fedBest m_slopsBest m_sawBest m_leastNow m_stableNow m_fitsNow m_someNow m_everyNow m_askLeft tb_seats tb_slack tb_saw tb_quarrel tb_people tb_pairs tb_forks tb_unsures tb_trieds tb_fed : Int32} {m_rv : Value} {m_tape m_v m_x m_past m_kept m_slopped m_seatBest m_otherIn tb_seat tb_one tb_other tb_years tb_kind tb_unsure tb_may tb_tried : Nat → Int32} {m_word : Int64} {tb_name : Nat → Int64} {l1 : Int32} {o : Int32} (C : xC p s m args meth c cX12_nextFree 4 RX12 E A (some .int)) (J : ∀ (H : Heap) (locs : List Loc) (ls : Array Slot), xG s E A (wM E ad m_thrown m_trouble m_where m_rv m_tape m_taped m_size m_spot m_sort m_place m_number m_fault m_wrongAt m_word m_v m_x m_past m_kept m_acts m_images m_matchNow m_slopsNow m_matchesNow m_slopped m_seatBest m_fedBest m_slopsBest m_sawBest m_leastNow m_stableNow m_fitsNow m_someNow m_everyNow m_otherIn m_askLeft tb_seats tb_slack tb_saw tb_quarrel tb_people tb_pairs tb_forks tb_unsures tb_trieds tb_fed tb_seat tb_one tb_other tb_years tb_kind tb_unsure tb_may tb_tried tb_name) H locs → lv_has ls 4 [(3, .int o)] → W p l e (xR 1 23) s m args below meth c H locs 0 0 Q (F0 m 28 ls [])) :
    ∀ (n : Nat) (l3 : Int32) (H : Heap) (locs : List Loc) (ls : Array Slot), xG s E A (wM E ad m_thrown m_trouble m_where m_rv m_tape m_taped m_size m_spot m_sort m_place m_number m_fault m_wrongAt m_word m_v m_x m_past m_kept m_acts m_images m_matchNow m_slopsNow m_matchesNow m_slopped m_seatBest m_fedBest m_slopsBest m_sawBest m_leastNow m_stableNow m_fitsNow m_someNow m_everyNow m_otherIn m_askLeft tb_seats tb_slack tb_saw tb_quarrel tb_people tb_pairs tb_forks tb_unsures tb_trieds tb_fed tb_seat tb_one tb_other tb_years tb_kind tb_unsure tb_may tb_tried tb_name) H locs → lv_has ls 4 [(0, .ref (ad 0)), (1, .int l1), (3, .int l3)] → f_M_nextFree_L2 l1 m_x tb_seats n l3 = some o → W p l e (xR 1 23) s m args below meth c H locs 0 0 Q (F0 m 2 ls []) := by
  have hx := C.1
  have hb := C.2.1
  intro n
  induction n with
  | zero =>
    intro l3 H locs ls G hl hf
    exact nomatch (show (none : Option (Int32)) = some o from hf)
  | succ n ih =>
    intro l3 H locs ls G hl hf
    rw [f_M_nextFree_L2] at hf
    refine lv_iload_n hx hb dX12_nextFree_2 rfl (lv_at hl 2 rfl) ?_
    refine lv_aload_n hx hb dX12_nextFree_3 rfl (lv_at hl 0 rfl) ?_
    refine x_get C G fX12_298.g (wM_at0) rfl dX12_nextFree_4 ?_
    refine x_get C G fX12_149.g (wM_at9) rfl dX12_nextFree_7 ?_
    obtain ⟨b1, hr, hf⟩ := bd_go hf
    cases b1 with
    | true =>
      have hf := it_t rfl hf
      have J : ∀ (H : Heap) (locs : List Loc), xG s E A (wM E ad m_thrown m_trouble m_where m_rv m_tape m_taped m_size m_spot m_sort m_place m_number m_fault m_wrongAt m_word m_v m_x m_past m_kept m_acts m_images m_matchNow m_slopsNow m_matchesNow m_slopped m_seatBest m_fedBest m_slopsBest m_sawBest m_leastNow m_stableNow m_fitsNow m_someNow m_everyNow m_otherIn m_askLeft tb_seats tb_slack tb_saw tb_quarrel tb_people tb_pairs tb_forks tb_unsures tb_trieds tb_fed tb_seat tb_one tb_other tb_years tb_kind tb_unsure tb_may tb_tried tb_name) H locs → W p l e (xR 1 23) s m args below meth c H locs 0 0 Q (F0 m 28 ls []) := by
        intro H locs G
        obtain rfl := Option.some.inj hf
        exact J _ _ _ G (lv_sub hl [2] rfl)
      have hf := hr
      clear hr
      refine lv_icmp_ge (tgt := 28) hx hb dX12_nextFree_10 (by decide) (fun h => ?_) (fun h => ?_)
      · have hf := it_t h hf
        exact J _ _ G
      · have hf := it_f h hf
        refine lv_aload_n hx hb dX12_nextFree_13 rfl (lv_at hl 0 rfl) ?_
        refine lv_iload_n hx hb dX12_nextFree_14 rfl (lv_at hl 2 rfl) ?_
        refine lv_iload_n hx hb dX12_nextFree_15 rfl (lv_at hl 1 rfl) ?_
        obtain ⟨x2, hc, hf⟩ := bd_go hf
        refine xI_V C G (c_M_isFree_m_M hc) mX12_isFree kX12_379 (wM_at0) rfl ⟨Nat.le_of_ble_eq_true rfl, Nat.le_of_ble_eq_true rfl⟩ rfl hl.1 rfl (Nat.le_of_ble_eq_true rfl) ⟨Nat.le_refl _, Nat.le_refl _⟩ dX12_nextFree_16 (fun hz2 H locs G => ?_)
        refine lv_if_ne (tgt := 28) hx hb dX12_nextFree_19 (by decide) (fun h => ?_) (fun h => ?_)
        · have hf := it_f h hf
          exact J _ _ G
        · have hf := it_t h hf
          exact absurd (Option.some.inj hf) (by decide)
    | false =>
      have hf := it_f (by decide) hf
      have J : ∀ (H : Heap) (locs : List Loc), xG s E A (wM E ad m_thrown m_trouble m_where m_rv m_tape m_taped m_size m_spot m_sort m_place m_number m_fault m_wrongAt m_word m_v m_x m_past m_kept m_acts m_images m_matchNow m_slopsNow m_matchesNow m_slopped m_seatBest m_fedBest m_slopsBest m_sawBest m_leastNow m_stableNow m_fitsNow m_someNow m_everyNow m_otherIn m_askLeft tb_seats tb_slack tb_saw tb_quarrel tb_people tb_pairs tb_forks tb_unsures tb_trieds tb_fed tb_seat tb_one tb_other tb_years tb_kind tb_unsure tb_may tb_tried tb_name) H locs → W p l e (xR 1 23) s m args below meth c H locs 0 0 Q (F0 m 22 ls []) := by
        intro H locs G
        obtain ⟨x3, ex3⟩ : ∃ z : Int32, z = l3 + (1 : Int32) := ⟨_, rfl⟩
        have hf := lt_go ex3 hf
        refine lv_iinc (v := x3) (lv' := [(3, .int x3), (0, .ref (ad 0)), (1, .int l1)]) hx hb dX12_nextFree_22 hl (k := 2) rfl (by rw [ex3]; rfl) (by decide) rfl (fun ls hl => ?_)
        refine lv_goto (tgt := 2) hx hb dX12_nextFree_25 (by decide) ?_
        exact ih x3 _ _ _ G (lv_sub hl [1, 2, 0] rfl) hf
      have hf := hr
      clear hr
      refine lv_icmp_ge (tgt := 28) hx hb dX12_nextFree_10 (by decide) (fun h => ?_) (fun h => ?_)
      · have hf := it_t h hf
        exact absurd (Option.some.inj hf) (by decide)
      · have hf := it_f h hf
        refine lv_aload_n hx hb dX12_nextFree_13 rfl (lv_at hl 0 rfl) ?_
        refine lv_iload_n hx hb dX12_nextFree_14 rfl (lv_at hl 2 rfl) ?_
        refine lv_iload_n hx hb dX12_nextFree_15 rfl (lv_at hl 1 rfl) ?_
        obtain ⟨x4, hc, hf⟩ := bd_go hf
        refine xI_V C G (c_M_isFree_m_M hc) mX12_isFree kX12_379 (wM_at0) rfl ⟨Nat.le_of_ble_eq_true rfl, Nat.le_of_ble_eq_true rfl⟩ rfl hl.1 rfl (Nat.le_of_ble_eq_true rfl) ⟨Nat.le_refl _, Nat.le_refl _⟩ dX12_nextFree_16 (fun hz4 H locs G => ?_)
        refine lv_if_ne (tgt := 28) hx hb dX12_nextFree_19 (by decide) (fun h => ?_) (fun h => ?_)
        · have hf := it_f h hf
          exact absurd (Option.some.inj hf) (by decide)
        · have hf := it_t h hf
          exact J _ _ G
set_option maxHeartbeats 4000000 in
set_option maxRecDepth 100000 in
theorem c_M_nextFree_m_M {l : Launch} {E : xE} {ad : Nat → Nat} {m_thrown m_trouble m_where m_taped m_size m_spot m_sort m_place m_number m_fault m_wrongAt m_acts m_images m_matchNow m_slopsNow m_matchesNow m_fedBest m_slopsBest m_sawBest m_leastNow m_stableNow m_fitsNow m_someNow m_everyNow m_askLeft tb_seats tb_slack tb_saw tb_quarrel tb_people tb_pairs tb_forks tb_unsures tb_trieds tb_fed : Int32} {m_rv : Value} {m_tape m_v m_x m_past m_kept m_slopped m_seatBest m_otherIn tb_seat tb_one tb_other tb_years tb_kind tb_unsure tb_may tb_tried : Nat → Int32} {m_word : Int64} {tb_name : Nat → Int64} {l1 : Int32} {l2 : Int32} {R0 : Int32} (hf : f_M_nextFree l1 l2 m_x tb_seats = some R0) : xI l E yX12_nextFree cX12_nextFree 4 (some .int) 1 23 [.ref (ad 0), .int l1, .int l2] (wM E ad m_thrown m_trouble m_where m_rv m_tape m_taped m_size m_spot m_sort m_place m_number m_fault m_wrongAt m_word m_v m_x m_past m_kept m_acts m_images m_matchNow m_slopsNow m_matchesNow m_slopped m_seatBest m_fedBest m_slopsBest m_sawBest m_leastNow m_stableNow m_fitsNow m_someNow m_everyNow m_otherIn m_askLeft tb_seats tb_slack tb_saw tb_quarrel tb_people tb_pairs tb_forks tb_unsures tb_trieds tb_fed tb_seat tb_one tb_other tb_years tb_kind tb_unsure tb_may tb_tried tb_name) (wM E ad m_thrown m_trouble m_where m_rv m_tape m_taped m_size m_spot m_sort m_place m_number m_fault m_wrongAt m_word m_v m_x m_past m_kept m_acts m_images m_matchNow m_slopsNow m_matchesNow m_slopped m_seatBest m_fedBest m_slopsBest m_sawBest m_leastNow m_stableNow m_fitsNow m_someNow m_everyNow m_otherIn m_askLeft tb_seats tb_slack tb_saw tb_quarrel tb_people tb_pairs tb_forks tb_unsures tb_trieds tb_fed tb_seat tb_one tb_other tb_years tb_kind tb_unsure tb_may tb_tried tb_name) R0 := by
  refine xI_of (by decide) (Nat.le_of_ble_eq_true rfl) (fun p e s m args below meth c A C ls hl G => ?_)
  have hx := C.1
  have hb := C.2.1
  have hl : lv_has ls 4 [(0, .ref (ad 0)), (1, .int l1), (2, .int l2)] := hl
  unfold f_M_nextFree at hf
  refine lv_iload_n hx hb dX12_nextFree_0 rfl (lv_at hl 2 rfl) ?_
  refine lv_istore_n (lv' := [(3, .int l2), (0, .ref (ad 0)), (1, .int l1), (2, .int l2)]) hx hb dX12_nextFree_1 rfl hl (by decide) rfl (fun ls hl => ?_)
  obtain ⟨x5, hr, hf⟩ := bd_go hf
  have Jx5 : ∀ (H : Heap) (locs : List Loc) (ls : Array Slot), xG s E A (wM E ad m_thrown m_trouble m_where m_rv m_tape m_taped m_size m_spot m_sort m_place m_number m_fault m_wrongAt m_word m_v m_x m_past m_kept m_acts m_images m_matchNow m_slopsNow m_matchesNow m_slopped m_seatBest m_fedBest m_slopsBest m_sawBest m_leastNow m_stableNow m_fitsNow m_someNow m_everyNow m_otherIn m_askLeft tb_seats tb_slack tb_saw tb_quarrel tb_people tb_pairs tb_forks tb_unsures tb_trieds tb_fed tb_seat tb_one tb_other tb_years tb_kind tb_unsure tb_may tb_tried tb_name) H locs → lv_has ls 4 [(3, .int x5)] → W p l e (xR 1 23) s m args below meth c H locs 0 0 (MQ below (xqI E A (wM E ad m_thrown m_trouble m_where m_rv m_tape m_taped m_size m_spot m_sort m_place m_number m_fault m_wrongAt m_word m_v m_x m_past m_kept m_acts m_images m_matchNow m_slopsNow m_matchesNow m_slopped m_seatBest m_fedBest m_slopsBest m_sawBest m_leastNow m_stableNow m_fitsNow m_someNow m_everyNow m_otherIn m_askLeft tb_seats tb_slack tb_saw tb_quarrel tb_people tb_pairs tb_forks tb_unsures tb_trieds tb_fed tb_seat tb_one tb_other tb_years tb_kind tb_unsure tb_may tb_tried tb_name) (some .int) R0) args s 0 0 A) (F0 m 28 ls []) := by
    intro H locs ls G hl
    refine lv_iload_n hx hb dX12_nextFree_28 rfl (lv_at hl 0 rfl) ?_
    obtain rfl := Option.some.inj hf
    exact xI_ret C G rfl dX12_nextFree_29
  exact w_M_nextFree_m_M_L2 C Jx5 fu _ _ _ _ G (lv_sub hl [1, 2, 0] rfl) hr
set_option maxHeartbeats 4000000 in
set_option maxRecDepth 100000 in
theorem w_M_seats_m_M_L25 {p : Program} {l : Launch} {e : Env} {s : State} {m : MethodId} {args : Array Value} {below : List Frame} {meth : Method} {c : Code} {A : Nat → Prop} {E : xE} {Q : State → Prop} {ad : Nat → Nat} {m_thrown m_trouble m_where m_taped m_size m_spot m_sort m_place m_number m_fault m_wrongAt m_acts m_images m_sawBest m_leastNow m_stableNow m_fitsNow m_someNow m_everyNow m_askLeft tb_seats tb_slack tb_saw tb_quarrel tb_people tb_pairs tb_forks tb_unsures tb_trieds tb_fed : Int32} {m_rv : Value} {m_tape m_v m_past m_kept m_otherIn tb_seat tb_one tb_other tb_years tb_kind tb_unsure tb_may tb_tried : Nat → Int32} {m_word : Int64} {tb_name : Nat → Int64} {o : (Nat → Int32) × Int32 × Int32 × Int32 × (Nat → Int32) × (Nat → Int32) × Int32 × Int32} (C : xC p s m args meth c cX12_seats 2 RX12 E A none) (J : ∀ (H : Heap) (locs : List Loc) (ls : Array Slot), xG s E A (wM E ad m_thrown m_trouble m_where m_rv m_tape m_taped m_size m_spot m_sort m_place m_number m_fault m_wrongAt m_word m_v o.1 m_past m_kept m_acts m_images o.2.1 o.2.2.1 o.2.2.2.1 o.2.2.2.2.1 o.2.2.2.2.2.1 o.2.2.2.2.2.2.1 o.2.2.2.2.2.2.2 m_sawBest m_leastNow m_stableNow m_fitsNow m_someNow m_everyNow m_otherIn m_askLeft tb_seats tb_slack tb_saw tb_quarrel tb_people tb_pairs tb_forks tb_unsures tb_trieds tb_fed tb_seat tb_one tb_other tb_years tb_kind tb_unsure tb_may tb_tried tb_name) H locs → lv_has ls 2 [] → W p l e (xR 6 131) s m args below meth c H locs 0 0 Q (F0 m 131 ls [])) :
    ∀ (n : Nat) (l1 : Int32) (m_x : Nat → Int32) (m_matchNow : Int32) (m_slopsNow : Int32) (m_matchesNow : Int32) (m_slopped : Nat → Int32) (m_seatBest : Nat → Int32) (m_fedBest : Int32) (m_slopsBest : Int32) (H : Heap) (locs : List Loc) (ls : Array Slot), xG s E A (wM E ad m_thrown m_trouble m_where m_rv m_tape m_taped m_size m_spot m_sort m_place m_number m_fault m_wrongAt m_word m_v m_x m_past m_kept m_acts m_images m_matchNow m_slopsNow m_matchesNow m_slopped m_seatBest m_fedBest m_slopsBest m_sawBest m_leastNow m_stableNow m_fitsNow m_someNow m_everyNow m_otherIn m_askLeft tb_seats tb_slack tb_saw tb_quarrel tb_people tb_pairs tb_forks tb_unsures tb_trieds tb_fed tb_seat tb_one tb_other tb_years tb_kind tb_unsure tb_may tb_tried tb_name) H locs → lv_has ls 2 [(0, .ref (ad 0)), (1, .int l1)] → f_M_seats_L25 tb_seats tb_slack tb_people n l1 m_x m_matchNow m_slopsNow m_matchesNow m_slopped m_seatBest m_fedBest m_slopsBest = some o → W p l e (xR 6 131) s m args below meth c H locs 0 0 Q (F0 m 25 ls []) := by
  have hx := C.1
  have hb := C.2.1
  intro n
  induction n with
  | zero =>
    intro l1 m_x m_matchNow m_slopsNow m_matchesNow m_slopped m_seatBest m_fedBest m_slopsBest H locs ls G hl hf
    exact nomatch (show (none : Option ((Nat → Int32) × Int32 × Int32 × Int32 × (Nat → Int32) × (Nat → Int32) × Int32 × Int32)) = some o from hf)
  | succ n ih =>
    intro l1 m_x m_matchNow m_slopsNow m_matchesNow m_slopped m_seatBest m_fedBest m_slopsBest H locs ls G hl hf
    rw [f_M_seats_L25] at hf
    refine lv_iload_n hx hb dX12_seats_25 rfl (lv_at hl 1 rfl) ?_
    refine lv_if_lt (tgt := 131) hx hb dX12_seats_26 (by decide) (fun h => ?_) (fun h => ?_)
    · have hf := it_t h hf
      obtain rfl := Option.some.inj hf
      exact J _ _ _ G (lv_sub hl [] rfl)
    · have hf := it_f h hf
      refine lv_aload_n hx hb dX12_seats_29 rfl (lv_at hl 0 rfl) ?_
      refine x_get C G fX12_21 (wM_at0) rfl dX12_seats_30 ?_
      refine lv_iload_n hx hb dX12_seats_33 rfl (lv_at hl 1 rfl) ?_
      have hi := ck_in hf
      have hf := ck_go hf
      refine x_iald C G (wM_at3) hi dX12_seats_34 ?_
      refine lv_aload_n hx hb dX12_seats_35 rfl (lv_at hl 0 rfl) ?_
      refine x_get C G fX12_298.g (wM_at0) rfl dX12_seats_36 ?_
      refine x_get C G fX12_149.g (wM_at9) rfl dX12_seats_39 ?_
      refine lv_icmp_lt (tgt := 74) hx hb dX12_seats_42 (by decide) (fun h => ?_) (fun h => ?_)
      · have hf := it_t h hf
        refine lv_iload_n hx hb dX12_seats_74 rfl (lv_at hl 1 rfl) ?_
        refine lv_iconst (v := 1) hx hb dX12_seats_75 (by decide) ?_
        refine lv_iadd hx hb dX12_seats_76 ?_
        refine lv_aload_n hx hb dX12_seats_77 rfl (lv_at hl 0 rfl) ?_
        refine x_get C G fX12_298.g (wM_at0) rfl dX12_seats_78 ?_
        refine x_get C G fX12_177.g (wM_at9) rfl dX12_seats_81 ?_
        refine lv_icmp_ge (tgt := 105) hx hb dX12_seats_84 (by decide) (fun h => ?_) (fun h => ?_)
        · have hf := it_t h hf
          refine lv_aload_n hx hb dX12_seats_105 rfl (lv_at hl 0 rfl) ?_
          obtain ⟨x2, hc, hf⟩ := bd_go hf
          refine xV_V C G (c_M_notesSeats_m_M hc) mX12_notesSeats kX12_392 (wM_at0) rfl ⟨Nat.le_of_ble_eq_true rfl, Nat.le_of_ble_eq_true rfl⟩ rfl hl.1 rfl (Nat.le_of_ble_eq_true rfl) ⟨Nat.le_refl _, Nat.le_refl _⟩ dX12_seats_106 (fun H locs G => ?_)
          refine lv_aload_n hx hb dX12_seats_109 rfl (lv_at hl 0 rfl) ?_
          refine x_get C G fX12_21 (wM_at0) rfl dX12_seats_110 ?_
          refine lv_iload_n hx hb dX12_seats_113 rfl (lv_at hl 1 rfl) ?_
          refine lv_aload_n hx hb dX12_seats_114 rfl (lv_at hl 0 rfl) ?_
          refine lv_iload_n hx hb dX12_seats_115 rfl (lv_at hl 1 rfl) ?_
          refine lv_aload_n hx hb dX12_seats_116 rfl (lv_at hl 0 rfl) ?_
          refine x_get C G fX12_21 (wM_at0) rfl dX12_seats_117 ?_
          refine lv_iload_n hx hb dX12_seats_120 rfl (lv_at hl 1 rfl) ?_
          have hi := ck_in hf
          have hf := ck_go hf
          refine x_iald C G (wM_at3) hi dX12_seats_121 ?_
          refine lv_iconst (v := 1) hx hb dX12_seats_122 (by decide) ?_
          refine lv_iadd hx hb dX12_seats_123 ?_
          obtain ⟨x3, hc, hf⟩ := bd_go hf
          refine xI_V C G (c_M_nextFree_m_M hc) mX12_nextFree kX12_389 (wM_at0) rfl ⟨Nat.le_of_ble_eq_true rfl, Nat.le_of_ble_eq_true rfl⟩ rfl hl.1 rfl (Nat.le_of_ble_eq_true rfl) ⟨Nat.le_refl _, Nat.le_refl _⟩ dX12_seats_124 (fun hz H locs G => ?_)
          have hi := ck_in hf
          have hf := ck_go hf
          refine x_iast (ws' := (wM E ad m_thrown m_trouble m_where m_rv m_tape m_taped m_size m_spot m_sort m_place m_number m_fault m_wrongAt m_word m_v (upd m_x l1.toNatClampNeg x3) m_past m_kept m_acts m_images x2.1 x2.2.1 x2.2.2.1 x2.2.2.2.1 x2.2.2.2.2.1 x2.2.2.2.2.2.1 x2.2.2.2.2.2.2 m_sawBest m_leastNow m_stableNow m_fitsNow m_someNow m_everyNow m_otherIn m_askLeft tb_seats tb_slack tb_saw tb_quarrel tb_people tb_pairs tb_forks tb_unsures tb_trieds tb_fed tb_seat tb_one tb_other tb_years tb_kind tb_unsure tb_may tb_tried tb_name)) C G (wM_at3) hi wM_set_m_x dX12_seats_127 (fun H locs G => ?_)
          refine lv_goto (tgt := 25) hx hb dX12_seats_128 (by decide) ?_
          exact ih l1 (upd m_x l1.toNatClampNeg x3) x2.1 x2.2.1 x2.2.2.1 x2.2.2.2.1 x2.2.2.2.2.1 x2.2.2.2.2.2.1 x2.2.2.2.2.2.2 _ _ _ G (lv_sub hl [0, 1] rfl) hf
        · have hf := it_f h hf
          obtain ⟨x4, ex4⟩ : ∃ z : Int32, z = l1 + (1 : Int32) := ⟨_, rfl⟩
          have hf := lt_go ex4 hf
          refine lv_iinc (v := x4) (lv' := [(1, .int x4), (0, .ref (ad 0))]) hx hb dX12_seats_87 hl (k := 1) rfl (by rw [ex4]; rfl) (by decide) rfl (fun ls hl => ?_)
          refine lv_aload_n hx hb dX12_seats_90 rfl (lv_at hl 1 rfl) ?_
          refine x_get C G fX12_21 (wM_at0) rfl dX12_seats_91 ?_
          refine lv_iload_n hx hb dX12_seats_94 rfl (lv_at hl 0 rfl) ?_
          refine lv_aload_n hx hb dX12_seats_95 rfl (lv_at hl 1 rfl) ?_
          refine lv_iload_n hx hb dX12_seats_96 rfl (lv_at hl 0 rfl) ?_
          refine lv_iconst (v := 0) hx hb dX12_seats_97 (by decide) ?_
          obtain ⟨x5, hc, hf⟩ := bd_go hf
          refine xI_V C G (c_M_nextFree_m_M hc) mX12_nextFree kX12_389 (wM_at0) rfl ⟨Nat.le_of_ble_eq_true rfl, Nat.le_of_ble_eq_true rfl⟩ rfl hl.1 rfl (Nat.le_of_ble_eq_true rfl) ⟨Nat.le_refl _, Nat.le_refl _⟩ dX12_seats_98 (fun hz H locs G => ?_)
          have hi := ck_in hf
          have hf := ck_go hf
          refine x_iast (ws' := (wM E ad m_thrown m_trouble m_where m_rv m_tape m_taped m_size m_spot m_sort m_place m_number m_fault m_wrongAt m_word m_v (upd m_x x4.toNatClampNeg x5) m_past m_kept m_acts m_images m_matchNow m_slopsNow m_matchesNow m_slopped m_seatBest m_fedBest m_slopsBest m_sawBest m_leastNow m_stableNow m_fitsNow m_someNow m_everyNow m_otherIn m_askLeft tb_seats tb_slack tb_saw tb_quarrel tb_people tb_pairs tb_forks tb_unsures tb_trieds tb_fed tb_seat tb_one tb_other tb_years tb_kind tb_unsure tb_may tb_tried tb_name)) C G (wM_at3) hi wM_set_m_x dX12_seats_101 (fun H locs G => ?_)
          refine lv_goto (tgt := 25) hx hb dX12_seats_102 (by decide) ?_
          exact ih x4 (upd m_x x4.toNatClampNeg x5) m_matchNow m_slopsNow m_matchesNow m_slopped m_seatBest m_fedBest m_slopsBest _ _ _ G (lv_sub hl [1, 0] rfl) hf
      · have hf := it_f h hf
        obtain ⟨x6, ex6⟩ : ∃ z : Int32, z = l1 + (-1 : Int32) := ⟨_, rfl⟩
        have hf := lt_go ex6 hf
        refine lv_iinc (v := x6) (lv' := [(1, .int x6), (0, .ref (ad 0))]) hx hb dX12_seats_45 hl (k := 1) rfl (by rw [ex6]; rfl) (by decide) rfl (fun ls hl => ?_)
        refine lv_iload_n hx hb dX12_seats_48 rfl (lv_at hl 0 rfl) ?_
        refine lv_if_lt (tgt := 25) hx hb dX12_seats_49 (by decide) (fun h => ?_) (fun h => ?_)
        · have hf := it_t h hf
          exact ih x6 m_x m_matchNow m_slopsNow m_matchesNow m_slopped m_seatBest m_fedBest m_slopsBest _ _ _ G (lv_sub hl [1, 0] rfl) hf
        · have hf := it_f h hf
          refine lv_aload_n hx hb dX12_seats_52 rfl (lv_at hl 1 rfl) ?_
          refine x_get C G fX12_21 (wM_at0) rfl dX12_seats_53 ?_
          refine lv_iload_n hx hb dX12_seats_56 rfl (lv_at hl 0 rfl) ?_
          refine lv_aload_n hx hb dX12_seats_57 rfl (lv_at hl 1 rfl) ?_
          refine lv_iload_n hx hb dX12_seats_58 rfl (lv_at hl 0 rfl) ?_
          refine lv_aload_n hx hb dX12_seats_59 rfl (lv_at hl 1 rfl) ?_
          refine x_get C G fX12_21 (wM_at0) rfl dX12_seats_60 ?_
          refine lv_iload_n hx hb dX12_seats_63 rfl (lv_at hl 0 rfl) ?_
          have hi := ck_in hf
          have hf := ck_go hf
          refine x_iald C G (wM_at3) hi dX12_seats_64 ?_
          refine lv_iconst (v := 1) hx hb dX12_seats_65 (by decide) ?_
          refine lv_iadd hx hb dX12_seats_66 ?_
          obtain ⟨x7, hc, hf⟩ := bd_go hf
          refine xI_V C G (c_M_nextFree_m_M hc) mX12_nextFree kX12_389 (wM_at0) rfl ⟨Nat.le_of_ble_eq_true rfl, Nat.le_of_ble_eq_true rfl⟩ rfl hl.1 rfl (Nat.le_of_ble_eq_true rfl) ⟨Nat.le_refl _, Nat.le_refl _⟩ dX12_seats_67 (fun hz H locs G => ?_)
          have hi := ck_in hf
          have hf := ck_go hf
          refine x_iast (ws' := (wM E ad m_thrown m_trouble m_where m_rv m_tape m_taped m_size m_spot m_sort m_place m_number m_fault m_wrongAt m_word m_v (upd m_x x6.toNatClampNeg x7) m_past m_kept m_acts m_images m_matchNow m_slopsNow m_matchesNow m_slopped m_seatBest m_fedBest m_slopsBest m_sawBest m_leastNow m_stableNow m_fitsNow m_someNow m_everyNow m_otherIn m_askLeft tb_seats tb_slack tb_saw tb_quarrel tb_people tb_pairs tb_forks tb_unsures tb_trieds tb_fed tb_seat tb_one tb_other tb_years tb_kind tb_unsure tb_may tb_tried tb_name)) C G (wM_at3) hi wM_set_m_x dX12_seats_70 (fun H locs G => ?_)
          refine lv_goto (tgt := 25) hx hb dX12_seats_71 (by decide) ?_
          exact ih x6 (upd m_x x6.toNatClampNeg x7) m_matchNow m_slopsNow m_matchesNow m_slopped m_seatBest m_fedBest m_slopsBest _ _ _ G (lv_sub hl [1, 0] rfl) hf
set_option maxHeartbeats 4000000 in
set_option maxRecDepth 100000 in
theorem c_M_seats_m_M {l : Launch} {E : xE} {ad : Nat → Nat} {m_thrown m_trouble m_where m_taped m_size m_spot m_sort m_place m_number m_fault m_wrongAt m_acts m_images m_matchNow m_slopsNow m_matchesNow m_fedBest m_slopsBest m_sawBest m_leastNow m_stableNow m_fitsNow m_someNow m_everyNow m_askLeft tb_seats tb_slack tb_saw tb_quarrel tb_people tb_pairs tb_forks tb_unsures tb_trieds tb_fed : Int32} {m_rv : Value} {m_tape m_v m_x m_past m_kept m_slopped m_seatBest m_otherIn tb_seat tb_one tb_other tb_years tb_kind tb_unsure tb_may tb_tried : Nat → Int32} {m_word : Int64} {tb_name : Nat → Int64} {R0 : (Nat → Int32) × Int32 × Int32 × Int32 × (Nat → Int32) × (Nat → Int32) × Int32 × Int32} (hf : f_M_seats m_v m_x m_matchNow m_slopsNow m_matchesNow m_slopped m_seatBest tb_seats tb_slack tb_people = some R0) : xV l E yX12_seats cX12_seats 2 none 6 131 [.ref (ad 0)] (wM E ad m_thrown m_trouble m_where m_rv m_tape m_taped m_size m_spot m_sort m_place m_number m_fault m_wrongAt m_word m_v m_x m_past m_kept m_acts m_images m_matchNow m_slopsNow m_matchesNow m_slopped m_seatBest m_fedBest m_slopsBest m_sawBest m_leastNow m_stableNow m_fitsNow m_someNow m_everyNow m_otherIn m_askLeft tb_seats tb_slack tb_saw tb_quarrel tb_people tb_pairs tb_forks tb_unsures tb_trieds tb_fed tb_seat tb_one tb_other tb_years tb_kind tb_unsure tb_may tb_tried tb_name) (wM E ad m_thrown m_trouble m_where m_rv m_tape m_taped m_size m_spot m_sort m_place m_number m_fault m_wrongAt m_word m_v R0.1 m_past m_kept m_acts m_images R0.2.1 R0.2.2.1 R0.2.2.2.1 R0.2.2.2.2.1 R0.2.2.2.2.2.1 R0.2.2.2.2.2.2.1 R0.2.2.2.2.2.2.2 m_sawBest m_leastNow m_stableNow m_fitsNow m_someNow m_everyNow m_otherIn m_askLeft tb_seats tb_slack tb_saw tb_quarrel tb_people tb_pairs tb_forks tb_unsures tb_trieds tb_fed tb_seat tb_one tb_other tb_years tb_kind tb_unsure tb_may tb_tried tb_name) := by
  refine xV_of (by decide) (Nat.le_of_ble_eq_true rfl) (fun p e s m args below meth c A C ls hl G => ?_)
  have hx := C.1
  have hb := C.2.1
  have hl : lv_has ls 2 [(0, .ref (ad 0))] := hl
  unfold f_M_seats at hf
  refine lv_aload_n hx hb dX12_seats_0 rfl (lv_at hl 0 rfl) ?_
  obtain ⟨x1, hc, hf⟩ := bd_go hf
  refine xV_V C G (c_M_works_m_M hc) mX12_works kX12_333 (wM_at0) rfl ⟨Nat.le_of_ble_eq_true rfl, Nat.le_of_ble_eq_true rfl⟩ rfl hl.1 rfl (Nat.le_of_ble_eq_true rfl) ⟨Nat.le_refl _, Nat.le_refl _⟩ dX12_seats_1 (fun H locs G => ?_)
  refine lv_aload_n hx hb dX12_seats_4 rfl (lv_at hl 0 rfl) ?_
  refine lv_iconst (v := -1) hx hb dX12_seats_5 (by decide) ?_
  refine x_put (ws' := (wM E ad m_thrown m_trouble m_where m_rv m_tape m_taped m_size m_spot m_sort m_place m_number m_fault m_wrongAt m_word m_v x1 m_past m_kept m_acts m_images m_matchNow m_slopsNow m_matchesNow m_slopped m_seatBest (-1 : Int32) m_slopsBest m_sawBest m_leastNow m_stableNow m_fitsNow m_someNow m_everyNow m_otherIn m_askLeft tb_seats tb_slack tb_saw tb_quarrel tb_people tb_pairs tb_forks tb_unsures tb_trieds tb_fed tb_seat tb_one tb_other tb_years tb_kind tb_unsure tb_may tb_tried tb_name)) C G fX12_382 (wM_at0) rfl rfl (Nat.le_of_ble_eq_true rfl) wM_set_m_fedBest dX12_seats_6 (fun H locs G => ?_)
  refine lv_aload_n hx hb dX12_seats_9 rfl (lv_at hl 0 rfl) ?_
  refine lv_ldcw hx hb C.2.2.2.1 (C.2.2.2.2.1 _ qX12_388) dX12_seats_10 ?_
  refine x_put (ws' := (wM E ad m_thrown m_trouble m_where m_rv m_tape m_taped m_size m_spot m_sort m_place m_number m_fault m_wrongAt m_word m_v x1 m_past m_kept m_acts m_images m_matchNow m_slopsNow m_matchesNow m_slopped m_seatBest (-1 : Int32) (99999 : Int32) m_sawBest m_leastNow m_stableNow m_fitsNow m_someNow m_everyNow m_otherIn m_askLeft tb_seats tb_slack tb_saw tb_quarrel tb_people tb_pairs tb_forks tb_unsures tb_trieds tb_fed tb_seat tb_one tb_other tb_years tb_kind tb_unsure tb_may tb_tried tb_name)) C G fX12_385 (wM_at0) rfl rfl (Nat.le_of_ble_eq_true rfl) wM_set_m_slopsBest dX12_seats_13 (fun H locs G => ?_)
  refine lv_iconst (v := 0) hx hb dX12_seats_16 (by decide) ?_
  refine lv_istore_n (lv' := [(1, .int (0 : Int32)), (0, .ref (ad 0))]) hx hb dX12_seats_17 rfl hl (by decide) rfl (fun ls hl => ?_)
  refine lv_aload_n hx hb dX12_seats_18 rfl (lv_at hl 1 rfl) ?_
  refine x_get C G fX12_21 (wM_at0) rfl dX12_seats_19 ?_
  refine lv_iconst (v := 0) hx hb dX12_seats_22 (by decide) ?_
  refine lv_iconst (v := 0) hx hb dX12_seats_23 (by decide) ?_
  have hi := ck_in hf
  have hf := ck_go hf
  refine x_iast (ws' := (wM E ad m_thrown m_trouble m_where m_rv m_tape m_taped m_size m_spot m_sort m_place m_number m_fault m_wrongAt m_word m_v (upd x1 (0 : Int32).toNatClampNeg (0 : Int32)) m_past m_kept m_acts m_images m_matchNow m_slopsNow m_matchesNow m_slopped m_seatBest (-1 : Int32) (99999 : Int32) m_sawBest m_leastNow m_stableNow m_fitsNow m_someNow m_everyNow m_otherIn m_askLeft tb_seats tb_slack tb_saw tb_quarrel tb_people tb_pairs tb_forks tb_unsures tb_trieds tb_fed tb_seat tb_one tb_other tb_years tb_kind tb_unsure tb_may tb_tried tb_name)) C G (wM_at3) hi wM_set_m_x dX12_seats_24 (fun H locs G => ?_)
  obtain ⟨x8, hr, hf⟩ := bd_go hf
  have Jx8 : ∀ (H : Heap) (locs : List Loc) (ls : Array Slot), xG s E A (wM E ad m_thrown m_trouble m_where m_rv m_tape m_taped m_size m_spot m_sort m_place m_number m_fault m_wrongAt m_word m_v x8.1 m_past m_kept m_acts m_images x8.2.1 x8.2.2.1 x8.2.2.2.1 x8.2.2.2.2.1 x8.2.2.2.2.2.1 x8.2.2.2.2.2.2.1 x8.2.2.2.2.2.2.2 m_sawBest m_leastNow m_stableNow m_fitsNow m_someNow m_everyNow m_otherIn m_askLeft tb_seats tb_slack tb_saw tb_quarrel tb_people tb_pairs tb_forks tb_unsures tb_trieds tb_fed tb_seat tb_one tb_other tb_years tb_kind tb_unsure tb_may tb_tried tb_name) H locs → lv_has ls 2 [] → W p l e (xR 6 131) s m args below meth c H locs 0 0 (MQ below (xqV E A (wM E ad m_thrown m_trouble m_where m_rv m_tape m_taped m_size m_spot m_sort m_place m_number m_fault m_wrongAt m_word m_v R0.1 m_past m_kept m_acts m_images R0.2.1 R0.2.2.1 R0.2.2.2.1 R0.2.2.2.2.1 R0.2.2.2.2.2.1 R0.2.2.2.2.2.2.1 R0.2.2.2.2.2.2.2 m_sawBest m_leastNow m_stableNow m_fitsNow m_someNow m_everyNow m_otherIn m_askLeft tb_seats tb_slack tb_saw tb_quarrel tb_people tb_pairs tb_forks tb_unsures tb_trieds tb_fed tb_seat tb_one tb_other tb_years tb_kind tb_unsure tb_may tb_tried tb_name)) args s 0 0 A) (F0 m 131 ls []) := by
    intro H locs ls G hl
    obtain rfl := Option.some.inj hf
    exact xV_ret C G dX12_seats_131
  exact w_M_seats_m_M_L25 C Jx8 fu _ _ _ _ _ _ _ _ _ _ _ _ G (lv_sub hl [1, 0] rfl) hr
