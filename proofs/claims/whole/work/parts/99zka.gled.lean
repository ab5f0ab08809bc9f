/-! led of both sides, and the law's case -/
set_option maxHeartbeats 4000000 in
set_option maxRecDepth 100000 in
theorem s_led {l : Launch} {E : xE} {b1 b2 : Nat} {wx wm : va_W} {l1 : Int32} (hstk : l.stackTraces = false) (hr : Rel E b1 b2 wx wm) : ∃ (wm' : va_W) (k r' : Int32), ((k = 0 ∧ cI l E yX10_led cX10_led 4 (some .int) [.ref b1, .int l1] wx wx r') ∨ (k = 1 ∧ ledT l E b1 l1 wx)) ∧ cI l E yX12_led cX12_led 4 (some .int) [.ref b2, .int l1] wm wm' r' ∧ cI l E yX12_thrown cX12_thrown 1 (some .int) [.ref b2] wm' wm' k ∧ Rel E b1 b2 wx wm' := by
  refine hr (fun b1 b2 wx wm => ∃ (wm' : va_W) (k r' : Int32), ((k = 0 ∧ cI l E yX10_led cX10_led 4 (some .int) [.ref b1, .int l1] wx wx r') ∨ (k = 1 ∧ ledT l E b1 l1 wx)) ∧ cI l E yX12_led cX12_led 4 (some .int) [.ref b2, .int l1] wm wm' r' ∧ cI l E yX12_thrown cX12_thrown 1 (some .int) [.ref b2] wm' wm' k ∧ Rel E b1 b2 wx wm') ?_ ?_
  · intro adx adm x_imageCount x_lastTrouble x_lastFault x_lastPlace pa_names pa_faultNumber pa_faultPlace rd_tape rd_length rd_end rd_next rd_sort rd_start rd_value rd_word to_unsurePair to_unsureYears to_triedPair to_seats to_slack to_sawInches to_quarrelChance to_people to_forkBits to_unsure to_tried to_triedFedBits tf_seatOf tf_one tf_other tf_kind tf_years tf_sawn tf_pairs tf_gone bd_unsurePair bd_unsureYears bd_triedPair bd_seats bd_slack bd_sawInches bd_quarrelChance bd_people bd_forkBits bd_unsure bd_tried bd_triedFedBits bf_seatOf bf_one bf_other bf_kind bf_years bf_sawn bf_pairs bf_gone nw_seatOf nw_one nw_other nw_kind nw_years nw_sawn nw_pairs nw_gone sc_seatOf sc_handle sc_both sc_slopOf sc_forkBits sc_canBits sc_bestBits sc_bestSlops sl_bits sl_count se_bestRow se_row se_pairAt se_hope se_hopeAt se_slopAt se_farBits se_gain se_worth se_bestWorth se_fresh ch_both ch_cost ch_bit ch_items ch_leastCost ch_leastBits cl_bits cl_count fi_sets fi_count ps_act ps_whom ps_amount ps_next ps_count i0_seatOf i0_one i0_other i0_kind i0_years i0_sawn i0_pairs i0_gone i1_seatOf i1_one i1_other i1_kind i1_years i1_sawn i1_pairs i1_gone i2_seatOf i2_one i2_other i2_kind i2_years i2_sawn i2_pairs i2_gone m_thrown m_trouble m_where m_rv m_tape m_taped m_size m_spot m_sort m_place m_number m_fault m_wrongAt m_word m_v m_x m_past m_kept m_acts m_images m_matchNow m_slopsNow m_matchesNow m_slopped m_seatBest m_fedBest m_slopsBest m_sawBest m_leastNow m_stableNow m_fitsNow m_someNow m_everyNow m_otherIn m_askLeft tb_seats tb_slack tb_saw tb_quarrel tb_people tb_pairs tb_forks tb_unsures tb_trieds tb_fed tb_seat tb_one tb_other tb_years tb_kind tb_unsure tb_may tb_tried tb_name htp htr htb
    obtain ⟨p, fb, ns, sl, sw, qc, ⟨hbn, rfl, rfl, rfl, rfl, rfl, rfl, rfl, rfl, rfl, rfl, rfl, rfl⟩, htl, hst, him⟩ := id htb
    obtain ⟨h, c, ⟨hc1, rfl, hgo⟩, hx1, ho1, hps, hse⟩ := id hst
    obtain ⟨x1, ew, hxv, -⟩ := r_worksX (x := m_x) hx1.1 ho1.1
    obtain ⟨F, hF⟩ : ∃ F : Nat → Int32, ∀ q, q < p → f_X_feederBits (iI (q : Nat)) (iI (sl : Nat)) nw_seatOf nw_one nw_other nw_kind nw_years nw_sawn (iI ((h 0).2.2.2.2.2.2.1 : Nat)) = some (F q) ∧ f_M_feedersOf (iI (q : Nat)) x1 (iI (sl : Nat)) = some (F q) := by
      refine ⟨fun q => (f_X_feederBits (iI (q : Nat)) (iI (sl : Nat)) nw_seatOf nw_one nw_other nw_kind nw_years nw_sawn (iI ((h 0).2.2.2.2.2.2.1 : Nat))).getD 0, fun q hq => ?_⟩
      obtain ⟨r, e1, e2⟩ := e_feederBits hc1 hxv ho1.1 hq
      have e3 : (f_X_feederBits (iI (q : Nat)) (iI (sl : Nat)) nw_seatOf nw_one nw_other nw_kind nw_years nw_sawn (iI ((h 0).2.2.2.2.2.2.1 : Nat))).getD 0 = r := by
        rw [e1]
        rfl
      exact ⟨e1.trans (congrArg some e3.symm), e2.trans (congrArg some e3.symm)⟩
    have hL : f_M_led_L20 l1 (0 : Int32) x1 (iI (sl : Nat)) (iI (p : Nat)) fu (0 : Int32) (0 : Int32) = _ := r_ledL (l := l1) (th := 0) ho1.1.1.1 (fun q hq => (hF q hq).2) p fu 0 0 (by omega) (by have h5 := ho1.1.1.1; have := fu_big; omega)
    cases hq : ledN F l1 p 0 0 with
    | some r =>
      rw [hq] at hL
      have e2 : f_M_led l1 m_v m_x (iI (sl : Nat)) (iI (p : Nat)) = some (iI (r : Nat), 0, x1) := by
        unfold f_M_led
        rw [ew, bd_some, hL, bd_some]
        rfl
      exact ⟨_, 0, _, Or.inl ⟨rfl, cI_of (c_X_led_r ho1.1.1.1 (fun q h => (hF q h).1) hq) ⟨Nat.le_of_ble_eq_true rfl, Nat.le_of_ble_eq_true rfl⟩⟩, cI_of (c_M_led_m_M e2) ⟨Nat.le_of_ble_eq_true rfl, Nat.le_of_ble_eq_true rfl⟩, cI_of (c_M_thrown_m_M rfl) ⟨Nat.le_of_ble_eq_true rfl, Nat.le_of_ble_eq_true rfl⟩, mkT rfl rfl htp htr htb⟩
    | none =>
      rw [hq] at hL
      have e2 : f_M_led l1 m_v m_x (iI (sl : Nat)) (iI (p : Nat)) = some (0, 1, x1) := by
        unfold f_M_led
        rw [ew, bd_some, hL, bd_some]
        rfl
      exact ⟨_, 1, _, Or.inr ⟨rfl, c_X_led_t hstk ho1.1.1.1 (fun q h => (hF q h).1) hq⟩, cI_of (c_M_led_m_M e2) ⟨Nat.le_of_ble_eq_true rfl, Nat.le_of_ble_eq_true rfl⟩, cI_of (c_M_thrown_m_M rfl) ⟨Nat.le_of_ble_eq_true rfl, Nat.le_of_ble_eq_true rfl⟩, mkT rfl rfl htp htr htb⟩
  · intro adx adm x_imageCount x_lastTrouble x_lastFault x_lastPlace pa_names pa_faultNumber pa_faultPlace rd_tape rd_length rd_end rd_next rd_sort rd_start rd_value rd_word to_unsurePair to_unsureYears to_triedPair to_seats to_slack to_sawInches to_quarrelChance to_people to_forkBits to_unsure to_tried to_triedFedBits tf_seatOf tf_one tf_other tf_kind tf_years tf_sawn tf_pairs tf_gone bd_unsurePair bd_unsureYears bd_triedPair bd_seats bd_slack bd_sawInches bd_quarrelChance bd_people bd_forkBits bd_unsure bd_tried bd_triedFedBits bf_seatOf bf_one bf_other bf_kind bf_years bf_sawn bf_pairs bf_gone nw_seatOf nw_one nw_other nw_kind nw_years nw_sawn nw_pairs nw_gone sc_seatOf sc_handle sc_both sc_slopOf sc_forkBits sc_canBits sc_bestBits sc_bestSlops sl_bits sl_count se_bestRow se_row se_pairAt se_hope se_hopeAt se_slopAt se_farBits se_gain se_worth se_bestWorth se_fresh ch_both ch_cost ch_bit ch_items ch_leastCost ch_leastBits cl_bits cl_count fi_sets fi_count ps_act ps_whom ps_amount ps_next ps_count i0_seatOf i0_one i0_other i0_kind i0_years i0_sawn i0_pairs i0_gone i1_seatOf i1_one i1_other i1_kind i1_years i1_sawn i1_pairs i1_gone i2_seatOf i2_one i2_other i2_kind i2_years i2_sawn i2_pairs i2_gone m_thrown m_trouble m_where m_rv m_tape m_taped m_size m_spot m_sort m_place m_number m_fault m_wrongAt m_word m_v m_x m_past m_kept m_acts m_images m_matchNow m_slopsNow m_matchesNow m_slopped m_seatBest m_fedBest m_slopsBest m_sawBest m_leastNow m_stableNow m_fitsNow m_someNow m_everyNow m_otherIn m_askLeft htp htr htb
    obtain ⟨-, -, -, -, hp0, -⟩ := id htb
    have hp1 : bd_people = iI ((0 : Nat) : Int) := hp0
    subst hp1
    exact ⟨_, 1, _, Or.inr ⟨rfl, c_X_led_t (P := 0) (F := fun _ => 0) hstk (by omega) (fun q h => absurd h (Nat.not_lt_zero q)) rfl⟩, cI_of (c_M_led_m_N rfl) ⟨Nat.le_of_ble_eq_true rfl, Nat.le_of_ble_eq_true rfl⟩, cI_of (c_M_thrown_m_N rfl) ⟨Nat.le_of_ble_eq_true rfl, Nat.le_of_ble_eq_true rfl⟩, mkN rfl rfl htp htr htb⟩
theorem lw_good : GoodIn tG (va_wsS RL 251 yL_led wlL) := tG_good (fun w hw => by
  rcases List.mem_append.mp hw with e | e
  · simp only [List.mem_cons, List.not_mem_nil, or_false] at e
    rcases e with e | e | e
    · rw [e]; exact lw_led_l
    · rw [e]; exact lw_led_s
    · rw [e]; exact lw_led_i
  · rcases List.mem_cons.mp e with e | e
    · rw [e]; exact lw_led_w
    · exact e)
set_option maxHeartbeats 4000000 in
set_option maxRecDepth 100000 in
theorem lz_led {p : Program} {l : Launch} {e : Env} {s : State} {m : MethodId} {below : List Frame} {meth : Method} {c : Code} {b L : Nat} {xs : Nat → Int32} {E : xE} {b1 b2 qo i : Nat} {fo : Nat → Int64} {wx wm : va_W} {H : Heap} {locs : List Loc} {ls : Array Slot} {cells slots : Nat} {Q : State → Prop} {l1 k : Int32} {fo2 : Nat → Int64} (Cx : lwC p s m meth c b L xs E) (hzT : zT (fun q => s.heap.size ≤ q) s s.heap) (G : xG s E (fun q => s.heap.size ≤ q) ((w0 E qo fo ++ wm) ++ wx) H locs) (K : lawL l E b1 qo l1 wx fo fo2 k) (hsz : ls.size = 7) (hcs : cells + 1 ≤ room_1.cells ∧ slots + 6 ≤ room_1.slots)
    (kk : ∀ (H : Heap) (locs : List Loc), xG s E (fun q => s.heap.size ≤ q) ((w0 E qo fo2 ++ wm) ++ wx) H locs → W p l e room_1 s m #[Value.ref b] below meth c H locs (cells + 1) (slots + 6) Q (F0 m 1737 ls [.int k])) : W p l e room_1 s m #[Value.ref b] below meth c H locs cells slots Q (F0 m 1734 ls [.ref qo, .int l1, .ref b1]) := by
  obtain ⟨⟨hx, hb, hml, hown, hts, hN, hK, hA, hlocks, hr, hZ⟩, -⟩ := Cx
  have G2 := xG_swap (xG_rot G)
  have hF := xfreeR G2.2.1 G2.2.2 hA
  have hpre : PreS s H (xPreT E [.ref b1, .int l1, .ref qo] (wx ++ w0 E qo fo) H.size) [.ref b1, .int l1, .ref qo] := ⟨xPreT_blind, fun U hU hW => ⟨⟨rfl, by rw [hU], by rw [hU]; exact G2.1.right, va_K.moved hW.alike hK, G2.2.1.right.weaken (fun _ _ _ _ => trivial), tN_warm hW hN, xZ_call hZ G2.2.2 hF hU hW⟩, zT_call hzT G2.2.2 hF hU hW⟩⟩
  have hrun := vx_runSW (l := l) (e := e) (below := below) (meth := meth) (locs := locs) (cells := cells) (slots := slots) (R := room_1) (g := F0 m 1734 ls [.ref qo, .int l1, .ref b1]) (As := [.ref b1, .int l1, .ref qo]) (rest := []) ⟨hx, hb, hml, hown, hts⟩ (K H.size) (vx_cwSW 3 hts lw_good rfl rfl rfl ⟨by decide, by decide, by decide +kernel⟩ ⟨Nat.le_of_ble_eq_true rfl, Nat.le_of_ble_eq_true rfl⟩) hpre rfl rfl hsz rfl (Nat.le_of_ble_eq_true rfl) dL_law_1734 hcs
  refine va_calli hrun G2.2.2 (fun q _ h => hF q h) hF (fun r1 u t H1 locs1 ht hvm hw hB hz hk hS1 => ?_)
  obtain ⟨rfl, -⟩ := hw
  have hP1 := hB.1
  rw [ht] at hP1
  obtain ⟨j1, j2⟩ := xjoin G2.1 G2.2.1 hk hF hP1 hB.2
  have G3 : xG s E (fun q => s.heap.size ≤ q) (wm ++ (wx ++ w0 E qo fo2)) H1 locs1 := ⟨j1, j2, hS1⟩
  exact kk H1 locs1 (xG_rot (xG_rot (xG_swap G3)))
set_option maxHeartbeats 4000000 in
set_option maxRecDepth 100000 in
theorem g_led {p : Program} {l : Launch} {e : Env} {s : State} {m : MethodId} {below : List Frame} {meth : Method} {c : Code} {b L : Nat} {xs : Nat → Int32} {E : xE} {b1 b2 qo i : Nat} {fo : Nat → Int64} {wx wm : va_W} {H : Heap} {locs : List Loc} {ls : Array Slot} {cells slots : Nat} {Q : State → Prop} (Cx : lwC p s m meth c b L xs E) (hzT : zT (fun q => s.heap.size ≤ q) s s.heap) (hstk : l.stackTraces = false) (hi : i + 6 ≤ L) (G : xG s E (fun q => s.heap.size ≤ q) ((w0 E qo fo ++ wm) ++ wx) H locs) (hr : Rel E b1 b2 wx wm) (hl : lv_has ls 7 [(4, .int (iI (i : Nat))), (3, .ref qo), (2, .ref b2), (1, .ref b1), (0, .ref b)]) (hcs : cells + 1 ≤ room_1.cells ∧ slots + 6 ≤ room_1.slots) (K : ∀ (fo : Nat → Int64) (wx wm : va_W) (H : Heap) (locs : List Loc) (ls : Array Slot), Rel E b1 b2 wx wm → xG s E (fun q => s.heap.size ≤ q) ((w0 E qo fo ++ wm) ++ wx) H locs → lv_has ls 7 [(4, .int (iI (i : Nat))), (3, .ref qo), (2, .ref b2), (1, .ref b1), (0, .ref b)] → W p l e room_1 s m #[Value.ref b] below meth c H locs (cells + 10) (slots + 83) Q (F0 m 1820 ls [])) : W p l e room_1 s m #[Value.ref b] below meth c H locs cells slots Q (F0 m 1726 ls []) := by
  obtain ⟨wm2, k, r2, hk, km, kt, hr2⟩ := s_led (l := l) (l1 := xs (i + 1)) hstk hr
  obtain ⟨fs, he⟩ := hr.x0
  obtain ⟨fo2, hfo, hL⟩ : ∃ fo2 : Nat → Int64, ((k = 0 ∧ fo2 0 = r2.toInt64) ∨ k = 1) ∧ lawL l E b1 qo (xs (i + 1)) wx fo fo2 k := by
    rcases hk with ⟨rfl, h⟩ | ⟨rfl, h⟩
    · exact ⟨_, Or.inl ⟨rfl, if_pos rfl⟩, c_L_led_r he h⟩
    · exact ⟨_, Or.inr rfl, c_L_led_t he h⟩
  have hx := Cx.1.1
  have hb := Cx.1.2.1
  have hcs1 : cells + 1 ≤ room_1.cells ∧ slots + 6 ≤ room_1.slots := hcs
  refine lv_aload_n hx hb dL_law_1726 rfl (lv_at hl 3 rfl) ?_
  refine w_arg (j := 1) Cx hi (by omega) G hl dL_law_1727 dL_law_1728 dL_law_1730 rfl dL_law_1731 dL_law_1732 ?_
  refine lv_aload_n hx hb dL_law_1733 rfl (lv_at hl 1 rfl) ?_
  refine lz_led (i := i) (b2 := b2) Cx hzT G hL hl.1 hcs (fun H locs G => ?_)
  refine lv_istore (lv' := [(5, .int k), (4, .int (iI (i : Nat))), (3, .ref qo), (2, .ref b2), (1, .ref b1), (0, .ref b)]) hx hb dL_law_1737 hl (by decide) rfl (fun ls hl => ?_)
  refine lv_aload_n hx hb dL_law_1739 rfl (lv_at hl 3 rfl) ?_
  refine w_arg (j := 1) Cx hi (by omega) G (lv_sub hl [1, 2, 3, 4, 5] rfl) dL_law_1740 dL_law_1741 dL_law_1743 rfl dL_law_1744 dL_law_1745 ?_
  refine lm_I (As := [.int (xs (i + 1))]) Cx (xG_rot G) hr km mX12_led kL_256 rfl (by decide) hl.1 rfl (Nat.le_of_ble_eq_true rfl) hcs1 dL_law_1746 (fun H locs G => ?_)
  refine lv_istore (lv' := [(6, .int r2), (5, .int k), (4, .int (iI (i : Nat))), (3, .ref qo), (2, .ref b2), (1, .ref b1), (0, .ref b)]) hx hb dL_law_1749 hl (by decide) rfl (fun ls hl => ?_)
  refine lv_aload_n hx hb dL_law_1751 rfl (lv_at hl 4 rfl) ?_
  refine lm_I (As := []) Cx (xG_rot G) hr2 kt mX12_thrown kL_257 rfl (by decide) hl.1 rfl (Nat.le_of_ble_eq_true rfl) hcs1 dL_law_1752 (fun H locs G => ?_)
  refine lv_iload hx hb dL_law_1755 (lv_at hl 1 rfl) ?_
  refine lv_icmp_eq (tgt := 1762) hx hb dL_law_1757 (by decide) (fun _ => ?_) (fun h => absurd rfl h)
  refine lv_iload hx hb dL_law_1762 (lv_at hl 1 rfl) ?_
  refine W.widen (k := cells + 10) (n := slots + 83) (by omega) (by omega) ?_
  have hend := K fo2 wx wm2 H locs ls hr2 G (lv_sub hl [2, 3, 4, 5, 6] rfl)
  refine lv_if_ne (tgt := 1779) hx hb dL_law_1764 (by decide) (fun h => ?_) (fun h => ?_)
  · exact lv_goto (tgt := 1820) hx hb dL_law_1779 (by decide) hend
  · have hk0 : k = 0 := h
    have hv : fo2 0 = r2.toInt64 := by
      rcases hfo with ⟨-, h2⟩ | h2
      · exact h2
      · rw [hk0] at h2
        exact absurd h2 (by decide)
    refine lv_aload_n hx hb dL_law_1767 rfl (lv_at hl 3 rfl) ?_
    refine lv_iconst (v := 0) hx hb dL_law_1768 (by decide) ?_
    refine x_lald (q0 := 0) (n := 1) (f := fo2) Cx.1 G rfl (show ¬ ((0 : Int32) < 0 ∨ 1 ≤ (0 : Int32).toNatClampNeg) by decide) dL_law_1769 ?_
    refine lv_iload hx hb dL_law_1770 (lv_at hl 0 rfl) ?_
    refine lv_i2l hx hb dL_law_1772 rfl ?_
    refine W.lcmp hx hb dL_law_1773 ?_
    refine lv_if_eq (tgt := 1779) hx hb dL_law_1774 (by decide) (fun _ => ?_) (fun h => absurd (show lg_cmp (fo2 0) r2.toInt64 = 0 by rw [hv]; exact lg_cmp0) h)
    exact lv_goto (tgt := 1820) hx hb dL_law_1779 (by decide) hend
