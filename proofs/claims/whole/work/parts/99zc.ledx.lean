/-! led of the class, where it throws -/
abbrev nsE : String := "java/util/NoSuchElementException"
abbrev nsN : List String := ["java/lang/RuntimeException", "java/lang/Exception"]
theorem ns_1 : Cond.classLink RX10 367 nsE ∈ tG := by decide +kernel
theorem ns_2 : Cond.initialized nsE ∈ tG := by decide +kernel
theorem ns_tG : ∀ w ∈ (vx_at0 RX10 369 nsE nsN).filter goodWord, w ∈ tG := by decide +kernel
abbrev nsB : List Cond := [Cond.castable nsE nsE, Cond.declares (Bundle.init0 "java/lang/RuntimeException"), Cond.declares (Bundle.init0 "java/lang/Exception"), Cond.declares (Bundle.init0 Bundle.tN)]
theorem ns_ng : ∀ w ∈ (vx_at0 RX10 369 nsE nsN).filter (fun w => !goodWord w), w ∈ nsB := by decide +kernel
theorem nsB_on : ∀ w ∈ nsB, w.onTables = true := by decide
theorem nsB_warm {s U : State} (hW : s.WarmedH U.vm) (h : ∀ w ∈ nsB, va_Nw w s) : ∀ w ∈ nsB, va_Nw w U := by
  intro w hw
  have h1 := h w hw
  simp only [List.mem_cons, List.not_mem_nil, or_false] at hw
  rcases hw with rfl | rfl | rfl | rfl
  · exact va_Nw.warmC hW h1
  · exact va_Nw.warmD hW h1
  · exact va_Nw.warmD hW h1
  · exact va_Nw.warmD hW h1
theorem ns_ot : ∀ w ∈ Cond.classLink RX10 367 nsE :: Cond.initialized nsE :: vx_at0 RX10 369 nsE nsN, vx_ot w = true := by decide +kernel
def zT (A : Nat → Prop) (U : State) (H : Heap) : Prop := vx_Zq Bundle.tN "UNASSIGNED_STACK" Bundle.steD A U H ∧ vx_Zq Bundle.tN "SUPPRESSED_SENTINEL" Bundle.listD A U H ∧ ∀ w ∈ nsB, va_Nw w U
theorem zT_call {A B : Nat → Prop} {s U : State} {H : Heap} {locs : List Loc} (hZ : zT A s s.heap) (hS : va_S A s.heap H locs) (hF : ∀ q, B q → A q) (hU : U.heap = H) (hW : s.WarmedH U.vm) : zT B U U.heap := by
  have hk : ∀ a : Nat, a < s.heap.size → ¬ A a → U.heap[a]? = s.heap[a]? := fun a ha hA => by rw [hU]; exact hS.2.1 a ha hA
  exact ⟨((hZ.1.kept hk).narrow hF).moved hW.alike, ((hZ.2.1.kept hk).narrow hF).moved hW.alike, nsB_warm hW hZ.2.2⟩
def xPreT (E : xE) (av : List Value) (ws : va_W) (sz : Nat) : Array Value → State → Prop := fun a U => xPre E av ws sz a U ∧ zT (va_A ws sz) U U.heap
theorem xPreT_blind {E : xE} {av : List Value} {ws : va_W} {sz : Nat} : FrameBlind (xPreT E av ws sz) := by
  intro a U g mk q
  exact ⟨xPre_blind a U g mk q.1, vx_Zq.moved (u := U) (U := U.calling g mk a) (Vm.Alike.refl U.vm) q.2.1, vx_Zq.moved (u := U) (U := U.calling g mk a) (Vm.Alike.refl U.vm) q.2.2.1, fun w hw => va_Nw.same (u := U) (U := U.calling g mk a) (nsB_on w hw) rfl (q.2.2.2 w hw)⟩
/-- the class's led throws, and leaves its world as it was -/
def ledT (l : Launch) (E : xE) (b1 : Nat) (l1 : Int32) (wx : va_W) : Prop := ∀ sz : Nat, vx_Met l yX10_led (.code yX10_led cX10_led 4 (some .int) :: tG) (xRc 6 200 1 6) (xPreT E [.ref b1, .int l1] wx sz) (va_Qi (fun (_ : Int32) (_ : Unit) => False) (fun _ _ => True) (va_A wx sz)) (vx_X (fun _ : Unit => True) (fun Ex _ t => Ex = nsE ∧ xWd E (va_A wx sz) wx t) (va_A wx sz)) 1 6 (va_A wx sz)
set_option maxHeartbeats 4000000 in
set_option maxRecDepth 100000 in
theorem c_X_led_t {l : Launch} {E : xE} {ad : Nat → Nat} {x_imageCount x_lastTrouble x_lastFault x_lastPlace pa_faultNumber pa_faultPlace rd_length rd_end rd_next rd_sort rd_start rd_value to_seats to_slack to_sawInches to_quarrelChance to_people to_forkBits to_unsure to_tried to_triedFedBits tf_pairs tf_gone bd_seats bd_slack bd_sawInches bd_quarrelChance bd_forkBits bd_unsure bd_tried bd_triedFedBits bf_pairs bf_gone nw_pairs nw_gone sc_forkBits sc_canBits sc_bestBits sc_bestSlops sl_count se_bestWorth se_fresh ch_items ch_leastCost ch_leastBits cl_count fi_count ps_next ps_count i0_pairs i0_gone i1_pairs i1_gone i2_pairs i2_gone : Int32} {pa_names : Nat → Int64} {rd_tape to_unsurePair to_unsureYears to_triedPair tf_seatOf tf_one tf_other tf_kind tf_years tf_sawn bd_unsurePair bd_unsureYears bd_triedPair bf_seatOf bf_one bf_other bf_kind bf_years bf_sawn nw_seatOf nw_one nw_other nw_kind nw_years nw_sawn sc_seatOf sc_handle sc_both sc_slopOf sl_bits se_bestRow se_row se_pairAt se_hope se_hopeAt se_slopAt se_farBits se_gain se_worth ch_both ch_cost ch_bit cl_bits fi_sets ps_act ps_whom ps_amount i0_seatOf i0_one i0_other i0_kind i0_years i0_sawn i1_seatOf i1_one i1_other i1_kind i1_years i1_sawn i2_seatOf i2_one i2_other i2_kind i2_years i2_sawn : Nat → Int32} {rd_word : Int64} {l1 : Int32} {P : Nat} {F : Nat → Int32} (hst : l.stackTraces = false) (hP : P ≤ 5) (hF : ∀ q, q < P → f_X_feederBits (iI (q : Nat)) bd_slack nw_seatOf nw_one nw_other nw_kind nw_years nw_sawn nw_pairs = some (F q)) (hr : ledN F l1 P 0 0 = none) : ledT l E (ad 0) l1 (wX E ad x_imageCount x_lastTrouble x_lastFault x_lastPlace pa_names pa_faultNumber pa_faultPlace rd_tape rd_length rd_end rd_next rd_sort rd_start rd_value rd_word to_unsurePair to_unsureYears to_triedPair to_seats to_slack to_sawInches to_quarrelChance to_people to_forkBits to_unsure to_tried to_triedFedBits tf_seatOf tf_one tf_other tf_kind tf_years tf_sawn tf_pairs tf_gone bd_unsurePair bd_unsureYears bd_triedPair bd_seats bd_slack bd_sawInches bd_quarrelChance (iI (P : Nat)) bd_forkBits bd_unsure bd_tried bd_triedFedBits bf_seatOf bf_one bf_other bf_kind bf_years bf_sawn bf_pairs bf_gone nw_seatOf nw_one nw_other nw_kind nw_years nw_sawn nw_pairs nw_gone sc_seatOf sc_handle sc_both sc_slopOf sc_forkBits sc_canBits sc_bestBits sc_bestSlops sl_bits sl_count se_bestRow se_row se_pairAt se_hope se_hopeAt se_slopAt se_farBits se_gain se_worth se_bestWorth se_fresh ch_both ch_cost ch_bit ch_items ch_leastCost ch_leastBits cl_bits cl_count fi_sets fi_count ps_act ps_whom ps_amount ps_next ps_count i0_seatOf i0_one i0_other i0_kind i0_years i0_sawn i0_pairs i0_gone i1_seatOf i1_one i1_other i1_kind i1_years i1_sawn i1_pairs i1_gone i2_seatOf i2_one i2_other i2_kind i2_years i2_sawn i2_pairs i2_gone) := by
  intro sz
  refine vx_ofW (cc := cX10_led) (maxL := 4) (ret := some .int) (by decide) rfl ?_
  intro p e s m args below meth c s₁ B hml hex hv
  obtain ⟨⟨rfl, hsz, hP0, hK, hD, hN, hZ⟩, hU, hN2, hcs⟩ := hv
  subst hsz
  have hts := atoms_spec (ws := Cond.code yX10_led cX10_led 4 (some .int) :: tG) B.pre
  rw [lg_entry_eq]
  have hl0 := lv_entry [Value.ref (ad 0), Value.int l1] (n := 4) (Nat.le_of_ble_eq_true rfl)
  generalize (lg_sl [Value.ref (ad 0), Value.int l1] ++ List.replicate (4 - (lg_sl [Value.ref (ad 0), Value.int l1]).length) Slot.unset).toArray = ls at hl0 ⊢
  have hl : lv_has ls 4 [(0, .ref (ad 0)), (1, .int l1)] := hl0
  generalize hA : va_A (wX E ad x_imageCount x_lastTrouble x_lastFault x_lastPlace pa_names pa_faultNumber pa_faultPlace rd_tape rd_length rd_end rd_next rd_sort rd_start rd_value rd_word to_unsurePair to_unsureYears to_triedPair to_seats to_slack to_sawInches to_quarrelChance to_people to_forkBits to_unsure to_tried to_triedFedBits tf_seatOf tf_one tf_other tf_kind tf_years tf_sawn tf_pairs tf_gone bd_unsurePair bd_unsureYears bd_triedPair bd_seats bd_slack bd_sawInches bd_quarrelChance (iI (P : Nat)) bd_forkBits bd_unsure bd_tried bd_triedFedBits bf_seatOf bf_one bf_other bf_kind bf_years bf_sawn bf_pairs bf_gone nw_seatOf nw_one nw_other nw_kind nw_years nw_sawn nw_pairs nw_gone sc_seatOf sc_handle sc_both sc_slopOf sc_forkBits sc_canBits sc_bestBits sc_bestSlops sl_bits sl_count se_bestRow se_row se_pairAt se_hope se_hopeAt se_slopAt se_farBits se_gain se_worth se_bestWorth se_fresh ch_both ch_cost ch_bit ch_items ch_leastCost ch_leastBits cl_bits cl_count fi_sets fi_count ps_act ps_whom ps_amount ps_next ps_count i0_seatOf i0_one i0_other i0_kind i0_years i0_sawn i0_pairs i0_gone i1_seatOf i1_one i1_other i1_kind i1_years i1_sawn i1_pairs i1_gone i2_seatOf i2_one i2_other i2_kind i2_years i2_sawn i2_pairs i2_gone) s.heap.size = A at hZ hU hN2 ⊢
  have hAq : ∀ q : Nat, s.heap.size ≤ q → A q := fun q h => by rw [← hA]; exact Or.inr h
  have hDA : va_D A (wX E ad x_imageCount x_lastTrouble x_lastFault x_lastPlace pa_names pa_faultNumber pa_faultPlace rd_tape rd_length rd_end rd_next rd_sort rd_start rd_value rd_word to_unsurePair to_unsureYears to_triedPair to_seats to_slack to_sawInches to_quarrelChance to_people to_forkBits to_unsure to_tried to_triedFedBits tf_seatOf tf_one tf_other tf_kind tf_years tf_sawn tf_pairs tf_gone bd_unsurePair bd_unsureYears bd_triedPair bd_seats bd_slack bd_sawInches bd_quarrelChance (iI (P : Nat)) bd_forkBits bd_unsure bd_tried bd_triedFedBits bf_seatOf bf_one bf_other bf_kind bf_years bf_sawn bf_pairs bf_gone nw_seatOf nw_one nw_other nw_kind nw_years nw_sawn nw_pairs nw_gone sc_seatOf sc_handle sc_both sc_slopOf sc_forkBits sc_canBits sc_bestBits sc_bestSlops sl_bits sl_count se_bestRow se_row se_pairAt se_hope se_hopeAt se_slopAt se_farBits se_gain se_worth se_bestWorth se_fresh ch_both ch_cost ch_bit ch_items ch_leastCost ch_leastBits cl_bits cl_count fi_sets fi_count ps_act ps_whom ps_amount ps_next ps_count i0_seatOf i0_one i0_other i0_kind i0_years i0_sawn i0_pairs i0_gone i1_seatOf i1_one i1_other i1_kind i1_years i1_sawn i1_pairs i1_gone i2_seatOf i2_one i2_other i2_kind i2_years i2_sawn i2_pairs i2_gone) := by rw [← hA]; exact hD.self
  have C : xC p s m #[Value.ref (ad 0), Value.int l1] meth c cX10_led 4 RX10 E A (some .int) := ⟨B.exec, B.bytes, hml, findClass_of_methodNamed B.named, fun w hw => hts w (List.mem_cons_of_mem _ hw), hN, hK, hAq, B.notSynchronized, B.returns, hZ⟩
  have hx := C.1
  have hb := C.2.1
  refine lv_iconst (v := 0) hx hb dX10_led_0 (by decide) ?_
  refine lv_istore_n (lv' := [(2, .int (0 : Int32)), (0, .ref (ad 0)), (1, .int l1)]) hx hb dX10_led_1 rfl hl (by decide) rfl (fun ls hl => ?_)
  refine lv_iconst (v := 0) hx hb dX10_led_2 (by decide) ?_
  refine lv_istore_n (lv' := [(3, .int (0 : Int32)), (2, .int (0 : Int32)), (0, .ref (ad 0)), (1, .int l1)]) hx hb dX10_led_3 rfl hl (by decide) rfl (fun ls hl => ?_)
  refine w_led (R := xRc 6 200 1 6) C hP hF ⟨Nat.le_of_ble_eq_true rfl, Nat.le_of_ble_eq_true rfl⟩ ⟨Nat.zero_le _, Nat.zero_le _⟩ P 0 0 _ _ _ (by omega) ⟨hP0, hDA, va_S.rf⟩ hl (fun r' H locs ls h1 G => ?_) (fun H locs ls h1 G hz => ?_)
  · rw [hr] at h1
    cases h1
  · refine vx_throw0 (own := RX10) (cls := nsE) (names := nsN) (ik := 367) (ic := 369) (A := A) hx hb hst C.2.2.2.1 (by decide +kernel) (by decide +kernel) (C.2.2.2.2.1 _ ns_1) (C.2.2.2.2.1 _ ns_2) (vx_hat (fun w hw => C.2.2.2.2.1 _ (ns_tG w hw)) ns_ng (fun w hw => va_Nw.use (nsB_on w hw) (hcs w hw))) ns_ot hU hN2 G.2.2 (by rw [hml]; exact hz) dX10_led_39 dX10_led_42 dX10_led_43 dX10_led_46 (fun x h => (hex x h).elim) (Nat.le_of_ble_eq_true rfl) (Nat.le_of_ble_eq_true rfl) (Nat.le_of_ble_eq_true rfl) (Nat.le_of_ble_eq_true rfl) B.notSynchronized (fun t hvm h1 h2 => ?_) G.2.2.2.2 (Nat.le_of_ble_eq_true rfl) (Nat.le_of_ble_eq_true rfl)
    refine ⟨(), trivial, ⟨rfl, ?_, G.2.1⟩, Nat.le_trans G.2.2.1 h1, fun q h3 h4 => (h2 q (Nat.lt_of_lt_of_le h3 G.2.2.1)).trans (G.2.2.2.1 q h3 h4)⟩
    exact G.1.kept (fun k x hx => h2 x.1 ((G.1 k x hx).lt))
