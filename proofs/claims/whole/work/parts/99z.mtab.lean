/-! the reference makes a table: its table(n) over the machine -/
theorem clX12_150 : xCl RX12 150 11 [.int 0, .int 0, .int 0, .int 0, .int 0, .int 0, .int 0, .int 0, .int 0, .int 0, .null, .null, .null, .null, .null, .null, .null, .null, .null] 19 := ⟨RX11, TX11, tyX11, rfl, subX11, tyX11_ok, tG_of 1499 (by decide +kernel) rfl, tG_of 1500 (by decide +kernel) rfl, tG_of 150 (by decide +kernel) rfl, by decide +kernel⟩
theorem kiX12_294 : xLk RX12 294 yX11_init := Or.inr ⟨"SpoonTableModel", tN_of 1501 (by decide +kernel) rfl⟩
theorem miX11_init : xMI yX11_init cX11_init 1 0 := ⟨tG_of 1502 (by decide +kernel) rfl, tG_of 150 (by decide +kernel) rfl, tG_of 1503 (by decide +kernel) rfl, rfl, by decide +kernel, by decide +kernel, by decide +kernel⟩
theorem mX12_readAll : xM yX12_readAll RX12 cX12_readAll 2 none 0 := ⟨tG_of 1593 (by decide +kernel) rfl, tG_of 59 (by decide +kernel) rfl, tG_of 146 (by decide +kernel) rfl, tG_of 1594 (by decide +kernel) rfl, rfl, by decide +kernel, by decide +kernel, by decide +kernel⟩
theorem kX12_295 : xLk RX12 295 yX12_readAll := Or.inl (tG_of 1591 (by decide +kernel) rfl)
def mixA (ad : Nat → Nat) (h : Nat) (a2 : Nat → Nat) : Nat → Nat
  | 0 => ad 0
  | 1 => ad 1
  | 2 => ad 2
  | 3 => ad 3
  | 4 => ad 4
  | 5 => ad 5
  | 6 => ad 6
  | 7 => ad 7
  | 8 => ad 8
  | 9 => h
  | 10 => a2 0
  | 11 => a2 1
  | 12 => a2 2
  | 13 => a2 3
  | 14 => a2 4
  | 15 => a2 5
  | 16 => a2 6
  | 17 => a2 7
  | 18 => a2 8
  | k => ad (k - 10)
/-- contracts of methods that give an int and make cells -/
abbrev xqN (E : xE) (A : Nat → Prop) (ws' : (Nat → Nat) → va_W) (rt : Option FieldType) (r : Int32) : Array Value → State → Outcome → State → Prop := va_Qi (fun (r' : Int32) (_ : Nat → Nat) => r' = r ∧ xNr rt r) (fun ad t => xWd E A (ws' ad) t) A
def xNI (l : Launch) (E : xE) (y : MethodName) (cc : ByteArray) (nL : Nat) (rt : Option FieldType) (fr lo mc ms : Nat) (av : List Value) (ws : va_W) (ws' : (Nat → Nat) → va_W) (r : Int32) : Prop := ∀ sz : Nat, Met l y (.code y cc nL rt :: tG) (xRc fr lo mc ms) (xPre E av ws sz) (xqN E (va_A ws sz) ws' rt r) mc ms (va_A ws sz)
theorem xNI_of {l : Launch} {E : xE} {y : MethodName} {cc : ByteArray} {nL fr lo mc ms : Nat} {rt : Option FieldType} {av : List Value} {ws : va_W} {ws' : (Nat → Nat) → va_W} {r : Int32} (hy : plainName y.cls = true) (hn : (lg_sl av).length ≤ nL)
    (body : ∀ (p : Program) (e : Env) (s : State) (m : MethodId) (args : Array Value) (below : List Frame) (meth : Method) (c : Code) (A : Nat → Prop), xC p s m args meth c cc nL y.cls E A rt → ∀ ls : Array Slot, lv_has ls nL (lv_args 0 av) → xG s E A ws s.heap [] → W p l e (xRc fr lo mc ms) s m args below meth c s.heap [] 0 0 (MQ below (xqN E A ws' rt r) args s mc ms A) (F0 m 0 ls [])) :
    xNI l E y cc nL rt fr lo mc ms av ws ws' r := by
  intro sz
  refine Met.ofW (cc := cc) (maxL := nL) (ret := rt) hy rfl ?_
  intro p e s m args below meth c s₁ B hml hv
  obtain ⟨rfl, hsz, hP, hK, hD, hN, hZ⟩ := hv
  subst hsz
  have hts := atoms_spec (ws := Cond.code y cc nL rt :: tG) B.pre
  rw [lg_entry_eq]
  exact body p e s m _ below meth c _ ⟨B.exec, B.bytes, hml, findClass_of_methodNamed B.named, fun w hw => hts w (List.mem_cons_of_mem _ hw), hN, hK, fun q h => Or.inr h, B.notSynchronized, B.returns, hZ⟩ _ (lv_entry av hn) ⟨hP, hD.self, va_S.rf⟩
section
variable {p : Program} {l : Launch} {e : Env} {R : Room} {s : State} {m : MethodId} {args : Array Value} {below : List Frame} {meth : Method} {c : Code} {H : Heap} {locs : List Loc} {cells slots : Nat} {Q : State → Prop} {cc : ByteArray} {nL : Nat} {own : String} {E : xE} {A : Nat → Prop} {rt : Option FieldType} {wc : va_W} {pc : Nat} {ls : Array Slot} {rest st : List Value}
theorem xNI_ret {mc ms : Nat} {ws' : (Nat → Nat) → va_W} {ty : FieldType} {r : Int32} (ad : Nat → Nat) (C : xC p s m args meth c cc nL own E A (some ty)) (G : xG s E A (ws' ad) H locs) (hn : narrow ty (.int r) = .int r) (hdg : decode cc pc = .ok (.ireturn, 1)) : W p l e R s m args below meth c H locs mc ms (MQ below (xqN E A ws' (some ty) r) args s mc ms A) (F0 m pc ls [.int r]) := by
  obtain ⟨hx, hb, hml, hown, hts, hN, hK, hA, hlocks, hr, hZ⟩ := C
  obtain ⟨hP, hD, hS⟩ := G
  exact W.zret hx hb hr hn (fun t ht hW => ⟨⟨r, ad, rfl, ⟨rfl, fun ty h => by cases h; exact hn⟩, ⟨by rw [ht]; exact hP, hD⟩⟩, hS.F ht⟩) hS.2.2 hdg
theorem xNI_Vf {y : MethodName} {cc' : ByteArray} {nL' fr lo mc ms n idx q0 ci b : Nat} {rt' : Option FieldType} {As fs : List Value} {Cq : vw_C} {r : Int32} {wr : va_W} {wc' : (Nat → Nat) → va_W}
    (C : xC p s m args meth c cc nL own E A rt) (G : xG s E A (wr ++ wc) H locs) (K : xNI l E y cc' nL' rt' fr lo mc ms (.ref b :: As) wc wc' r) (Mt : xM y Cq.1 cc' nL' rt' n) (hl : xLk own idx y)
    (he : wc[q0]? = some (b, .inr (ci, fs))) (hc : vwCl[ci]? = some Cq) (hR : fr + 1 ≤ R.frames ∧ 8 + (nL' + 11) + lo ≤ R.locals) (hn : As.length = n) (hsz : ls.size = nL) (hst : st = As.reverse ++ .ref b :: rest) (hW : (rest.map fun v => v.category).sum ≤ 8) (hf : cells + mc ≤ R.cells ∧ slots + ms ≤ R.slots) (hdg : decode cc pc = .ok (.invokevirtual idx, 3))
    (kk : xNr rt' r → ∀ (ad : Nat → Nat) (H : Heap) (locs : List Loc), xG s E A (wr ++ wc' ad) H locs → W p l e R s m args below meth c H locs (cells + mc) (slots + ms) Q (F0 m (pc + 3) ls (.int r :: rest))) : W p l e R s m args below meth c H locs cells slots Q (F0 m pc ls st) := by
  have hF := xfreeR G.2.1 G.2.2 C.2.2.2.2.2.2.2.1
  have hrun : va_Run p l e R s m args below meth c H locs cells slots mc ms (F0 m pc ls st) rest (xqN E (va_A wc H.size) wc' rt' r (Value.ref b :: As).toArray) (va_A wc H.size) := by
    obtain ⟨hx, hb, hml, hown, hts, hN, hK, hA, hlocks, hr, hZ⟩ := C
    obtain ⟨hP, hD, hS⟩ := G
    obtain ⟨h1, h2, h3, h4, h5, h6, h7, h8⟩ := Mt
    have hpre : PreV s H Cq.1 b (xPre E (.ref b :: As) wc H.size) As := ⟨xPre_blind, va_recv hK hP.right hc he, fun U hU hW => ⟨rfl, by rw [hU], by rw [hU]; exact hP.right, va_K.moved hW.alike hK, hD.right.weaken (fun _ _ _ _ => trivial), tN_warm hW hN, xZ_call hZ hS hF hU hW⟩⟩
    have hG : GoodIn tG (Cond.code y cc' nL' rt' :: tG) := tG_good (fun w hw => by
      rcases List.mem_cons.mp hw with e | e
      · rw [e]; exact h4
      · exact e)
    rcases hl with hl | ⟨host, hl⟩
    · exact va_runV ⟨hx, hb, hml, hown, hts⟩ (K H.size) (cwV n hts (tG_good (fun w hw => by
        rcases List.mem_append.mp hw with e | e
        · simp only [List.mem_cons, List.not_mem_nil, or_false] at e
          rcases e with e | e | e | e <;> (rw [e]; assumption)
        · exact (hG w e).1)) rfl rfl rfl ⟨h5, h6, h7, h8⟩ hR) hpre rfl hn hsz hst (by simpa using hW) hdg hf
    · exact va_runVN ⟨hx, hb, hml, hown, hts⟩ (K H.size) ⟨va_cnB n hts hG rfl rfl rfl (hN _ hl) (by rw [h5]; exact hts _ h3) ⟨h6, h7, h8⟩ hR, hts _ h1, hts _ h2⟩ hpre rfl hn hsz hst (by simpa using hW) hdg hf
  refine va_calli hrun G.2.2 (fun q _ h => hF q h) hF (fun r1 u t H1 locs1 ht hvm hw hB hz hk hS1 => ?_)
  obtain ⟨rfl, hn⟩ := hw
  have hP1 := hB.1
  rw [ht] at hP1
  obtain ⟨h9, h10⟩ := xjoin G.1 G.2.1 hk hF hP1 hB.2
  exact kk hn u H1 locs1 ⟨h9, h10, hS1⟩
end
set_option maxHeartbeats 4000000 in
set_option maxRecDepth 100000 in
theorem w_M_tabD_m_L104 {p : Program} {l : Launch} {e : Env} {s : State} {m : MethodId} {args : Array Value} {below : List Frame} {meth : Method} {c : Code} {A : Nat → Prop} {E : xE} {Q : State → Prop} {R : Room} {cells slots : Nat} {ad : Nat → Nat} {m_thrown m_trouble m_where m_taped m_size m_spot m_sort m_place m_number m_fault m_wrongAt m_acts m_images m_matchNow m_slopsNow m_matchesNow m_fedBest m_slopsBest m_sawBest m_leastNow m_stableNow m_fitsNow m_someNow m_everyNow m_askLeft tb_seats tb_slack tb_saw tb_quarrel tb_people tb_pairs tb_forks tb_unsures tb_trieds tb_fed : Int32} {m_rv : Value} {m_tape m_x m_past m_kept m_slopped m_seatBest m_otherIn tb_seat tb_one tb_other tb_years tb_kind tb_unsure tb_may tb_tried : Nat → Int32} {m_word : Int64} {tb_name : Nat → Int64} {o : (Nat → Int32)} (C : xC p s m args meth c cX12_table 3 RX12 E A (some .int)) (J : ∀ (H : Heap) (locs : List Loc) (ls : Array Slot), xG s E A (wM E ad m_thrown m_trouble m_where m_rv m_tape m_taped m_size m_spot m_sort m_place m_number m_fault m_wrongAt m_word o m_x m_past m_kept m_acts m_images m_matchNow m_slopsNow m_matchesNow m_slopped m_seatBest m_fedBest m_slopsBest m_sawBest m_leastNow m_stableNow m_fitsNow m_someNow m_everyNow m_otherIn m_askLeft tb_seats tb_slack tb_saw tb_quarrel tb_people tb_pairs tb_forks tb_unsures tb_trieds tb_fed tb_seat tb_one tb_other tb_years tb_kind tb_unsure tb_may tb_tried tb_name) H locs → lv_has ls 3 [(0, .ref (ad 0))] → W p l e R s m args below meth c H locs cells slots Q (F0 m 128 ls [])) :
    ∀ (n : Nat) (l2 : Int32) (m_v : Nat → Int32) (H : Heap) (locs : List Loc) (ls : Array Slot), xG s E A (wM E ad m_thrown m_trouble m_where m_rv m_tape m_taped m_size m_spot m_sort m_place m_number m_fault m_wrongAt m_word m_v m_x m_past m_kept m_acts m_images m_matchNow m_slopsNow m_matchesNow m_slopped m_seatBest m_fedBest m_slopsBest m_sawBest m_leastNow m_stableNow m_fitsNow m_someNow m_everyNow m_otherIn m_askLeft tb_seats tb_slack tb_saw tb_quarrel tb_people tb_pairs tb_forks tb_unsures tb_trieds tb_fed tb_seat tb_one tb_other tb_years tb_kind tb_unsure tb_may tb_tried tb_name) H locs → lv_has ls 3 [(0, .ref (ad 0)), (2, .int l2)] → f_M_tabD_L104 m_x n l2 m_v = some o → W p l e R s m args below meth c H locs cells slots Q (F0 m 104 ls []) := by
  have hx := C.1
  have hb := C.2.1
  intro n
  induction n with
  | zero =>
    intro l2 m_v H locs ls G hl hf
    exact nomatch (show (none : Option ((Nat → Int32))) = some o from hf)
  | succ n ih =>
    intro l2 m_v H locs ls G hl hf
    rw [f_M_tabD_L104] at hf
    refine lv_iload_n hx hb dX12_table_104 rfl (lv_at hl 1 rfl) ?_
    refine lv_bipush (v := 58) hx hb dX12_table_105 (by decide) ?_
    refine lv_icmp_ge (tgt := 128) hx hb dX12_table_107 (by decide) (fun h => ?_) (fun h => ?_)
    · have hf := it_t h hf
      obtain rfl := Option.some.inj hf
      exact J _ _ _ G (lv_sub hl [0] rfl)
    · have hf := it_f h hf
      refine lv_aload_n hx hb dX12_table_110 rfl (lv_at hl 0 rfl) ?_
      refine x_get C G fX12_17 (wM_at0) rfl dX12_table_111 ?_
      refine lv_iload_n hx hb dX12_table_114 rfl (lv_at hl 1 rfl) ?_
      refine lv_aload_n hx hb dX12_table_115 rfl (lv_at hl 0 rfl) ?_
      refine x_get C G fX12_21 (wM_at0) rfl dX12_table_116 ?_
      refine lv_iload_n hx hb dX12_table_119 rfl (lv_at hl 1 rfl) ?_
      have hi := ck_in hf
      have hf := ck_go hf
      refine x_iald C G (wM_at3) hi dX12_table_120 ?_
      have hi := ck_in hf
      have hf := ck_go hf
      refine x_iast (ws' := (wM E ad m_thrown m_trouble m_where m_rv m_tape m_taped m_size m_spot m_sort m_place m_number m_fault m_wrongAt m_word (upd m_v l2.toNatClampNeg (m_x l2.toNatClampNeg)) m_x m_past m_kept m_acts m_images m_matchNow m_slopsNow m_matchesNow m_slopped m_seatBest m_fedBest m_slopsBest m_sawBest m_leastNow m_stableNow m_fitsNow m_someNow m_everyNow m_otherIn m_askLeft tb_seats tb_slack tb_saw tb_quarrel tb_people tb_pairs tb_forks tb_unsures tb_trieds tb_fed tb_seat tb_one tb_other tb_years tb_kind tb_unsure tb_may tb_tried tb_name)) C G (wM_at2) hi wM_set_m_v dX12_table_121 (fun H locs G => ?_)
      obtain ⟨x2, ex2⟩ : ∃ z : Int32, z = l2 + (1 : Int32) := ⟨_, rfl⟩
      have hf := lt_go ex2 hf
      refine lv_iinc (v := x2) (lv' := [(2, .int x2), (0, .ref (ad 0))]) hx hb dX12_table_122 hl (k := 1) rfl (by rw [ex2]; rfl) (by decide) rfl (fun ls hl => ?_)
      refine lv_goto (tgt := 104) hx hb dX12_table_125 (by decide) ?_
      exact ih x2 (upd m_v l2.toNatClampNeg (m_x l2.toNatClampNeg)) _ _ _ G (lv_sub hl [1, 0] rfl) hf
set_option maxHeartbeats 4000000 in
set_option maxRecDepth 100000 in
theorem w_tab97 {p : Program} {l : Launch} {e : Env} {s : State} {m : MethodId} {args : Array Value} {below : List Frame} {meth : Method} {c : Code} {A : Nat → Prop} {E : xE} {Q : State → Prop} {ad : Nat → Nat} {m_thrown m_trouble m_where m_taped m_size m_spot m_sort m_place m_number m_fault m_wrongAt m_acts m_images m_matchNow m_slopsNow m_matchesNow m_fedBest m_slopsBest m_sawBest m_leastNow m_stableNow m_fitsNow m_someNow m_everyNow m_askLeft tb_seats tb_slack tb_saw tb_quarrel tb_people tb_pairs tb_forks tb_unsures tb_trieds tb_fed : Int32} {m_rv : Value} {m_tape m_v m_x m_past m_kept m_slopped m_seatBest m_otherIn tb_seat tb_one tb_other tb_years tb_kind tb_unsure tb_may tb_tried : Nat → Int32} {m_word : Int64} {tb_name : Nat → Int64} {l1 : Int32} {R0 : Int32 × Int32 × Int32 × (Nat → Int32) × (Nat → Int32) × Int32 × Int32} (C : xC p s m args meth c cX12_table 3 RX12 E A (some .int)) (hf : f_M_tabD m_v m_x tb_people tb_pairs tb_forks tb_unsures tb_seat tb_one tb_other tb_years tb_kind tb_unsure tb_may = some R0) (J : ∀ (H : Heap) (locs : List Loc) (ls : Array Slot), xG s E A (wM E ad m_thrown R0.2.1 R0.2.2.1 m_rv m_tape m_taped m_size m_spot m_sort m_place m_number m_fault m_wrongAt m_word R0.2.2.2.1 R0.2.2.2.2.1 m_past m_kept R0.2.2.2.2.2.1 R0.2.2.2.2.2.2 m_matchNow m_slopsNow m_matchesNow m_slopped m_seatBest m_fedBest m_slopsBest m_sawBest m_leastNow m_stableNow m_fitsNow m_someNow m_everyNow m_otherIn m_askLeft tb_seats tb_slack tb_saw tb_quarrel tb_people tb_pairs tb_forks tb_unsures tb_trieds tb_fed tb_seat tb_one tb_other tb_years tb_kind tb_unsure tb_may tb_tried tb_name) H locs → W p l e (xRc 14 330 10 83) s m args below meth c H locs 10 83 Q (F0 m 149 ls [.int R0.1])) {H : Heap} {locs : List Loc} {ls : Array Slot} (G : xG s E A (wM E ad m_thrown m_trouble m_where m_rv m_tape m_taped m_size m_spot m_sort m_place m_number m_fault m_wrongAt m_word m_v m_x m_past m_kept m_acts m_images m_matchNow m_slopsNow m_matchesNow m_slopped m_seatBest m_fedBest m_slopsBest m_sawBest m_leastNow m_stableNow m_fitsNow m_someNow m_everyNow m_otherIn m_askLeft tb_seats tb_slack tb_saw tb_quarrel tb_people tb_pairs tb_forks tb_unsures tb_trieds tb_fed tb_seat tb_one tb_other tb_years tb_kind tb_unsure tb_may tb_tried tb_name) H locs) (hl : lv_has ls 3 [(0, .ref (ad 0)), (1, .int l1)]) : W p l e (xRc 14 330 10 83) s m args below meth c H locs 10 83 Q (F0 m 97 ls []) := by
  have hx := C.1
  have hb := C.2.1
  unfold f_M_tabD at hf
  refine lv_aload_n hx hb dX12_table_97 rfl (lv_at hl 0 rfl) ?_
  refine lv_iconst (v := 0) hx hb dX12_table_98 (by decide) ?_
  obtain ⟨x1, hc, hf⟩ := bd_go hf
  refine xV_V C G (c_M_asTold_m_M hc) mX12_asTold kX12_300 (wM_at0) rfl ⟨Nat.le_of_ble_eq_true rfl, Nat.le_of_ble_eq_true rfl⟩ rfl hl.1 rfl (Nat.le_of_ble_eq_true rfl) ⟨Nat.le_of_ble_eq_true rfl, Nat.le_of_ble_eq_true rfl⟩ dX12_table_99 (fun H locs G => ?_)
  refine lv_iconst (v := 0) hx hb dX12_table_102 (by decide) ?_
  refine lv_istore_n (lv' := [(2, .int (0 : Int32)), (0, .ref (ad 0)), (1, .int l1)]) hx hb dX12_table_103 rfl hl (by decide) rfl (fun ls hl => ?_)
  obtain ⟨x3, hr, hf⟩ := bd_go hf
  have Jx3 : ∀ (H : Heap) (locs : List Loc) (ls : Array Slot), xG s E A (wM E ad m_thrown m_trouble m_where m_rv m_tape m_taped m_size m_spot m_sort m_place m_number m_fault m_wrongAt m_word x3 x1 m_past m_kept m_acts m_images m_matchNow m_slopsNow m_matchesNow m_slopped m_seatBest m_fedBest m_slopsBest m_sawBest m_leastNow m_stableNow m_fitsNow m_someNow m_everyNow m_otherIn m_askLeft tb_seats tb_slack tb_saw tb_quarrel tb_people tb_pairs tb_forks tb_unsures tb_trieds tb_fed tb_seat tb_one tb_other tb_years tb_kind tb_unsure tb_may tb_tried tb_name) H locs → lv_has ls 3 [(0, .ref (ad 0))] → W p l e (xRc 14 330 10 83) s m args below meth c H locs 10 83 Q (F0 m 128 ls []) := by
    intro H locs ls G hl
    refine lv_aload_n hx hb dX12_table_128 rfl (lv_at hl 0 rfl) ?_
    refine lv_iconst (v := 0) hx hb dX12_table_129 (by decide) ?_
    refine x_put (ws' := (wM E ad m_thrown m_trouble m_where m_rv m_tape m_taped m_size m_spot m_sort m_place m_number m_fault m_wrongAt m_word x3 x1 m_past m_kept (0 : Int32) m_images m_matchNow m_slopsNow m_matchesNow m_slopped m_seatBest m_fedBest m_slopsBest m_sawBest m_leastNow m_stableNow m_fitsNow m_someNow m_everyNow m_otherIn m_askLeft tb_seats tb_slack tb_saw tb_quarrel tb_people tb_pairs tb_forks tb_unsures tb_trieds tb_fed tb_seat tb_one tb_other tb_years tb_kind tb_unsure tb_may tb_tried tb_name)) C G fX12_303 (wM_at0) rfl rfl (Nat.le_of_ble_eq_true rfl) wM_set_m_acts dX12_table_130 (fun H locs G => ?_)
    refine lv_aload_n hx hb dX12_table_133 rfl (lv_at hl 0 rfl) ?_
    refine lv_iconst (v := 0) hx hb dX12_table_134 (by decide) ?_
    refine x_put (ws' := (wM E ad m_thrown m_trouble m_where m_rv m_tape m_taped m_size m_spot m_sort m_place m_number m_fault m_wrongAt m_word x3 x1 m_past m_kept (0 : Int32) (0 : Int32) m_matchNow m_slopsNow m_matchesNow m_slopped m_seatBest m_fedBest m_slopsBest m_sawBest m_leastNow m_stableNow m_fitsNow m_someNow m_everyNow m_otherIn m_askLeft tb_seats tb_slack tb_saw tb_quarrel tb_people tb_pairs tb_forks tb_unsures tb_trieds tb_fed tb_seat tb_one tb_other tb_years tb_kind tb_unsure tb_may tb_tried tb_name)) C G fX12_306 (wM_at0) rfl rfl (Nat.le_of_ble_eq_true rfl) wM_set_m_images dX12_table_135 (fun H locs G => ?_)
    refine lv_aload_n hx hb dX12_table_138 rfl (lv_at hl 0 rfl) ?_
    refine lv_aload_n hx hb dX12_table_139 rfl (lv_at hl 0 rfl) ?_
    refine x_get C G fX12_298.g (wM_at0) rfl dX12_table_140 ?_
    refine x_get C G fX12_177.g (wM_at9) rfl dX12_table_143 ?_
    obtain ⟨x4, hc, hf⟩ := bd_go hf
    refine xI_V C G (c_M_good_m_M hc) mX12_good kX12_49 (wM_at0) rfl ⟨Nat.le_of_ble_eq_true rfl, Nat.le_of_ble_eq_true rfl⟩ rfl hl.1 rfl (Nat.le_of_ble_eq_true rfl) ⟨Nat.le_of_ble_eq_true rfl, Nat.le_of_ble_eq_true rfl⟩ dX12_table_146 (fun hz H locs G => ?_)
    obtain rfl := Option.some.inj hf
    exact J _ _ _ G
  exact w_M_tabD_m_L104 C Jx3 fu _ _ _ _ _ G (lv_sub hl [1, 0] rfl) hr
set_option maxHeartbeats 4000000 in
set_option maxRecDepth 100000 in
theorem c_M_table_no_N {l : Launch} {E : xE} {ad : Nat → Nat} {m_thrown m_trouble m_where m_taped m_size m_spot m_sort m_place m_number m_fault m_wrongAt m_acts m_images m_matchNow m_slopsNow m_matchesNow m_fedBest m_slopsBest m_sawBest m_leastNow m_stableNow m_fitsNow m_someNow m_everyNow m_askLeft : Int32} {m_rv : Value} {m_tape m_v m_x m_past m_kept m_slopped m_seatBest m_otherIn : Nat → Int32} {m_word : Int64} {l1 : Int32} (h : l1 < 0 ∨ m_taped < l1) : xNI l E yX12_table cX12_table 3 (some .int) 14 330 10 83 [.ref (ad 0), .int l1] (wN E ad m_thrown m_trouble m_where m_rv m_tape m_taped m_size m_spot m_sort m_place m_number m_fault m_wrongAt m_word m_v m_x m_past m_kept m_acts m_images m_matchNow m_slopsNow m_matchesNow m_slopped m_seatBest m_fedBest m_slopsBest m_sawBest m_leastNow m_stableNow m_fitsNow m_someNow m_everyNow m_otherIn m_askLeft) (fun _ => (wN E ad 0 2 (-1) m_rv m_tape m_taped m_size m_spot m_sort m_place m_number m_fault m_wrongAt m_word m_v m_x m_past m_kept m_acts m_images m_matchNow m_slopsNow m_matchesNow m_slopped m_seatBest m_fedBest m_slopsBest m_sawBest m_leastNow m_stableNow m_fitsNow m_someNow m_everyNow m_otherIn m_askLeft)) (-1) := by
  refine xNI_of (by decide) (Nat.le_of_ble_eq_true rfl) (fun p e s m args below meth c A C ls hl G => ?_)
  refine W.widen (k := 10) (n := 83) (Nat.le_of_ble_eq_true rfl) (Nat.le_of_ble_eq_true rfl) ?_
  have hx := C.1
  have hb := C.2.1
  have hl : lv_has ls 3 [(0, .ref (ad 0)), (1, .int l1)] := hl
  have J : ∀ (H : Heap) (locs : List Loc), xG s E A (wN E ad (0 : Int32) m_trouble m_where m_rv m_tape m_taped m_size m_spot m_sort m_place m_number m_fault m_wrongAt m_word m_v m_x m_past m_kept m_acts m_images m_matchNow m_slopsNow m_matchesNow m_slopped m_seatBest m_fedBest m_slopsBest m_sawBest m_leastNow m_stableNow m_fitsNow m_someNow m_everyNow m_otherIn m_askLeft) H locs → W p l e (xRc 14 330 10 83) s m args below meth c H locs 10 83 (MQ below (xqN E A (fun _ => (wN E ad 0 2 (-1) m_rv m_tape m_taped m_size m_spot m_sort m_place m_number m_fault m_wrongAt m_word m_v m_x m_past m_kept m_acts m_images m_matchNow m_slopsNow m_matchesNow m_slopped m_seatBest m_fedBest m_slopsBest m_sawBest m_leastNow m_stableNow m_fitsNow m_someNow m_everyNow m_otherIn m_askLeft)) (some .int) (-1)) args s 10 83 A) (F0 m 17 ls []) := by
    intro H locs G
    refine lv_aload_n hx hb dX12_table_17 rfl (lv_at hl 0 rfl) ?_
    refine lv_iconst (v := 2) hx hb dX12_table_18 (by decide) ?_
    refine xI_V C G (c_M_refused_m_N (R0 := (-1, 2, -1)) rfl) mX12_refused kX12_45 (wN_at0) rfl ⟨Nat.le_of_ble_eq_true rfl, Nat.le_of_ble_eq_true rfl⟩ rfl hl.1 rfl (Nat.le_of_ble_eq_true rfl) ⟨Nat.le_of_ble_eq_true rfl, Nat.le_of_ble_eq_true rfl⟩ dX12_table_19 (fun hz H locs G => ?_)
    exact xNI_ret (fun _ => 0) C G rfl dX12_table_22
  refine lv_aload_n hx hb dX12_table_0 rfl (lv_at hl 0 rfl) ?_
  refine lv_iconst (v := 0) hx hb dX12_table_1 (by decide) ?_
  refine x_put (ws' := (wN E ad (0 : Int32) m_trouble m_where m_rv m_tape m_taped m_size m_spot m_sort m_place m_number m_fault m_wrongAt m_word m_v m_x m_past m_kept m_acts m_images m_matchNow m_slopsNow m_matchesNow m_slopped m_seatBest m_fedBest m_slopsBest m_sawBest m_leastNow m_stableNow m_fitsNow m_someNow m_everyNow m_otherIn m_askLeft)) C G fX12_39 (wN_at0) rfl rfl (Nat.le_of_ble_eq_true rfl) wN_set_m_thrown dX12_table_2 (fun H locs G => ?_)
  refine lv_iload_n hx hb dX12_table_5 rfl (lv_at hl 1 rfl) ?_
  refine lv_if_lt (tgt := 17) hx hb dX12_table_6 (by decide) (fun h => ?_) (fun h => ?_)
  · exact J _ _ G
  · refine lv_iload_n hx hb dX12_table_9 rfl (lv_at hl 1 rfl) ?_
    refine lv_aload_n hx hb dX12_table_10 rfl (lv_at hl 0 rfl) ?_
    refine x_get C G fX12_291.g (wN_at0) rfl dX12_table_11 ?_
    refine lv_icmp_le (tgt := 23) hx hb dX12_table_14 (by decide) (fun h2 => ?_) (fun h2 => ?_)
    · exact absurd h2 (by
        rcases ‹l1 < 0 ∨ m_taped < l1› with h3 | h3
        · exact absurd h3 h
        · exact Int32.not_le.mpr h3)
    · exact J _ _ G
set_option maxHeartbeats 8000000 in
set_option maxRecDepth 100000 in
theorem c_M_table_bad_N {l : Launch} {E : xE} {ad : Nat → Nat} {m_thrown m_trouble m_where m_taped m_size m_spot m_sort m_place m_number m_fault m_wrongAt m_acts m_images m_matchNow m_slopsNow m_matchesNow m_fedBest m_slopsBest m_sawBest m_leastNow m_stableNow m_fitsNow m_someNow m_everyNow m_askLeft : Int32} {m_rv : Value} {m_tape m_v m_x m_past m_kept m_slopped m_seatBest m_otherIn : Nat → Int32} {m_word : Int64} {l1 : Int32} {x1 : Int32 × Int32 × Int32 × Int32 × Int64} {x2 : MB} (hlo : ¬ l1 < 0) (hle : l1 ≤ m_taped) (h1 : f_M_goesOn m_tape l1 0 0 m_place m_number m_word = some x1) (h2 : f_M_readAll m_tape l1 x1.1 x1.2.1 x1.2.2.1 x1.2.2.2.1 0 m_wrongAt x1.2.2.2.2 (0 : Int32) (0 : Int32) (0 : Int32) (0 : Int32) (0 : Int32) (0 : Int32) (0 : Int32) (0 : Int32) (0 : Int32) (0 : Int32) (fun _ => 0) (fun _ => 0) (fun _ => 0) (fun _ => 0) (fun _ => 0) (fun _ => 0) (fun _ => 0) (fun _ => 0) (fun _ => 0) = some x2) (hz : 0 < x2.2.2.2.2.1) : xNI l E yX12_table cX12_table 3 (some .int) 14 330 10 83 [.ref (ad 0), .int l1] (wN E ad m_thrown m_trouble m_where m_rv m_tape m_taped m_size m_spot m_sort m_place m_number m_fault m_wrongAt m_word m_v m_x m_past m_kept m_acts m_images m_matchNow m_slopsNow m_matchesNow m_slopped m_seatBest m_fedBest m_slopsBest m_sawBest m_leastNow m_stableNow m_fitsNow m_someNow m_everyNow m_otherIn m_askLeft) (fun ad2 => (wN E ad 0 4 x2.2.2.2.2.2.1 (.ref (ad2 0)) m_tape 0 l1 x2.1 x2.2.1 x2.2.2.1 x2.2.2.2.1 x2.2.2.2.2.1 x2.2.2.2.2.2.1 x2.2.2.2.2.2.2.1 m_v m_x m_past m_kept m_acts m_images m_matchNow m_slopsNow m_matchesNow m_slopped m_seatBest m_fedBest m_slopsBest m_sawBest m_leastNow m_stableNow m_fitsNow m_someNow m_everyNow m_otherIn m_askLeft)) (-1) := by
  refine xNI_of (by decide) (Nat.le_of_ble_eq_true rfl) (fun p e s m args below meth c A C ls hl G => ?_)
  have hx := C.1
  have hb := C.2.1
  have hl : lv_has ls 3 [(0, .ref (ad 0)), (1, .int l1)] := hl
  refine lv_aload_n hx hb dX12_table_0 rfl (lv_at hl 0 rfl) ?_
  refine lv_iconst (v := 0) hx hb dX12_table_1 (by decide) ?_
  refine x_put (ws' := (wN E ad (0 : Int32) m_trouble m_where m_rv m_tape m_taped m_size m_spot m_sort m_place m_number m_fault m_wrongAt m_word m_v m_x m_past m_kept m_acts m_images m_matchNow m_slopsNow m_matchesNow m_slopped m_seatBest m_fedBest m_slopsBest m_sawBest m_leastNow m_stableNow m_fitsNow m_someNow m_everyNow m_otherIn m_askLeft)) C G fX12_39 (wN_at0) rfl rfl (Nat.le_of_ble_eq_true rfl) wN_set_m_thrown dX12_table_2 (fun H locs G => ?_)
  refine lv_iload_n hx hb dX12_table_5 rfl (lv_at hl 1 rfl) ?_
  refine lv_if_lt (tgt := 17) hx hb dX12_table_6 (by decide) (fun h => absurd h hlo) (fun _ => ?_)
  refine lv_iload_n hx hb dX12_table_9 rfl (lv_at hl 1 rfl) ?_
  refine lv_aload_n hx hb dX12_table_10 rfl (lv_at hl 0 rfl) ?_
  refine x_get C G fX12_291.g (wN_at0) rfl dX12_table_11 ?_
  refine lv_icmp_le (tgt := 23) hx hb dX12_table_14 (by decide) (fun _ => ?_) (fun h => absurd hle h)
  refine lv_aload_n hx hb dX12_table_23 rfl (lv_at hl 0 rfl) ?_
  refine lv_iload_n hx hb dX12_table_24 rfl (lv_at hl 1 rfl) ?_
  refine x_put (ws' := (wN E ad (0 : Int32) m_trouble m_where m_rv m_tape m_taped l1 m_spot m_sort m_place m_number m_fault m_wrongAt m_word m_v m_x m_past m_kept m_acts m_images m_matchNow m_slopsNow m_matchesNow m_slopped m_seatBest m_fedBest m_slopsBest m_sawBest m_leastNow m_stableNow m_fitsNow m_someNow m_everyNow m_otherIn m_askLeft)) C G fX12_56 (wN_at0) rfl rfl (Nat.le_of_ble_eq_true rfl) wN_set_m_size dX12_table_25 (fun H locs G => ?_)
  refine lv_aload_n hx hb dX12_table_28 rfl (lv_at hl 0 rfl) ?_
  refine lv_iconst (v := 0) hx hb dX12_table_29 (by decide) ?_
  refine x_put (ws' := (wN E ad (0 : Int32) m_trouble m_where m_rv m_tape (0 : Int32) l1 m_spot m_sort m_place m_number m_fault m_wrongAt m_word m_v m_x m_past m_kept m_acts m_images m_matchNow m_slopsNow m_matchesNow m_slopped m_seatBest m_fedBest m_slopsBest m_sawBest m_leastNow m_stableNow m_fitsNow m_someNow m_everyNow m_otherIn m_askLeft)) C G fX12_291 (wN_at0) rfl rfl (Nat.le_of_ble_eq_true rfl) wN_set_m_taped dX12_table_30 (fun H locs G => ?_)
  refine lv_aload_n hx hb dX12_table_33 rfl (lv_at hl 0 rfl) ?_
  refine lv_iconst (v := 0) hx hb dX12_table_34 (by decide) ?_
  refine x_put (ws' := (wN E ad (0 : Int32) m_trouble m_where m_rv m_tape (0 : Int32) l1 (0 : Int32) m_sort m_place m_number m_fault m_wrongAt m_word m_v m_x m_past m_kept m_acts m_images m_matchNow m_slopsNow m_matchesNow m_slopped m_seatBest m_fedBest m_slopsBest m_sawBest m_leastNow m_stableNow m_fitsNow m_someNow m_everyNow m_otherIn m_askLeft)) C G fX12_74 (wN_at0) rfl rfl (Nat.le_of_ble_eq_true rfl) wN_set_m_spot dX12_table_35 (fun H locs G => ?_)
  refine lv_aload_n hx hb dX12_table_38 rfl (lv_at hl 0 rfl) ?_
  refine lv_iconst (v := 0) hx hb dX12_table_39 (by decide) ?_
  refine x_put (ws' := (wN E ad (0 : Int32) m_trouble m_where m_rv m_tape (0 : Int32) l1 (0 : Int32) m_sort m_place m_number (0 : Int32) m_wrongAt m_word m_v m_x m_past m_kept m_acts m_images m_matchNow m_slopsNow m_matchesNow m_slopped m_seatBest m_fedBest m_slopsBest m_sawBest m_leastNow m_stableNow m_fitsNow m_someNow m_everyNow m_otherIn m_askLeft)) C G fX12_97 (wN_at0) rfl rfl (Nat.le_of_ble_eq_true rfl) wN_set_m_fault dX12_table_40 (fun H locs G => ?_)
  refine lv_aload_n hx hb dX12_table_43 rfl (lv_at hl 0 rfl) ?_
  refine x_new C G clX12_150 ⟨Nat.le_of_ble_eq_true rfl, Nat.le_of_ble_eq_true rfl⟩ dX12_table_44 (fun q H G => ?_)
  refine lv_dup hx hb dX12_table_47 rfl ?_
  refine xN_I (wN E ad (0 : Int32) m_trouble m_where m_rv m_tape (0 : Int32) l1 (0 : Int32) m_sort m_place m_number (0 : Int32) m_wrongAt m_word m_v m_x m_past m_kept m_acts m_images m_matchNow m_slopsNow m_matchesNow m_slopped m_seatBest m_fedBest m_slopsBest m_sawBest m_leastNow m_stableNow m_fitsNow m_someNow m_everyNow m_otherIn m_askLeft) C G n_Tab miX11_init kiX12_294 ⟨Nat.le_of_ble_eq_true rfl, Nat.le_of_ble_eq_true rfl⟩ rfl hl.1 rfl (Nat.le_of_ble_eq_true rfl) ⟨Nat.le_of_ble_eq_true rfl, Nat.le_of_ble_eq_true rfl⟩ dX12_table_48 (fun aq _ H locs G => ?_)
  refine x_put (ws' := (wN E ad (0 : Int32) m_trouble m_where (.ref q) m_tape (0 : Int32) l1 (0 : Int32) m_sort m_place m_number (0 : Int32) m_wrongAt m_word m_v m_x m_past m_kept m_acts m_images m_matchNow m_slopsNow m_matchesNow m_slopped m_seatBest m_fedBest m_slopsBest m_sawBest m_leastNow m_stableNow m_fitsNow m_someNow m_everyNow m_otherIn m_askLeft) ++ nw_Tab E q aq) (q0 := 0) C G fX12_145 rfl rfl rfl (Nat.le_of_ble_eq_true rfl) rfl dX12_table_51 (fun H locs G => ?_)
  have G : xG s E A (wR E (mixA ad q aq) (0 : Int32) m_trouble m_where .null m_tape (0 : Int32) l1 (0 : Int32) m_sort m_place m_number (0 : Int32) m_wrongAt m_word m_v m_x m_past m_kept m_acts m_images m_matchNow m_slopsNow m_matchesNow m_slopped m_seatBest m_fedBest m_slopsBest m_sawBest m_leastNow m_stableNow m_fitsNow m_someNow m_everyNow m_otherIn m_askLeft (0 : Int32) (0 : Int32) (0 : Int32) (0 : Int32) (0 : Int32) (0 : Int32) (0 : Int32) (0 : Int32) (0 : Int32) (0 : Int32) (fun _ => 0) (fun _ => 0) (fun _ => 0) (fun _ => 0) (fun _ => 0) (fun _ => 0) (fun _ => 0) (fun _ => 0) (fun _ => 0)) H locs := G
  refine lv_aload_n hx hb dX12_table_54 rfl (lv_at hl 0 rfl) ?_
  refine lv_iconst (v := 0) hx hb dX12_table_55 (by decide) ?_
  refine x_put (ws' := (wR E (mixA ad q aq) (0 : Int32) m_trouble m_where .null m_tape (0 : Int32) l1 (0 : Int32) (0 : Int32) m_place m_number (0 : Int32) m_wrongAt m_word m_v m_x m_past m_kept m_acts m_images m_matchNow m_slopsNow m_matchesNow m_slopped m_seatBest m_fedBest m_slopsBest m_sawBest m_leastNow m_stableNow m_fitsNow m_someNow m_everyNow m_otherIn m_askLeft (0 : Int32) (0 : Int32) (0 : Int32) (0 : Int32) (0 : Int32) (0 : Int32) (0 : Int32) (0 : Int32) (0 : Int32) (0 : Int32) (fun _ => 0) (fun _ => 0) (fun _ => 0) (fun _ => 0) (fun _ => 0) (fun _ => 0) (fun _ => 0) (fun _ => 0) (fun _ => 0))) C G fX12_71 (wR_at0) rfl rfl (Nat.le_of_ble_eq_true rfl) wR_set_m_sort dX12_table_56 (fun H locs G => ?_)
  refine lv_aload_n hx hb dX12_table_59 rfl (lv_at hl 0 rfl) ?_
  refine xV_V C G (c_M_goesOn_m_R h1) mX12_goesOn kX12_107 (wR_at0) rfl ⟨Nat.le_of_ble_eq_true rfl, Nat.le_of_ble_eq_true rfl⟩ rfl hl.1 rfl (Nat.le_of_ble_eq_true rfl) ⟨Nat.le_of_ble_eq_true rfl, Nat.le_of_ble_eq_true rfl⟩ dX12_table_60 (fun H locs G => ?_)
  refine lv_aload_n hx hb dX12_table_63 rfl (lv_at hl 0 rfl) ?_
  refine xV_V C G (c_M_readAll_m_R h2) mX12_readAll kX12_295 (wR_at0) rfl ⟨Nat.le_of_ble_eq_true rfl, Nat.le_of_ble_eq_true rfl⟩ rfl hl.1 rfl (Nat.le_of_ble_eq_true rfl) ⟨Nat.le_of_ble_eq_true rfl, Nat.le_of_ble_eq_true rfl⟩ dX12_table_64 (fun H locs G => ?_)
  refine lv_aload_n hx hb dX12_table_67 rfl (lv_at hl 0 rfl) ?_
  refine x_get C G fX12_97.g (wR_at0) rfl dX12_table_68 ?_
  refine lv_if_le (tgt := 89) hx hb dX12_table_71 (by decide) (fun h => absurd hz (Int32.not_lt.mpr h)) (fun _ => ?_)
  refine lv_aload_n hx hb dX12_table_74 rfl (lv_at hl 0 rfl) ?_
  refine lv_iconst (v := 4) hx hb dX12_table_75 (by decide) ?_
  refine x_put (ws' := (wR E (mixA ad q aq) (0 : Int32) (4 : Int32) m_where .null m_tape (0 : Int32) l1 x2.1 x2.2.1 x2.2.2.1 x2.2.2.2.1 x2.2.2.2.2.1 x2.2.2.2.2.2.1 x2.2.2.2.2.2.2.1 m_v m_x m_past m_kept m_acts m_images m_matchNow m_slopsNow m_matchesNow m_slopped m_seatBest m_fedBest m_slopsBest m_sawBest m_leastNow m_stableNow m_fitsNow m_someNow m_everyNow m_otherIn m_askLeft x2.2.2.2.2.2.2.2.1 x2.2.2.2.2.2.2.2.2.1 x2.2.2.2.2.2.2.2.2.2.1 x2.2.2.2.2.2.2.2.2.2.2.1 x2.2.2.2.2.2.2.2.2.2.2.2.1 x2.2.2.2.2.2.2.2.2.2.2.2.2.1 x2.2.2.2.2.2.2.2.2.2.2.2.2.2.1 x2.2.2.2.2.2.2.2.2.2.2.2.2.2.2.1 x2.2.2.2.2.2.2.2.2.2.2.2.2.2.2.2.1 x2.2.2.2.2.2.2.2.2.2.2.2.2.2.2.2.2.1 x2.2.2.2.2.2.2.2.2.2.2.2.2.2.2.2.2.2.1 x2.2.2.2.2.2.2.2.2.2.2.2.2.2.2.2.2.2.2.1 x2.2.2.2.2.2.2.2.2.2.2.2.2.2.2.2.2.2.2.2.1 x2.2.2.2.2.2.2.2.2.2.2.2.2.2.2.2.2.2.2.2.2.1 x2.2.2.2.2.2.2.2.2.2.2.2.2.2.2.2.2.2.2.2.2.2.1 x2.2.2.2.2.2.2.2.2.2.2.2.2.2.2.2.2.2.2.2.2.2.2.1 x2.2.2.2.2.2.2.2.2.2.2.2.2.2.2.2.2.2.2.2.2.2.2.2.1 x2.2.2.2.2.2.2.2.2.2.2.2.2.2.2.2.2.2.2.2.2.2.2.2.2.1 x2.2.2.2.2.2.2.2.2.2.2.2.2.2.2.2.2.2.2.2.2.2.2.2.2.2)) C G fX12_42 (wR_at0) rfl rfl (Nat.le_of_ble_eq_true rfl) wR_set_m_trouble dX12_table_76 (fun H locs G => ?_)
  refine lv_aload_n hx hb dX12_table_79 rfl (lv_at hl 0 rfl) ?_
  refine lv_aload_n hx hb dX12_table_80 rfl (lv_at hl 0 rfl) ?_
  refine x_get C G fX12_100.g (wR_at0) rfl dX12_table_81 ?_
  refine x_put (ws' := (wR E (mixA ad q aq) (0 : Int32) (4 : Int32) x2.2.2.2.2.2.1 .null m_tape (0 : Int32) l1 x2.1 x2.2.1 x2.2.2.1 x2.2.2.2.1 x2.2.2.2.2.1 x2.2.2.2.2.2.1 x2.2.2.2.2.2.2.1 m_v m_x m_past m_kept m_acts m_images m_matchNow m_slopsNow m_matchesNow m_slopped m_seatBest m_fedBest m_slopsBest m_sawBest m_leastNow m_stableNow m_fitsNow m_someNow m_everyNow m_otherIn m_askLeft x2.2.2.2.2.2.2.2.1 x2.2.2.2.2.2.2.2.2.1 x2.2.2.2.2.2.2.2.2.2.1 x2.2.2.2.2.2.2.2.2.2.2.1 x2.2.2.2.2.2.2.2.2.2.2.2.1 x2.2.2.2.2.2.2.2.2.2.2.2.2.1 x2.2.2.2.2.2.2.2.2.2.2.2.2.2.1 x2.2.2.2.2.2.2.2.2.2.2.2.2.2.2.1 x2.2.2.2.2.2.2.2.2.2.2.2.2.2.2.2.1 x2.2.2.2.2.2.2.2.2.2.2.2.2.2.2.2.2.1 x2.2.2.2.2.2.2.2.2.2.2.2.2.2.2.2.2.2.1 x2.2.2.2.2.2.2.2.2.2.2.2.2.2.2.2.2.2.2.1 x2.2.2.2.2.2.2.2.2.2.2.2.2.2.2.2.2.2.2.2.1 x2.2.2.2.2.2.2.2.2.2.2.2.2.2.2.2.2.2.2.2.2.1 x2.2.2.2.2.2.2.2.2.2.2.2.2.2.2.2.2.2.2.2.2.2.1 x2.2.2.2.2.2.2.2.2.2.2.2.2.2.2.2.2.2.2.2.2.2.2.1 x2.2.2.2.2.2.2.2.2.2.2.2.2.2.2.2.2.2.2.2.2.2.2.2.1 x2.2.2.2.2.2.2.2.2.2.2.2.2.2.2.2.2.2.2.2.2.2.2.2.2.1 x2.2.2.2.2.2.2.2.2.2.2.2.2.2.2.2.2.2.2.2.2.2.2.2.2.2)) C G fX12_9 (wR_at0) rfl rfl (Nat.le_of_ble_eq_true rfl) wR_set_m_where dX12_table_84 (fun H locs G => ?_)
  refine lv_iconst (v := -1) hx hb dX12_table_87 (by decide) ?_
  have G : xG s E A (wN E ad 0 4 x2.2.2.2.2.2.1 (.ref q) m_tape 0 l1 x2.1 x2.2.1 x2.2.2.1 x2.2.2.2.1 x2.2.2.2.2.1 x2.2.2.2.2.2.1 x2.2.2.2.2.2.2.1 m_v m_x m_past m_kept m_acts m_images m_matchNow m_slopsNow m_matchesNow m_slopped m_seatBest m_fedBest m_slopsBest m_sawBest m_leastNow m_stableNow m_fitsNow m_someNow m_everyNow m_otherIn m_askLeft) H locs := xG_sub G [0, 1, 2, 3, 4, 5, 6, 7, 8] (by decide) rfl
  exact xNI_ret (fun _ => q) C G rfl dX12_table_88
set_option maxHeartbeats 8000000 in
set_option maxRecDepth 100000 in
theorem c_M_table_good_N {l : Launch} {E : xE} {ad : Nat → Nat} {m_thrown m_trouble m_where m_taped m_size m_spot m_sort m_place m_number m_fault m_wrongAt m_acts m_images m_matchNow m_slopsNow m_matchesNow m_fedBest m_slopsBest m_sawBest m_leastNow m_stableNow m_fitsNow m_someNow m_everyNow m_askLeft : Int32} {m_rv : Value} {m_tape m_v m_x m_past m_kept m_slopped m_seatBest m_otherIn : Nat → Int32} {m_word : Int64} {l1 : Int32} {x1 : Int32 × Int32 × Int32 × Int32 × Int64} {x2 : MB} {R0 : Int32 × Int32 × Int32 × (Nat → Int32) × (Nat → Int32) × Int32 × Int32} (hlo : ¬ l1 < 0) (hle : l1 ≤ m_taped) (h1 : f_M_goesOn m_tape l1 0 0 m_place m_number m_word = some x1) (h2 : f_M_readAll m_tape l1 x1.1 x1.2.1 x1.2.2.1 x1.2.2.2.1 0 m_wrongAt x1.2.2.2.2 (0 : Int32) (0 : Int32) (0 : Int32) (0 : Int32) (0 : Int32) (0 : Int32) (0 : Int32) (0 : Int32) (0 : Int32) (0 : Int32) (fun _ => 0) (fun _ => 0) (fun _ => 0) (fun _ => 0) (fun _ => 0) (fun _ => 0) (fun _ => 0) (fun _ => 0) (fun _ => 0) = some x2) (hz : ¬ 0 < x2.2.2.2.2.1) (h3 : f_M_tabD m_v m_x x2.2.2.2.2.2.2.2.2.2.2.2.1 x2.2.2.2.2.2.2.2.2.2.2.2.2.1 x2.2.2.2.2.2.2.2.2.2.2.2.2.2.1 x2.2.2.2.2.2.2.2.2.2.2.2.2.2.2.1 x2.2.2.2.2.2.2.2.2.2.2.2.2.2.2.2.2.2.1 x2.2.2.2.2.2.2.2.2.2.2.2.2.2.2.2.2.2.2.1 x2.2.2.2.2.2.2.2.2.2.2.2.2.2.2.2.2.2.2.2.1 x2.2.2.2.2.2.2.2.2.2.2.2.2.2.2.2.2.2.2.2.2.1 x2.2.2.2.2.2.2.2.2.2.2.2.2.2.2.2.2.2.2.2.2.2.1 x2.2.2.2.2.2.2.2.2.2.2.2.2.2.2.2.2.2.2.2.2.2.2.1 x2.2.2.2.2.2.2.2.2.2.2.2.2.2.2.2.2.2.2.2.2.2.2.2.1 = some R0) : xNI l E yX12_table cX12_table 3 (some .int) 14 330 10 83 [.ref (ad 0), .int l1] (wN E ad m_thrown m_trouble m_where m_rv m_tape m_taped m_size m_spot m_sort m_place m_number m_fault m_wrongAt m_word m_v m_x m_past m_kept m_acts m_images m_matchNow m_slopsNow m_matchesNow m_slopped m_seatBest m_fedBest m_slopsBest m_sawBest m_leastNow m_stableNow m_fitsNow m_someNow m_everyNow m_otherIn m_askLeft) (fun ad2 => (wM E (mixA ad (ad2 0) (fun k => ad2 (k + 1))) 0 R0.2.1 R0.2.2.1 (.ref (ad2 0)) m_tape 0 l1 x2.1 x2.2.1 x2.2.2.1 x2.2.2.2.1 x2.2.2.2.2.1 x2.2.2.2.2.2.1 x2.2.2.2.2.2.2.1 R0.2.2.2.1 R0.2.2.2.2.1 m_past m_kept R0.2.2.2.2.2.1 R0.2.2.2.2.2.2 m_matchNow m_slopsNow m_matchesNow m_slopped m_seatBest m_fedBest m_slopsBest m_sawBest m_leastNow m_stableNow m_fitsNow m_someNow m_everyNow m_otherIn m_askLeft x2.2.2.2.2.2.2.2.1 x2.2.2.2.2.2.2.2.2.1 x2.2.2.2.2.2.2.2.2.2.1 x2.2.2.2.2.2.2.2.2.2.2.1 x2.2.2.2.2.2.2.2.2.2.2.2.1 x2.2.2.2.2.2.2.2.2.2.2.2.2.1 x2.2.2.2.2.2.2.2.2.2.2.2.2.2.1 x2.2.2.2.2.2.2.2.2.2.2.2.2.2.2.1 x2.2.2.2.2.2.2.2.2.2.2.2.2.2.2.2.1 x2.2.2.2.2.2.2.2.2.2.2.2.2.2.2.2.2.1 x2.2.2.2.2.2.2.2.2.2.2.2.2.2.2.2.2.2.1 x2.2.2.2.2.2.2.2.2.2.2.2.2.2.2.2.2.2.2.1 x2.2.2.2.2.2.2.2.2.2.2.2.2.2.2.2.2.2.2.2.1 x2.2.2.2.2.2.2.2.2.2.2.2.2.2.2.2.2.2.2.2.2.1 x2.2.2.2.2.2.2.2.2.2.2.2.2.2.2.2.2.2.2.2.2.2.1 x2.2.2.2.2.2.2.2.2.2.2.2.2.2.2.2.2.2.2.2.2.2.2.1 x2.2.2.2.2.2.2.2.2.2.2.2.2.2.2.2.2.2.2.2.2.2.2.2.1 x2.2.2.2.2.2.2.2.2.2.2.2.2.2.2.2.2.2.2.2.2.2.2.2.2.1 x2.2.2.2.2.2.2.2.2.2.2.2.2.2.2.2.2.2.2.2.2.2.2.2.2.2)) R0.1 := by
  refine xNI_of (by decide) (Nat.le_of_ble_eq_true rfl) (fun p e s m args below meth c A C ls hl G => ?_)
  have hx := C.1
  have hb := C.2.1
  have hl : lv_has ls 3 [(0, .ref (ad 0)), (1, .int l1)] := hl
  refine lv_aload_n hx hb dX12_table_0 rfl (lv_at hl 0 rfl) ?_
  refine lv_iconst (v := 0) hx hb dX12_table_1 (by decide) ?_
  refine x_put (ws' := (wN E ad (0 : Int32) m_trouble m_where m_rv m_tape m_taped m_size m_spot m_sort m_place m_number m_fault m_wrongAt m_word m_v m_x m_past m_kept m_acts m_images m_matchNow m_slopsNow m_matchesNow m_slopped m_seatBest m_fedBest m_slopsBest m_sawBest m_leastNow m_stableNow m_fitsNow m_someNow m_everyNow m_otherIn m_askLeft)) C G fX12_39 (wN_at0) rfl rfl (Nat.le_of_ble_eq_true rfl) wN_set_m_thrown dX12_table_2 (fun H locs G => ?_)
  refine lv_iload_n hx hb dX12_table_5 rfl (lv_at hl 1 rfl) ?_
  refine lv_if_lt (tgt := 17) hx hb dX12_table_6 (by decide) (fun h => absurd h hlo) (fun _ => ?_)
  refine lv_iload_n hx hb dX12_table_9 rfl (lv_at hl 1 rfl) ?_
  refine lv_aload_n hx hb dX12_table_10 rfl (lv_at hl 0 rfl) ?_
  refine x_get C G fX12_291.g (wN_at0) rfl dX12_table_11 ?_
  refine lv_icmp_le (tgt := 23) hx hb dX12_table_14 (by decide) (fun _ => ?_) (fun h => absurd hle h)
  refine lv_aload_n hx hb dX12_table_23 rfl (lv_at hl 0 rfl) ?_
  refine lv_iload_n hx hb dX12_table_24 rfl (lv_at hl 1 rfl) ?_
  refine x_put (ws' := (wN E ad (0 : Int32) m_trouble m_where m_rv m_tape m_taped l1 m_spot m_sort m_place m_number m_fault m_wrongAt m_word m_v m_x m_past m_kept m_acts m_images m_matchNow m_slopsNow m_matchesNow m_slopped m_seatBest m_fedBest m_slopsBest m_sawBest m_leastNow m_stableNow m_fitsNow m_someNow m_everyNow m_otherIn m_askLeft)) C G fX12_56 (wN_at0) rfl rfl (Nat.le_of_ble_eq_true rfl) wN_set_m_size dX12_table_25 (fun H locs G => ?_)
  refine lv_aload_n hx hb dX12_table_28 rfl (lv_at hl 0 rfl) ?_
  refine lv_iconst (v := 0) hx hb dX12_table_29 (by decide) ?_
  refine x_put (ws' := (wN E ad (0 : Int32) m_trouble m_where m_rv m_tape (0 : Int32) l1 m_spot m_sort m_place m_number m_fault m_wrongAt m_word m_v m_x m_past m_kept m_acts m_images m_matchNow m_slopsNow m_matchesNow m_slopped m_seatBest m_fedBest m_slopsBest m_sawBest m_leastNow m_stableNow m_fitsNow m_someNow m_everyNow m_otherIn m_askLeft)) C G fX12_291 (wN_at0) rfl rfl (Nat.le_of_ble_eq_true rfl) wN_set_m_taped dX12_table_30 (fun H locs G => ?_)
  refine lv_aload_n hx hb dX12_table_33 rfl (lv_at hl 0 rfl) ?_
  refine lv_iconst (v := 0) hx hb dX12_table_34 (by decide) ?_
  refine x_put (ws' := (wN E ad (0 : Int32) m_trouble m_where m_rv m_tape (0 : Int32) l1 (0 : Int32) m_sort m_place m_number m_fault m_wrongAt m_word m_v m_x m_past m_kept m_acts m_images m_matchNow m_slopsNow m_matchesNow m_slopped m_seatBest m_fedBest m_slopsBest m_sawBest m_leastNow m_stableNow m_fitsNow m_someNow m_everyNow m_otherIn m_askLeft)) C G fX12_74 (wN_at0) rfl rfl (Nat.le_of_ble_eq_true rfl) wN_set_m_spot dX12_table_35 (fun H locs G => ?_)
  refine lv_aload_n hx hb dX12_table_38 rfl (lv_at hl 0 rfl) ?_
  refine lv_iconst (v := 0) hx hb dX12_table_39 (by decide) ?_
  refine x_put (ws' := (wN E ad (0 : Int32) m_trouble m_where m_rv m_tape (0 : Int32) l1 (0 : Int32) m_sort m_place m_number (0 : Int32) m_wrongAt m_word m_v m_x m_past m_kept m_acts m_images m_matchNow m_slopsNow m_matchesNow m_slopped m_seatBest m_fedBest m_slopsBest m_sawBest m_leastNow m_stableNow m_fitsNow m_someNow m_everyNow m_otherIn m_askLeft)) C G fX12_97 (wN_at0) rfl rfl (Nat.le_of_ble_eq_true rfl) wN_set_m_fault dX12_table_40 (fun H locs G => ?_)
  refine lv_aload_n hx hb dX12_table_43 rfl (lv_at hl 0 rfl) ?_
  refine x_new C G clX12_150 ⟨Nat.le_of_ble_eq_true rfl, Nat.le_of_ble_eq_true rfl⟩ dX12_table_44 (fun q H G => ?_)
  refine lv_dup hx hb dX12_table_47 rfl ?_
  refine xN_I (wN E ad (0 : Int32) m_trouble m_where m_rv m_tape (0 : Int32) l1 (0 : Int32) m_sort m_place m_number (0 : Int32) m_wrongAt m_word m_v m_x m_past m_kept m_acts m_images m_matchNow m_slopsNow m_matchesNow m_slopped m_seatBest m_fedBest m_slopsBest m_sawBest m_leastNow m_stableNow m_fitsNow m_someNow m_everyNow m_otherIn m_askLeft) C G n_Tab miX11_init kiX12_294 ⟨Nat.le_of_ble_eq_true rfl, Nat.le_of_ble_eq_true rfl⟩ rfl hl.1 rfl (Nat.le_of_ble_eq_true rfl) ⟨Nat.le_of_ble_eq_true rfl, Nat.le_of_ble_eq_true rfl⟩ dX12_table_48 (fun aq _ H locs G => ?_)
  refine x_put (ws' := (wN E ad (0 : Int32) m_trouble m_where (.ref q) m_tape (0 : Int32) l1 (0 : Int32) m_sort m_place m_number (0 : Int32) m_wrongAt m_word m_v m_x m_past m_kept m_acts m_images m_matchNow m_slopsNow m_matchesNow m_slopped m_seatBest m_fedBest m_slopsBest m_sawBest m_leastNow m_stableNow m_fitsNow m_someNow m_everyNow m_otherIn m_askLeft) ++ nw_Tab E q aq) (q0 := 0) C G fX12_145 rfl rfl rfl (Nat.le_of_ble_eq_true rfl) rfl dX12_table_51 (fun H locs G => ?_)
  have G : xG s E A (wR E (mixA ad q aq) (0 : Int32) m_trouble m_where .null m_tape (0 : Int32) l1 (0 : Int32) m_sort m_place m_number (0 : Int32) m_wrongAt m_word m_v m_x m_past m_kept m_acts m_images m_matchNow m_slopsNow m_matchesNow m_slopped m_seatBest m_fedBest m_slopsBest m_sawBest m_leastNow m_stableNow m_fitsNow m_someNow m_everyNow m_otherIn m_askLeft (0 : Int32) (0 : Int32) (0 : Int32) (0 : Int32) (0 : Int32) (0 : Int32) (0 : Int32) (0 : Int32) (0 : Int32) (0 : Int32) (fun _ => 0) (fun _ => 0) (fun _ => 0) (fun _ => 0) (fun _ => 0) (fun _ => 0) (fun _ => 0) (fun _ => 0) (fun _ => 0)) H locs := G
  refine lv_aload_n hx hb dX12_table_54 rfl (lv_at hl 0 rfl) ?_
  refine lv_iconst (v := 0) hx hb dX12_table_55 (by decide) ?_
  refine x_put (ws' := (wR E (mixA ad q aq) (0 : Int32) m_trouble m_where .null m_tape (0 : Int32) l1 (0 : Int32) (0 : Int32) m_place m_number (0 : Int32) m_wrongAt m_word m_v m_x m_past m_kept m_acts m_images m_matchNow m_slopsNow m_matchesNow m_slopped m_seatBest m_fedBest m_slopsBest m_sawBest m_leastNow m_stableNow m_fitsNow m_someNow m_everyNow m_otherIn m_askLeft (0 : Int32) (0 : Int32) (0 : Int32) (0 : Int32) (0 : Int32) (0 : Int32) (0 : Int32) (0 : Int32) (0 : Int32) (0 : Int32) (fun _ => 0) (fun _ => 0) (fun _ => 0) (fun _ => 0) (fun _ => 0) (fun _ => 0) (fun _ => 0) (fun _ => 0) (fun _ => 0))) C G fX12_71 (wR_at0) rfl rfl (Nat.le_of_ble_eq_true rfl) wR_set_m_sort dX12_table_56 (fun H locs G => ?_)
  refine lv_aload_n hx hb dX12_table_59 rfl (lv_at hl 0 rfl) ?_
  refine xV_V C G (c_M_goesOn_m_R h1) mX12_goesOn kX12_107 (wR_at0) rfl ⟨Nat.le_of_ble_eq_true rfl, Nat.le_of_ble_eq_true rfl⟩ rfl hl.1 rfl (Nat.le_of_ble_eq_true rfl) ⟨Nat.le_of_ble_eq_true rfl, Nat.le_of_ble_eq_true rfl⟩ dX12_table_60 (fun H locs G => ?_)
  refine lv_aload_n hx hb dX12_table_63 rfl (lv_at hl 0 rfl) ?_
  refine xV_V C G (c_M_readAll_m_R h2) mX12_readAll kX12_295 (wR_at0) rfl ⟨Nat.le_of_ble_eq_true rfl, Nat.le_of_ble_eq_true rfl⟩ rfl hl.1 rfl (Nat.le_of_ble_eq_true rfl) ⟨Nat.le_of_ble_eq_true rfl, Nat.le_of_ble_eq_true rfl⟩ dX12_table_64 (fun H locs G => ?_)
  refine lv_aload_n hx hb dX12_table_67 rfl (lv_at hl 0 rfl) ?_
  refine x_get C G fX12_97.g (wR_at0) rfl dX12_table_68 ?_
  refine lv_if_le (tgt := 89) hx hb dX12_table_71 (by decide) (fun _ => ?_) (fun h => absurd (Int32.not_lt.mp hz) h)
  refine lv_aload_n hx hb dX12_table_89 rfl (lv_at hl 0 rfl) ?_
  refine lv_aload_n hx hb dX12_table_90 rfl (lv_at hl 0 rfl) ?_
  refine x_get C G fX12_145.g (wR_at0) rfl dX12_table_91 ?_
  have G : xG s E A (wR E (mixA ad q aq) (0 : Int32) m_trouble m_where .null m_tape (0 : Int32) l1 x2.1 x2.2.1 x2.2.2.1 x2.2.2.2.1 x2.2.2.2.2.1 x2.2.2.2.2.2.1 x2.2.2.2.2.2.2.1 m_v m_x m_past m_kept m_acts m_images m_matchNow m_slopsNow m_matchesNow m_slopped m_seatBest m_fedBest m_slopsBest m_sawBest m_leastNow m_stableNow m_fitsNow m_someNow m_everyNow m_otherIn m_askLeft x2.2.2.2.2.2.2.2.1 x2.2.2.2.2.2.2.2.2.1 x2.2.2.2.2.2.2.2.2.2.1 x2.2.2.2.2.2.2.2.2.2.2.1 x2.2.2.2.2.2.2.2.2.2.2.2.1 x2.2.2.2.2.2.2.2.2.2.2.2.2.1 x2.2.2.2.2.2.2.2.2.2.2.2.2.2.1 x2.2.2.2.2.2.2.2.2.2.2.2.2.2.2.1 x2.2.2.2.2.2.2.2.2.2.2.2.2.2.2.2.1 x2.2.2.2.2.2.2.2.2.2.2.2.2.2.2.2.2.1 x2.2.2.2.2.2.2.2.2.2.2.2.2.2.2.2.2.2.1 x2.2.2.2.2.2.2.2.2.2.2.2.2.2.2.2.2.2.2.1 x2.2.2.2.2.2.2.2.2.2.2.2.2.2.2.2.2.2.2.2.1 x2.2.2.2.2.2.2.2.2.2.2.2.2.2.2.2.2.2.2.2.2.1 x2.2.2.2.2.2.2.2.2.2.2.2.2.2.2.2.2.2.2.2.2.2.1 x2.2.2.2.2.2.2.2.2.2.2.2.2.2.2.2.2.2.2.2.2.2.2.1 x2.2.2.2.2.2.2.2.2.2.2.2.2.2.2.2.2.2.2.2.2.2.2.2.1 x2.2.2.2.2.2.2.2.2.2.2.2.2.2.2.2.2.2.2.2.2.2.2.2.2.1 x2.2.2.2.2.2.2.2.2.2.2.2.2.2.2.2.2.2.2.2.2.2.2.2.2.2) H locs := G
  refine x_put (ws' := (wM E (mixA ad q aq) 0 m_trouble m_where (.ref q) m_tape 0 l1 x2.1 x2.2.1 x2.2.2.1 x2.2.2.2.1 x2.2.2.2.2.1 x2.2.2.2.2.2.1 x2.2.2.2.2.2.2.1 m_v m_x m_past m_kept m_acts m_images m_matchNow m_slopsNow m_matchesNow m_slopped m_seatBest m_fedBest m_slopsBest m_sawBest m_leastNow m_stableNow m_fitsNow m_someNow m_everyNow m_otherIn m_askLeft x2.2.2.2.2.2.2.2.1 x2.2.2.2.2.2.2.2.2.1 x2.2.2.2.2.2.2.2.2.2.1 x2.2.2.2.2.2.2.2.2.2.2.1 x2.2.2.2.2.2.2.2.2.2.2.2.1 x2.2.2.2.2.2.2.2.2.2.2.2.2.1 x2.2.2.2.2.2.2.2.2.2.2.2.2.2.1 x2.2.2.2.2.2.2.2.2.2.2.2.2.2.2.1 x2.2.2.2.2.2.2.2.2.2.2.2.2.2.2.2.1 x2.2.2.2.2.2.2.2.2.2.2.2.2.2.2.2.2.1 x2.2.2.2.2.2.2.2.2.2.2.2.2.2.2.2.2.2.1 x2.2.2.2.2.2.2.2.2.2.2.2.2.2.2.2.2.2.2.1 x2.2.2.2.2.2.2.2.2.2.2.2.2.2.2.2.2.2.2.2.1 x2.2.2.2.2.2.2.2.2.2.2.2.2.2.2.2.2.2.2.2.2.1 x2.2.2.2.2.2.2.2.2.2.2.2.2.2.2.2.2.2.2.2.2.2.1 x2.2.2.2.2.2.2.2.2.2.2.2.2.2.2.2.2.2.2.2.2.2.2.1 x2.2.2.2.2.2.2.2.2.2.2.2.2.2.2.2.2.2.2.2.2.2.2.2.1 x2.2.2.2.2.2.2.2.2.2.2.2.2.2.2.2.2.2.2.2.2.2.2.2.2.1 x2.2.2.2.2.2.2.2.2.2.2.2.2.2.2.2.2.2.2.2.2.2.2.2.2.2)) (q0 := 0) C G fX12_298 rfl rfl rfl (Nat.le_of_ble_eq_true rfl) rfl dX12_table_94 (fun H locs G => ?_)
  refine w_tab97 C h3 (fun H locs ls G => ?_) G hl
  exact xNI_ret (fun k => match k with | 0 => q | k + 1 => aq k) C G rfl dX12_table_149
set_option maxHeartbeats 4000000 in
set_option maxRecDepth 100000 in
theorem c_M_table_no_M {l : Launch} {E : xE} {ad : Nat → Nat} {m_thrown m_trouble m_where m_taped m_size m_spot m_sort m_place m_number m_fault m_wrongAt m_acts m_images m_matchNow m_slopsNow m_matchesNow m_fedBest m_slopsBest m_sawBest m_leastNow m_stableNow m_fitsNow m_someNow m_everyNow m_askLeft tb_seats tb_slack tb_saw tb_quarrel tb_people tb_pairs tb_forks tb_unsures tb_trieds tb_fed : Int32} {m_rv : Value} {m_tape m_v m_x m_past m_kept m_slopped m_seatBest m_otherIn tb_seat tb_one tb_other tb_years tb_kind tb_unsure tb_may tb_tried : Nat → Int32} {m_word : Int64} {tb_name : Nat → Int64} {l1 : Int32} (h : l1 < 0 ∨ m_taped < l1) : xNI l E yX12_table cX12_table 3 (some .int) 14 330 10 83 [.ref (ad 0), .int l1] (wM E ad m_thrown m_trouble m_where m_rv m_tape m_taped m_size m_spot m_sort m_place m_number m_fault m_wrongAt m_word m_v m_x m_past m_kept m_acts m_images m_matchNow m_slopsNow m_matchesNow m_slopped m_seatBest m_fedBest m_slopsBest m_sawBest m_leastNow m_stableNow m_fitsNow m_someNow m_everyNow m_otherIn m_askLeft tb_seats tb_slack tb_saw tb_quarrel tb_people tb_pairs tb_forks tb_unsures tb_trieds tb_fed tb_seat tb_one tb_other tb_years tb_kind tb_unsure tb_may tb_tried tb_name) (fun _ => (wM E ad 0 2 (-1) m_rv m_tape m_taped m_size m_spot m_sort m_place m_number m_fault m_wrongAt m_word m_v m_x m_past m_kept m_acts m_images m_matchNow m_slopsNow m_matchesNow m_slopped m_seatBest m_fedBest m_slopsBest m_sawBest m_leastNow m_stableNow m_fitsNow m_someNow m_everyNow m_otherIn m_askLeft tb_seats tb_slack tb_saw tb_quarrel tb_people tb_pairs tb_forks tb_unsures tb_trieds tb_fed tb_seat tb_one tb_other tb_years tb_kind tb_unsure tb_may tb_tried tb_name)) (-1) := by
  refine xNI_of (by decide) (Nat.le_of_ble_eq_true rfl) (fun p e s m args below meth c A C ls hl G => ?_)
  refine W.widen (k := 10) (n := 83) (Nat.le_of_ble_eq_true rfl) (Nat.le_of_ble_eq_true rfl) ?_
  have hx := C.1
  have hb := C.2.1
  have hl : lv_has ls 3 [(0, .ref (ad 0)), (1, .int l1)] := hl
  have J : ∀ (H : Heap) (locs : List Loc), xG s E A (wM E ad (0 : Int32) m_trouble m_where m_rv m_tape m_taped m_size m_spot m_sort m_place m_number m_fault m_wrongAt m_word m_v m_x m_past m_kept m_acts m_images m_matchNow m_slopsNow m_matchesNow m_slopped m_seatBest m_fedBest m_slopsBest m_sawBest m_leastNow m_stableNow m_fitsNow m_someNow m_everyNow m_otherIn m_askLeft tb_seats tb_slack tb_saw tb_quarrel tb_people tb_pairs tb_forks tb_unsures tb_trieds tb_fed tb_seat tb_one tb_other tb_years tb_kind tb_unsure tb_may tb_tried tb_name) H locs → W p l e (xRc 14 330 10 83) s m args below meth c H locs 10 83 (MQ below (xqN E A (fun _ => (wM E ad 0 2 (-1) m_rv m_tape m_taped m_size m_spot m_sort m_place m_number m_fault m_wrongAt m_word m_v m_x m_past m_kept m_acts m_images m_matchNow m_slopsNow m_matchesNow m_slopped m_seatBest m_fedBest m_slopsBest m_sawBest m_leastNow m_stableNow m_fitsNow m_someNow m_everyNow m_otherIn m_askLeft tb_seats tb_slack tb_saw tb_quarrel tb_people tb_pairs tb_forks tb_unsures tb_trieds tb_fed tb_seat tb_one tb_other tb_years tb_kind tb_unsure tb_may tb_tried tb_name)) (some .int) (-1)) args s 10 83 A) (F0 m 17 ls []) := by
    intro H locs G
    refine lv_aload_n hx hb dX12_table_17 rfl (lv_at hl 0 rfl) ?_
    refine lv_iconst (v := 2) hx hb dX12_table_18 (by decide) ?_
    refine xI_V C G (c_M_refused_m_M (R0 := (-1, 2, -1)) rfl) mX12_refused kX12_45 (wM_at0) rfl ⟨Nat.le_of_ble_eq_true rfl, Nat.le_of_ble_eq_true rfl⟩ rfl hl.1 rfl (Nat.le_of_ble_eq_true rfl) ⟨Nat.le_of_ble_eq_true rfl, Nat.le_of_ble_eq_true rfl⟩ dX12_table_19 (fun hz H locs G => ?_)
    exact xNI_ret (fun _ => 0) C G rfl dX12_table_22
  refine lv_aload_n hx hb dX12_table_0 rfl (lv_at hl 0 rfl) ?_
  refine lv_iconst (v := 0) hx hb dX12_table_1 (by decide) ?_
  refine x_put (ws' := (wM E ad (0 : Int32) m_trouble m_where m_rv m_tape m_taped m_size m_spot m_sort m_place m_number m_fault m_wrongAt m_word m_v m_x m_past m_kept m_acts m_images m_matchNow m_slopsNow m_matchesNow m_slopped m_seatBest m_fedBest m_slopsBest m_sawBest m_leastNow m_stableNow m_fitsNow m_someNow m_everyNow m_otherIn m_askLeft tb_seats tb_slack tb_saw tb_quarrel tb_people tb_pairs tb_forks tb_unsures tb_trieds tb_fed tb_seat tb_one tb_other tb_years tb_kind tb_unsure tb_may tb_tried tb_name)) C G fX12_39 (wM_at0) rfl rfl (Nat.le_of_ble_eq_true rfl) wM_set_m_thrown dX12_table_2 (fun H locs G => ?_)
  refine lv_iload_n hx hb dX12_table_5 rfl (lv_at hl 1 rfl) ?_
  refine lv_if_lt (tgt := 17) hx hb dX12_table_6 (by decide) (fun h => ?_) (fun h => ?_)
  · exact J _ _ G
  · refine lv_iload_n hx hb dX12_table_9 rfl (lv_at hl 1 rfl) ?_
    refine lv_aload_n hx hb dX12_table_10 rfl (lv_at hl 0 rfl) ?_
    refine x_get C G fX12_291.g (wM_at0) rfl dX12_table_11 ?_
    refine lv_icmp_le (tgt := 23) hx hb dX12_table_14 (by decide) (fun h2 => ?_) (fun h2 => ?_)
    · exact absurd h2 (by
        rcases ‹l1 < 0 ∨ m_taped < l1› with h3 | h3
        · exact absurd h3 h
        · exact Int32.not_le.mpr h3)
    · exact J _ _ G
set_option maxHeartbeats 8000000 in
set_option maxRecDepth 100000 in
theorem c_M_table_bad_M {l : Launch} {E : xE} {ad : Nat → Nat} {m_thrown m_trouble m_where m_taped m_size m_spot m_sort m_place m_number m_fault m_wrongAt m_acts m_images m_matchNow m_slopsNow m_matchesNow m_fedBest m_slopsBest m_sawBest m_leastNow m_stableNow m_fitsNow m_someNow m_everyNow m_askLeft tb_seats tb_slack tb_saw tb_quarrel tb_people tb_pairs tb_forks tb_unsures tb_trieds tb_fed : Int32} {m_rv : Value} {m_tape m_v m_x m_past m_kept m_slopped m_seatBest m_otherIn tb_seat tb_one tb_other tb_years tb_kind tb_unsure tb_may tb_tried : Nat → Int32} {m_word : Int64} {tb_name : Nat → Int64} {l1 : Int32} {x1 : Int32 × Int32 × Int32 × Int32 × Int64} {x2 : MB} (hlo : ¬ l1 < 0) (hle : l1 ≤ m_taped) (h1 : f_M_goesOn m_tape l1 0 0 m_place m_number m_word = some x1) (h2 : f_M_readAll m_tape l1 x1.1 x1.2.1 x1.2.2.1 x1.2.2.2.1 0 m_wrongAt x1.2.2.2.2 (0 : Int32) (0 : Int32) (0 : Int32) (0 : Int32) (0 : Int32) (0 : Int32) (0 : Int32) (0 : Int32) (0 : Int32) (0 : Int32) (fun _ => 0) (fun _ => 0) (fun _ => 0) (fun _ => 0) (fun _ => 0) (fun _ => 0) (fun _ => 0) (fun _ => 0) (fun _ => 0) = some x2) (hz : 0 < x2.2.2.2.2.1) : xNI l E yX12_table cX12_table 3 (some .int) 14 330 10 83 [.ref (ad 0), .int l1] (wM E ad m_thrown m_trouble m_where m_rv m_tape m_taped m_size m_spot m_sort m_place m_number m_fault m_wrongAt m_word m_v m_x m_past m_kept m_acts m_images m_matchNow m_slopsNow m_matchesNow m_slopped m_seatBest m_fedBest m_slopsBest m_sawBest m_leastNow m_stableNow m_fitsNow m_someNow m_everyNow m_otherIn m_askLeft tb_seats tb_slack tb_saw tb_quarrel tb_people tb_pairs tb_forks tb_unsures tb_trieds tb_fed tb_seat tb_one tb_other tb_years tb_kind tb_unsure tb_may tb_tried tb_name) (fun ad2 => (wM E ad 0 4 x2.2.2.2.2.2.1 (.ref (ad2 0)) m_tape 0 l1 x2.1 x2.2.1 x2.2.2.1 x2.2.2.2.1 x2.2.2.2.2.1 x2.2.2.2.2.2.1 x2.2.2.2.2.2.2.1 m_v m_x m_past m_kept m_acts m_images m_matchNow m_slopsNow m_matchesNow m_slopped m_seatBest m_fedBest m_slopsBest m_sawBest m_leastNow m_stableNow m_fitsNow m_someNow m_everyNow m_otherIn m_askLeft tb_seats tb_slack tb_saw tb_quarrel tb_people tb_pairs tb_forks tb_unsures tb_trieds tb_fed tb_seat tb_one tb_other tb_years tb_kind tb_unsure tb_may tb_tried tb_name)) (-1) := by
  refine xNI_of (by decide) (Nat.le_of_ble_eq_true rfl) (fun p e s m args below meth c A C ls hl G => ?_)
  have hx := C.1
  have hb := C.2.1
  have hl : lv_has ls 3 [(0, .ref (ad 0)), (1, .int l1)] := hl
  refine lv_aload_n hx hb dX12_table_0 rfl (lv_at hl 0 rfl) ?_
  refine lv_iconst (v := 0) hx hb dX12_table_1 (by decide) ?_
  refine x_put (ws' := (wM E ad (0 : Int32) m_trouble m_where m_rv m_tape m_taped m_size m_spot m_sort m_place m_number m_fault m_wrongAt m_word m_v m_x m_past m_kept m_acts m_images m_matchNow m_slopsNow m_matchesNow m_slopped m_seatBest m_fedBest m_slopsBest m_sawBest m_leastNow m_stableNow m_fitsNow m_someNow m_everyNow m_otherIn m_askLeft tb_seats tb_slack tb_saw tb_quarrel tb_people tb_pairs tb_forks tb_unsures tb_trieds tb_fed tb_seat tb_one tb_other tb_years tb_kind tb_unsure tb_may tb_tried tb_name)) C G fX12_39 (wM_at0) rfl rfl (Nat.le_of_ble_eq_true rfl) wM_set_m_thrown dX12_table_2 (fun H locs G => ?_)
  refine lv_iload_n hx hb dX12_table_5 rfl (lv_at hl 1 rfl) ?_
  refine lv_if_lt (tgt := 17) hx hb dX12_table_6 (by decide) (fun h => absurd h hlo) (fun _ => ?_)
  refine lv_iload_n hx hb dX12_table_9 rfl (lv_at hl 1 rfl) ?_
  refine lv_aload_n hx hb dX12_table_10 rfl (lv_at hl 0 rfl) ?_
  refine x_get C G fX12_291.g (wM_at0) rfl dX12_table_11 ?_
  refine lv_icmp_le (tgt := 23) hx hb dX12_table_14 (by decide) (fun _ => ?_) (fun h => absurd hle h)
  refine lv_aload_n hx hb dX12_table_23 rfl (lv_at hl 0 rfl) ?_
  refine lv_iload_n hx hb dX12_table_24 rfl (lv_at hl 1 rfl) ?_
  refine x_put (ws' := (wM E ad (0 : Int32) m_trouble m_where m_rv m_tape m_taped l1 m_spot m_sort m_place m_number m_fault m_wrongAt m_word m_v m_x m_past m_kept m_acts m_images m_matchNow m_slopsNow m_matchesNow m_slopped m_seatBest m_fedBest m_slopsBest m_sawBest m_leastNow m_stableNow m_fitsNow m_someNow m_everyNow m_otherIn m_askLeft tb_seats tb_slack tb_saw tb_quarrel tb_people tb_pairs tb_forks tb_unsures tb_trieds tb_fed tb_seat tb_one tb_other tb_years tb_kind tb_unsure tb_may tb_tried tb_name)) C G fX12_56 (wM_at0) rfl rfl (Nat.le_of_ble_eq_true rfl) wM_set_m_size dX12_table_25 (fun H locs G => ?_)
  refine lv_aload_n hx hb dX12_table_28 rfl (lv_at hl 0 rfl) ?_
  refine lv_iconst (v := 0) hx hb dX12_table_29 (by decide) ?_
  refine x_put (ws' := (wM E ad (0 : Int32) m_trouble m_where m_rv m_tape (0 : Int32) l1 m_spot m_sort m_place m_number m_fault m_wrongAt m_word m_v m_x m_past m_kept m_acts m_images m_matchNow m_slopsNow m_matchesNow m_slopped m_seatBest m_fedBest m_slopsBest m_sawBest m_leastNow m_stableNow m_fitsNow m_someNow m_everyNow m_otherIn m_askLeft tb_seats tb_slack tb_saw tb_quarrel tb_people tb_pairs tb_forks tb_unsures tb_trieds tb_fed tb_seat tb_one tb_other tb_years tb_kind tb_unsure tb_may tb_tried tb_name)) C G fX12_291 (wM_at0) rfl rfl (Nat.le_of_ble_eq_true rfl) wM_set_m_taped dX12_table_30 (fun H locs G => ?_)
  refine lv_aload_n hx hb dX12_table_33 rfl (lv_at hl 0 rfl) ?_
  refine lv_iconst (v := 0) hx hb dX12_table_34 (by decide) ?_
  refine x_put (ws' := (wM E ad (0 : Int32) m_trouble m_where m_rv m_tape (0 : Int32) l1 (0 : Int32) m_sort m_place m_number m_fault m_wrongAt m_word m_v m_x m_past m_kept m_acts m_images m_matchNow m_slopsNow m_matchesNow m_slopped m_seatBest m_fedBest m_slopsBest m_sawBest m_leastNow m_stableNow m_fitsNow m_someNow m_everyNow m_otherIn m_askLeft tb_seats tb_slack tb_saw tb_quarrel tb_people tb_pairs tb_forks tb_unsures tb_trieds tb_fed tb_seat tb_one tb_other tb_years tb_kind tb_unsure tb_may tb_tried tb_name)) C G fX12_74 (wM_at0) rfl rfl (Nat.le_of_ble_eq_true rfl) wM_set_m_spot dX12_table_35 (fun H locs G => ?_)
  refine lv_aload_n hx hb dX12_table_38 rfl (lv_at hl 0 rfl) ?_
  refine lv_iconst (v := 0) hx hb dX12_table_39 (by decide) ?_
  refine x_put (ws' := (wM E ad (0 : Int32) m_trouble m_where m_rv m_tape (0 : Int32) l1 (0 : Int32) m_sort m_place m_number (0 : Int32) m_wrongAt m_word m_v m_x m_past m_kept m_acts m_images m_matchNow m_slopsNow m_matchesNow m_slopped m_seatBest m_fedBest m_slopsBest m_sawBest m_leastNow m_stableNow m_fitsNow m_someNow m_everyNow m_otherIn m_askLeft tb_seats tb_slack tb_saw tb_quarrel tb_people tb_pairs tb_forks tb_unsures tb_trieds tb_fed tb_seat tb_one tb_other tb_years tb_kind tb_unsure tb_may tb_tried tb_name)) C G fX12_97 (wM_at0) rfl rfl (Nat.le_of_ble_eq_true rfl) wM_set_m_fault dX12_table_40 (fun H locs G => ?_)
  refine lv_aload_n hx hb dX12_table_43 rfl (lv_at hl 0 rfl) ?_
  refine x_new C G clX12_150 ⟨Nat.le_of_ble_eq_true rfl, Nat.le_of_ble_eq_true rfl⟩ dX12_table_44 (fun q H G => ?_)
  refine lv_dup hx hb dX12_table_47 rfl ?_
  refine xN_I (wM E ad (0 : Int32) m_trouble m_where m_rv m_tape (0 : Int32) l1 (0 : Int32) m_sort m_place m_number (0 : Int32) m_wrongAt m_word m_v m_x m_past m_kept m_acts m_images m_matchNow m_slopsNow m_matchesNow m_slopped m_seatBest m_fedBest m_slopsBest m_sawBest m_leastNow m_stableNow m_fitsNow m_someNow m_everyNow m_otherIn m_askLeft tb_seats tb_slack tb_saw tb_quarrel tb_people tb_pairs tb_forks tb_unsures tb_trieds tb_fed tb_seat tb_one tb_other tb_years tb_kind tb_unsure tb_may tb_tried tb_name) C G n_Tab miX11_init kiX12_294 ⟨Nat.le_of_ble_eq_true rfl, Nat.le_of_ble_eq_true rfl⟩ rfl hl.1 rfl (Nat.le_of_ble_eq_true rfl) ⟨Nat.le_of_ble_eq_true rfl, Nat.le_of_ble_eq_true rfl⟩ dX12_table_48 (fun aq _ H locs G => ?_)
  refine x_put (ws' := (wM E ad (0 : Int32) m_trouble m_where (.ref q) m_tape (0 : Int32) l1 (0 : Int32) m_sort m_place m_number (0 : Int32) m_wrongAt m_word m_v m_x m_past m_kept m_acts m_images m_matchNow m_slopsNow m_matchesNow m_slopped m_seatBest m_fedBest m_slopsBest m_sawBest m_leastNow m_stableNow m_fitsNow m_someNow m_everyNow m_otherIn m_askLeft tb_seats tb_slack tb_saw tb_quarrel tb_people tb_pairs tb_forks tb_unsures tb_trieds tb_fed tb_seat tb_one tb_other tb_years tb_kind tb_unsure tb_may tb_tried tb_name) ++ nw_Tab E q aq) (q0 := 0) C G fX12_145 rfl rfl rfl (Nat.le_of_ble_eq_true rfl) rfl dX12_table_51 (fun H locs G => ?_)
  have G : xG s E A (wRT E (mixA ad q aq) (0 : Int32) m_trouble m_where m_tape (0 : Int32) l1 (0 : Int32) m_sort m_place m_number (0 : Int32) m_wrongAt m_word m_v m_x m_past m_kept m_acts m_images m_matchNow m_slopsNow m_matchesNow m_slopped m_seatBest m_fedBest m_slopsBest m_sawBest m_leastNow m_stableNow m_fitsNow m_someNow m_everyNow m_otherIn m_askLeft (0 : Int32) (0 : Int32) (0 : Int32) (0 : Int32) (0 : Int32) (0 : Int32) (0 : Int32) (0 : Int32) (0 : Int32) (0 : Int32) (fun _ => 0) (fun _ => 0) (fun _ => 0) (fun _ => 0) (fun _ => 0) (fun _ => 0) (fun _ => 0) (fun _ => 0) (fun _ => 0) tb_seats tb_slack tb_saw tb_quarrel tb_people tb_pairs tb_forks tb_unsures tb_trieds tb_fed tb_seat tb_one tb_other tb_years tb_kind tb_unsure tb_may tb_tried tb_name) H locs := xG_sub G [0, 1, 2, 3, 4, 5, 6, 7, 8, 19, 20, 21, 22, 23, 24, 25, 26, 27, 28, 9, 10, 11, 12, 13, 14, 15, 16, 17, 18] (by decide) rfl
  refine lv_aload_n hx hb dX12_table_54 rfl (lv_at hl 0 rfl) ?_
  refine lv_iconst (v := 0) hx hb dX12_table_55 (by decide) ?_
  refine x_put (ws' := (wRT E (mixA ad q aq) (0 : Int32) m_trouble m_where m_tape (0 : Int32) l1 (0 : Int32) (0 : Int32) m_place m_number (0 : Int32) m_wrongAt m_word m_v m_x m_past m_kept m_acts m_images m_matchNow m_slopsNow m_matchesNow m_slopped m_seatBest m_fedBest m_slopsBest m_sawBest m_leastNow m_stableNow m_fitsNow m_someNow m_everyNow m_otherIn m_askLeft (0 : Int32) (0 : Int32) (0 : Int32) (0 : Int32) (0 : Int32) (0 : Int32) (0 : Int32) (0 : Int32) (0 : Int32) (0 : Int32) (fun _ => 0) (fun _ => 0) (fun _ => 0) (fun _ => 0) (fun _ => 0) (fun _ => 0) (fun _ => 0) (fun _ => 0) (fun _ => 0) tb_seats tb_slack tb_saw tb_quarrel tb_people tb_pairs tb_forks tb_unsures tb_trieds tb_fed tb_seat tb_one tb_other tb_years tb_kind tb_unsure tb_may tb_tried tb_name)) C G fX12_71 (wRT_at0) rfl rfl (Nat.le_of_ble_eq_true rfl) wRT_set_m_sort dX12_table_56 (fun H locs G => ?_)
  refine lv_aload_n hx hb dX12_table_59 rfl (lv_at hl 0 rfl) ?_
  refine xV_V C G (c_M_goesOn_m_RT h1) mX12_goesOn kX12_107 (wRT_at0) rfl ⟨Nat.le_of_ble_eq_true rfl, Nat.le_of_ble_eq_true rfl⟩ rfl hl.1 rfl (Nat.le_of_ble_eq_true rfl) ⟨Nat.le_of_ble_eq_true rfl, Nat.le_of_ble_eq_true rfl⟩ dX12_table_60 (fun H locs G => ?_)
  refine lv_aload_n hx hb dX12_table_63 rfl (lv_at hl 0 rfl) ?_
  refine xV_V C G (c_M_readAll_m_RT h2) mX12_readAll kX12_295 (wRT_at0) rfl ⟨Nat.le_of_ble_eq_true rfl, Nat.le_of_ble_eq_true rfl⟩ rfl hl.1 rfl (Nat.le_of_ble_eq_true rfl) ⟨Nat.le_of_ble_eq_true rfl, Nat.le_of_ble_eq_true rfl⟩ dX12_table_64 (fun H locs G => ?_)
  refine lv_aload_n hx hb dX12_table_67 rfl (lv_at hl 0 rfl) ?_
  refine x_get C G fX12_97.g (wRT_at0) rfl dX12_table_68 ?_
  refine lv_if_le (tgt := 89) hx hb dX12_table_71 (by decide) (fun h => absurd hz (Int32.not_lt.mpr h)) (fun _ => ?_)
  refine lv_aload_n hx hb dX12_table_74 rfl (lv_at hl 0 rfl) ?_
  refine lv_iconst (v := 4) hx hb dX12_table_75 (by decide) ?_
  refine x_put (ws' := (wRT E (mixA ad q aq) (0 : Int32) (4 : Int32) m_where m_tape (0 : Int32) l1 x2.1 x2.2.1 x2.2.2.1 x2.2.2.2.1 x2.2.2.2.2.1 x2.2.2.2.2.2.1 x2.2.2.2.2.2.2.1 m_v m_x m_past m_kept m_acts m_images m_matchNow m_slopsNow m_matchesNow m_slopped m_seatBest m_fedBest m_slopsBest m_sawBest m_leastNow m_stableNow m_fitsNow m_someNow m_everyNow m_otherIn m_askLeft x2.2.2.2.2.2.2.2.1 x2.2.2.2.2.2.2.2.2.1 x2.2.2.2.2.2.2.2.2.2.1 x2.2.2.2.2.2.2.2.2.2.2.1 x2.2.2.2.2.2.2.2.2.2.2.2.1 x2.2.2.2.2.2.2.2.2.2.2.2.2.1 x2.2.2.2.2.2.2.2.2.2.2.2.2.2.1 x2.2.2.2.2.2.2.2.2.2.2.2.2.2.2.1 x2.2.2.2.2.2.2.2.2.2.2.2.2.2.2.2.1 x2.2.2.2.2.2.2.2.2.2.2.2.2.2.2.2.2.1 x2.2.2.2.2.2.2.2.2.2.2.2.2.2.2.2.2.2.1 x2.2.2.2.2.2.2.2.2.2.2.2.2.2.2.2.2.2.2.1 x2.2.2.2.2.2.2.2.2.2.2.2.2.2.2.2.2.2.2.2.1 x2.2.2.2.2.2.2.2.2.2.2.2.2.2.2.2.2.2.2.2.2.1 x2.2.2.2.2.2.2.2.2.2.2.2.2.2.2.2.2.2.2.2.2.2.1 x2.2.2.2.2.2.2.2.2.2.2.2.2.2.2.2.2.2.2.2.2.2.2.1 x2.2.2.2.2.2.2.2.2.2.2.2.2.2.2.2.2.2.2.2.2.2.2.2.1 x2.2.2.2.2.2.2.2.2.2.2.2.2.2.2.2.2.2.2.2.2.2.2.2.2.1 x2.2.2.2.2.2.2.2.2.2.2.2.2.2.2.2.2.2.2.2.2.2.2.2.2.2 tb_seats tb_slack tb_saw tb_quarrel tb_people tb_pairs tb_forks tb_unsures tb_trieds tb_fed tb_seat tb_one tb_other tb_years tb_kind tb_unsure tb_may tb_tried tb_name)) C G fX12_42 (wRT_at0) rfl rfl (Nat.le_of_ble_eq_true rfl) wRT_set_m_trouble dX12_table_76 (fun H locs G => ?_)
  refine lv_aload_n hx hb dX12_table_79 rfl (lv_at hl 0 rfl) ?_
  refine lv_aload_n hx hb dX12_table_80 rfl (lv_at hl 0 rfl) ?_
  refine x_get C G fX12_100.g (wRT_at0) rfl dX12_table_81 ?_
  refine x_put (ws' := (wRT E (mixA ad q aq) (0 : Int32) (4 : Int32) x2.2.2.2.2.2.1 m_tape (0 : Int32) l1 x2.1 x2.2.1 x2.2.2.1 x2.2.2.2.1 x2.2.2.2.2.1 x2.2.2.2.2.2.1 x2.2.2.2.2.2.2.1 m_v m_x m_past m_kept m_acts m_images m_matchNow m_slopsNow m_matchesNow m_slopped m_seatBest m_fedBest m_slopsBest m_sawBest m_leastNow m_stableNow m_fitsNow m_someNow m_everyNow m_otherIn m_askLeft x2.2.2.2.2.2.2.2.1 x2.2.2.2.2.2.2.2.2.1 x2.2.2.2.2.2.2.2.2.2.1 x2.2.2.2.2.2.2.2.2.2.2.1 x2.2.2.2.2.2.2.2.2.2.2.2.1 x2.2.2.2.2.2.2.2.2.2.2.2.2.1 x2.2.2.2.2.2.2.2.2.2.2.2.2.2.1 x2.2.2.2.2.2.2.2.2.2.2.2.2.2.2.1 x2.2.2.2.2.2.2.2.2.2.2.2.2.2.2.2.1 x2.2.2.2.2.2.2.2.2.2.2.2.2.2.2.2.2.1 x2.2.2.2.2.2.2.2.2.2.2.2.2.2.2.2.2.2.1 x2.2.2.2.2.2.2.2.2.2.2.2.2.2.2.2.2.2.2.1 x2.2.2.2.2.2.2.2.2.2.2.2.2.2.2.2.2.2.2.2.1 x2.2.2.2.2.2.2.2.2.2.2.2.2.2.2.2.2.2.2.2.2.1 x2.2.2.2.2.2.2.2.2.2.2.2.2.2.2.2.2.2.2.2.2.2.1 x2.2.2.2.2.2.2.2.2.2.2.2.2.2.2.2.2.2.2.2.2.2.2.1 x2.2.2.2.2.2.2.2.2.2.2.2.2.2.2.2.2.2.2.2.2.2.2.2.1 x2.2.2.2.2.2.2.2.2.2.2.2.2.2.2.2.2.2.2.2.2.2.2.2.2.1 x2.2.2.2.2.2.2.2.2.2.2.2.2.2.2.2.2.2.2.2.2.2.2.2.2.2 tb_seats tb_slack tb_saw tb_quarrel tb_people tb_pairs tb_forks tb_unsures tb_trieds tb_fed tb_seat tb_one tb_other tb_years tb_kind tb_unsure tb_may tb_tried tb_name)) C G fX12_9 (wRT_at0) rfl rfl (Nat.le_of_ble_eq_true rfl) wRT_set_m_where dX12_table_84 (fun H locs G => ?_)
  refine lv_iconst (v := -1) hx hb dX12_table_87 (by decide) ?_
  have G : xG s E A (wM E ad 0 4 x2.2.2.2.2.2.1 (.ref q) m_tape 0 l1 x2.1 x2.2.1 x2.2.2.1 x2.2.2.2.1 x2.2.2.2.2.1 x2.2.2.2.2.2.1 x2.2.2.2.2.2.2.1 m_v m_x m_past m_kept m_acts m_images m_matchNow m_slopsNow m_matchesNow m_slopped m_seatBest m_fedBest m_slopsBest m_sawBest m_leastNow m_stableNow m_fitsNow m_someNow m_everyNow m_otherIn m_askLeft tb_seats tb_slack tb_saw tb_quarrel tb_people tb_pairs tb_forks tb_unsures tb_trieds tb_fed tb_seat tb_one tb_other tb_years tb_kind tb_unsure tb_may tb_tried tb_name) H locs := xG_sub G [0, 1, 2, 3, 4, 5, 6, 7, 8, 19, 20, 21, 22, 23, 24, 25, 26, 27, 28] (by decide) rfl
  exact xNI_ret (fun _ => q) C G rfl dX12_table_88
set_option maxHeartbeats 8000000 in
set_option maxRecDepth 100000 in
theorem c_M_table_good_M {l : Launch} {E : xE} {ad : Nat → Nat} {m_thrown m_trouble m_where m_taped m_size m_spot m_sort m_place m_number m_fault m_wrongAt m_acts m_images m_matchNow m_slopsNow m_matchesNow m_fedBest m_slopsBest m_sawBest m_leastNow m_stableNow m_fitsNow m_someNow m_everyNow m_askLeft tb_seats tb_slack tb_saw tb_quarrel tb_people tb_pairs tb_forks tb_unsures tb_trieds tb_fed : Int32} {m_rv : Value} {m_tape m_v m_x m_past m_kept m_slopped m_seatBest m_otherIn tb_seat tb_one tb_other tb_years tb_kind tb_unsure tb_may tb_tried : Nat → Int32} {m_word : Int64} {tb_name : Nat → Int64} {l1 : Int32} {x1 : Int32 × Int32 × Int32 × Int32 × Int64} {x2 : MB} {R0 : Int32 × Int32 × Int32 × (Nat → Int32) × (Nat → Int32) × Int32 × Int32} (hlo : ¬ l1 < 0) (hle : l1 ≤ m_taped) (h1 : f_M_goesOn m_tape l1 0 0 m_place m_number m_word = some x1) (h2 : f_M_readAll m_tape l1 x1.1 x1.2.1 x1.2.2.1 x1.2.2.2.1 0 m_wrongAt x1.2.2.2.2 (0 : Int32) (0 : Int32) (0 : Int32) (0 : Int32) (0 : Int32) (0 : Int32) (0 : Int32) (0 : Int32) (0 : Int32) (0 : Int32) (fun _ => 0) (fun _ => 0) (fun _ => 0) (fun _ => 0) (fun _ => 0) (fun _ => 0) (fun _ => 0) (fun _ => 0) (fun _ => 0) = some x2) (hz : ¬ 0 < x2.2.2.2.2.1) (h3 : f_M_tabD m_v m_x x2.2.2.2.2.2.2.2.2.2.2.2.1 x2.2.2.2.2.2.2.2.2.2.2.2.2.1 x2.2.2.2.2.2.2.2.2.2.2.2.2.2.1 x2.2.2.2.2.2.2.2.2.2.2.2.2.2.2.1 x2.2.2.2.2.2.2.2.2.2.2.2.2.2.2.2.2.2.1 x2.2.2.2.2.2.2.2.2.2.2.2.2.2.2.2.2.2.2.1 x2.2.2.2.2.2.2.2.2.2.2.2.2.2.2.2.2.2.2.2.1 x2.2.2.2.2.2.2.2.2.2.2.2.2.2.2.2.2.2.2.2.2.1 x2.2.2.2.2.2.2.2.2.2.2.2.2.2.2.2.2.2.2.2.2.2.1 x2.2.2.2.2.2.2.2.2.2.2.2.2.2.2.2.2.2.2.2.2.2.2.1 x2.2.2.2.2.2.2.2.2.2.2.2.2.2.2.2.2.2.2.2.2.2.2.2.1 = some R0) : xNI l E yX12_table cX12_table 3 (some .int) 14 330 10 83 [.ref (ad 0), .int l1] (wM E ad m_thrown m_trouble m_where m_rv m_tape m_taped m_size m_spot m_sort m_place m_number m_fault m_wrongAt m_word m_v m_x m_past m_kept m_acts m_images m_matchNow m_slopsNow m_matchesNow m_slopped m_seatBest m_fedBest m_slopsBest m_sawBest m_leastNow m_stableNow m_fitsNow m_someNow m_everyNow m_otherIn m_askLeft tb_seats tb_slack tb_saw tb_quarrel tb_people tb_pairs tb_forks tb_unsures tb_trieds tb_fed tb_seat tb_one tb_other tb_years tb_kind tb_unsure tb_may tb_tried tb_name) (fun ad2 => (wM E (mixA ad (ad2 0) (fun k => ad2 (k + 1))) 0 R0.2.1 R0.2.2.1 (.ref (ad2 0)) m_tape 0 l1 x2.1 x2.2.1 x2.2.2.1 x2.2.2.2.1 x2.2.2.2.2.1 x2.2.2.2.2.2.1 x2.2.2.2.2.2.2.1 R0.2.2.2.1 R0.2.2.2.2.1 m_past m_kept R0.2.2.2.2.2.1 R0.2.2.2.2.2.2 m_matchNow m_slopsNow m_matchesNow m_slopped m_seatBest m_fedBest m_slopsBest m_sawBest m_leastNow m_stableNow m_fitsNow m_someNow m_everyNow m_otherIn m_askLeft x2.2.2.2.2.2.2.2.1 x2.2.2.2.2.2.2.2.2.1 x2.2.2.2.2.2.2.2.2.2.1 x2.2.2.2.2.2.2.2.2.2.2.1 x2.2.2.2.2.2.2.2.2.2.2.2.1 x2.2.2.2.2.2.2.2.2.2.2.2.2.1 x2.2.2.2.2.2.2.2.2.2.2.2.2.2.1 x2.2.2.2.2.2.2.2.2.2.2.2.2.2.2.1 x2.2.2.2.2.2.2.2.2.2.2.2.2.2.2.2.1 x2.2.2.2.2.2.2.2.2.2.2.2.2.2.2.2.2.1 x2.2.2.2.2.2.2.2.2.2.2.2.2.2.2.2.2.2.1 x2.2.2.2.2.2.2.2.2.2.2.2.2.2.2.2.2.2.2.1 x2.2.2.2.2.2.2.2.2.2.2.2.2.2.2.2.2.2.2.2.1 x2.2.2.2.2.2.2.2.2.2.2.2.2.2.2.2.2.2.2.2.2.1 x2.2.2.2.2.2.2.2.2.2.2.2.2.2.2.2.2.2.2.2.2.2.1 x2.2.2.2.2.2.2.2.2.2.2.2.2.2.2.2.2.2.2.2.2.2.2.1 x2.2.2.2.2.2.2.2.2.2.2.2.2.2.2.2.2.2.2.2.2.2.2.2.1 x2.2.2.2.2.2.2.2.2.2.2.2.2.2.2.2.2.2.2.2.2.2.2.2.2.1 x2.2.2.2.2.2.2.2.2.2.2.2.2.2.2.2.2.2.2.2.2.2.2.2.2.2)) R0.1 := by
  refine xNI_of (by decide) (Nat.le_of_ble_eq_true rfl) (fun p e s m args below meth c A C ls hl G => ?_)
  have hx := C.1
  have hb := C.2.1
  have hl : lv_has ls 3 [(0, .ref (ad 0)), (1, .int l1)] := hl
  refine lv_aload_n hx hb dX12_table_0 rfl (lv_at hl 0 rfl) ?_
  refine lv_iconst (v := 0) hx hb dX12_table_1 (by decide) ?_
  refine x_put (ws' := (wM E ad (0 : Int32) m_trouble m_where m_rv m_tape m_taped m_size m_spot m_sort m_place m_number m_fault m_wrongAt m_word m_v m_x m_past m_kept m_acts m_images m_matchNow m_slopsNow m_matchesNow m_slopped m_seatBest m_fedBest m_slopsBest m_sawBest m_leastNow m_stableNow m_fitsNow m_someNow m_everyNow m_otherIn m_askLeft tb_seats tb_slack tb_saw tb_quarrel tb_people tb_pairs tb_forks tb_unsures tb_trieds tb_fed tb_seat tb_one tb_other tb_years tb_kind tb_unsure tb_may tb_tried tb_name)) C G fX12_39 (wM_at0) rfl rfl (Nat.le_of_ble_eq_true rfl) wM_set_m_thrown dX12_table_2 (fun H locs G => ?_)
  refine lv_iload_n hx hb dX12_table_5 rfl (lv_at hl 1 rfl) ?_
  refine lv_if_lt (tgt := 17) hx hb dX12_table_6 (by decide) (fun h => absurd h hlo) (fun _ => ?_)
  refine lv_iload_n hx hb dX12_table_9 rfl (lv_at hl 1 rfl) ?_
  refine lv_aload_n hx hb dX12_table_10 rfl (lv_at hl 0 rfl) ?_
  refine x_get C G fX12_291.g (wM_at0) rfl dX12_table_11 ?_
  refine lv_icmp_le (tgt := 23) hx hb dX12_table_14 (by decide) (fun _ => ?_) (fun h => absurd hle h)
  refine lv_aload_n hx hb dX12_table_23 rfl (lv_at hl 0 rfl) ?_
  refine lv_iload_n hx hb dX12_table_24 rfl (lv_at hl 1 rfl) ?_
  refine x_put (ws' := (wM E ad (0 : Int32) m_trouble m_where m_rv m_tape m_taped l1 m_spot m_sort m_place m_number m_fault m_wrongAt m_word m_v m_x m_past m_kept m_acts m_images m_matchNow m_slopsNow m_matchesNow m_slopped m_seatBest m_fedBest m_slopsBest m_sawBest m_leastNow m_stableNow m_fitsNow m_someNow m_everyNow m_otherIn m_askLeft tb_seats tb_slack tb_saw tb_quarrel tb_people tb_pairs tb_forks tb_unsures tb_trieds tb_fed tb_seat tb_one tb_other tb_years tb_kind tb_unsure tb_may tb_tried tb_name)) C G fX12_56 (wM_at0) rfl rfl (Nat.le_of_ble_eq_true rfl) wM_set_m_size dX12_table_25 (fun H locs G => ?_)
  refine lv_aload_n hx hb dX12_table_28 rfl (lv_at hl 0 rfl) ?_
  refine lv_iconst (v := 0) hx hb dX12_table_29 (by decide) ?_
  refine x_put (ws' := (wM E ad (0 : Int32) m_trouble m_where m_rv m_tape (0 : Int32) l1 m_spot m_sort m_place m_number m_fault m_wrongAt m_word m_v m_x m_past m_kept m_acts m_images m_matchNow m_slopsNow m_matchesNow m_slopped m_seatBest m_fedBest m_slopsBest m_sawBest m_leastNow m_stableNow m_fitsNow m_someNow m_everyNow m_otherIn m_askLeft tb_seats tb_slack tb_saw tb_quarrel tb_people tb_pairs tb_forks tb_unsures tb_trieds tb_fed tb_seat tb_one tb_other tb_years tb_kind tb_unsure tb_may tb_tried tb_name)) C G fX12_291 (wM_at0) rfl rfl (Nat.le_of_ble_eq_true rfl) wM_set_m_taped dX12_table_30 (fun H locs G => ?_)
  refine lv_aload_n hx hb dX12_table_33 rfl (lv_at hl 0 rfl) ?_
  refine lv_iconst (v := 0) hx hb dX12_table_34 (by decide) ?_
  refine x_put (ws' := (wM E ad (0 : Int32) m_trouble m_where m_rv m_tape (0 : Int32) l1 (0 : Int32) m_sort m_place m_number m_fault m_wrongAt m_word m_v m_x m_past m_kept m_acts m_images m_matchNow m_slopsNow m_matchesNow m_slopped m_seatBest m_fedBest m_slopsBest m_sawBest m_leastNow m_stableNow m_fitsNow m_someNow m_everyNow m_otherIn m_askLeft tb_seats tb_slack tb_saw tb_quarrel tb_people tb_pairs tb_forks tb_unsures tb_trieds tb_fed tb_seat tb_one tb_other tb_years tb_kind tb_unsure tb_may tb_tried tb_name)) C G fX12_74 (wM_at0) rfl rfl (Nat.le_of_ble_eq_true rfl) wM_set_m_spot dX12_table_35 (fun H locs G => ?_)
  refine lv_aload_n hx hb dX12_table_38 rfl (lv_at hl 0 rfl) ?_
  refine lv_iconst (v := 0) hx hb dX12_table_39 (by decide) ?_
  refine x_put (ws' := (wM E ad (0 : Int32) m_trouble m_where m_rv m_tape (0 : Int32) l1 (0 : Int32) m_sort m_place m_number (0 : Int32) m_wrongAt m_word m_v m_x m_past m_kept m_acts m_images m_matchNow m_slopsNow m_matchesNow m_slopped m_seatBest m_fedBest m_slopsBest m_sawBest m_leastNow m_stableNow m_fitsNow m_someNow m_everyNow m_otherIn m_askLeft tb_seats tb_slack tb_saw tb_quarrel tb_people tb_pairs tb_forks tb_unsures tb_trieds tb_fed tb_seat tb_one tb_other tb_years tb_kind tb_unsure tb_may tb_tried tb_name)) C G fX12_97 (wM_at0) rfl rfl (Nat.le_of_ble_eq_true rfl) wM_set_m_fault dX12_table_40 (fun H locs G => ?_)
  refine lv_aload_n hx hb dX12_table_43 rfl (lv_at hl 0 rfl) ?_
  refine x_new C G clX12_150 ⟨Nat.le_of_ble_eq_true rfl, Nat.le_of_ble_eq_true rfl⟩ dX12_table_44 (fun q H G => ?_)
  refine lv_dup hx hb dX12_table_47 rfl ?_
  refine xN_I (wM E ad (0 : Int32) m_trouble m_where m_rv m_tape (0 : Int32) l1 (0 : Int32) m_sort m_place m_number (0 : Int32) m_wrongAt m_word m_v m_x m_past m_kept m_acts m_images m_matchNow m_slopsNow m_matchesNow m_slopped m_seatBest m_fedBest m_slopsBest m_sawBest m_leastNow m_stableNow m_fitsNow m_someNow m_everyNow m_otherIn m_askLeft tb_seats tb_slack tb_saw tb_quarrel tb_people tb_pairs tb_forks tb_unsures tb_trieds tb_fed tb_seat tb_one tb_other tb_years tb_kind tb_unsure tb_may tb_tried tb_name) C G n_Tab miX11_init kiX12_294 ⟨Nat.le_of_ble_eq_true rfl, Nat.le_of_ble_eq_true rfl⟩ rfl hl.1 rfl (Nat.le_of_ble_eq_true rfl) ⟨Nat.le_of_ble_eq_true rfl, Nat.le_of_ble_eq_true rfl⟩ dX12_table_48 (fun aq _ H locs G => ?_)
  refine x_put (ws' := (wM E ad (0 : Int32) m_trouble m_where (.ref q) m_tape (0 : Int32) l1 (0 : Int32) m_sort m_place m_number (0 : Int32) m_wrongAt m_word m_v m_x m_past m_kept m_acts m_images m_matchNow m_slopsNow m_matchesNow m_slopped m_seatBest m_fedBest m_slopsBest m_sawBest m_leastNow m_stableNow m_fitsNow m_someNow m_everyNow m_otherIn m_askLeft tb_seats tb_slack tb_saw tb_quarrel tb_people tb_pairs tb_forks tb_unsures tb_trieds tb_fed tb_seat tb_one tb_other tb_years tb_kind tb_unsure tb_may tb_tried tb_name) ++ nw_Tab E q aq) (q0 := 0) C G fX12_145 rfl rfl rfl (Nat.le_of_ble_eq_true rfl) rfl dX12_table_51 (fun H locs G => ?_)
  have G : xG s E A (wRT E (mixA ad q aq) (0 : Int32) m_trouble m_where m_tape (0 : Int32) l1 (0 : Int32) m_sort m_place m_number (0 : Int32) m_wrongAt m_word m_v m_x m_past m_kept m_acts m_images m_matchNow m_slopsNow m_matchesNow m_slopped m_seatBest m_fedBest m_slopsBest m_sawBest m_leastNow m_stableNow m_fitsNow m_someNow m_everyNow m_otherIn m_askLeft (0 : Int32) (0 : Int32) (0 : Int32) (0 : Int32) (0 : Int32) (0 : Int32) (0 : Int32) (0 : Int32) (0 : Int32) (0 : Int32) (fun _ => 0) (fun _ => 0) (fun _ => 0) (fun _ => 0) (fun _ => 0) (fun _ => 0) (fun _ => 0) (fun _ => 0) (fun _ => 0) tb_seats tb_slack tb_saw tb_quarrel tb_people tb_pairs tb_forks tb_unsures tb_trieds tb_fed tb_seat tb_one tb_other tb_years tb_kind tb_unsure tb_may tb_tried tb_name) H locs := xG_sub G [0, 1, 2, 3, 4, 5, 6, 7, 8, 19, 20, 21, 22, 23, 24, 25, 26, 27, 28, 9, 10, 11, 12, 13, 14, 15, 16, 17, 18] (by decide) rfl
  refine lv_aload_n hx hb dX12_table_54 rfl (lv_at hl 0 rfl) ?_
  refine lv_iconst (v := 0) hx hb dX12_table_55 (by decide) ?_
  refine x_put (ws' := (wRT E (mixA ad q aq) (0 : Int32) m_trouble m_where m_tape (0 : Int32) l1 (0 : Int32) (0 : Int32) m_place m_number (0 : Int32) m_wrongAt m_word m_v m_x m_past m_kept m_acts m_images m_matchNow m_slopsNow m_matchesNow m_slopped m_seatBest m_fedBest m_slopsBest m_sawBest m_leastNow m_stableNow m_fitsNow m_someNow m_everyNow m_otherIn m_askLeft (0 : Int32) (0 : Int32) (0 : Int32) (0 : Int32) (0 : Int32) (0 : Int32) (0 : Int32) (0 : Int32) (0 : Int32) (0 : Int32) (fun _ => 0) (fun _ => 0) (fun _ => 0) (fun _ => 0) (fun _ => 0) (fun _ => 0) (fun _ => 0) (fun _ => 0) (fun _ => 0) tb_seats tb_slack tb_saw tb_quarrel tb_people tb_pairs tb_forks tb_unsures tb_trieds tb_fed tb_seat tb_one tb_other tb_years tb_kind tb_unsure tb_may tb_tried tb_name)) C G fX12_71 (wRT_at0) rfl rfl (Nat.le_of_ble_eq_true rfl) wRT_set_m_sort dX12_table_56 (fun H locs G => ?_)
  refine lv_aload_n hx hb dX12_table_59 rfl (lv_at hl 0 rfl) ?_
  refine xV_V C G (c_M_goesOn_m_RT h1) mX12_goesOn kX12_107 (wRT_at0) rfl ⟨Nat.le_of_ble_eq_true rfl, Nat.le_of_ble_eq_true rfl⟩ rfl hl.1 rfl (Nat.le_of_ble_eq_true rfl) ⟨Nat.le_of_ble_eq_true rfl, Nat.le_of_ble_eq_true rfl⟩ dX12_table_60 (fun H locs G => ?_)
  refine lv_aload_n hx hb dX12_table_63 rfl (lv_at hl 0 rfl) ?_
  refine xV_V C G (c_M_readAll_m_RT h2) mX12_readAll kX12_295 (wRT_at0) rfl ⟨Nat.le_of_ble_eq_true rfl, Nat.le_of_ble_eq_true rfl⟩ rfl hl.1 rfl (Nat.le_of_ble_eq_true rfl) ⟨Nat.le_of_ble_eq_true rfl, Nat.le_of_ble_eq_true rfl⟩ dX12_table_64 (fun H locs G => ?_)
  refine lv_aload_n hx hb dX12_table_67 rfl (lv_at hl 0 rfl) ?_
  refine x_get C G fX12_97.g (wRT_at0) rfl dX12_table_68 ?_
  refine lv_if_le (tgt := 89) hx hb dX12_table_71 (by decide) (fun _ => ?_) (fun h => absurd (Int32.not_lt.mp hz) h)
  refine lv_aload_n hx hb dX12_table_89 rfl (lv_at hl 0 rfl) ?_
  refine lv_aload_n hx hb dX12_table_90 rfl (lv_at hl 0 rfl) ?_
  refine x_get C G fX12_145.g (wRT_at0) rfl dX12_table_91 ?_
  have G : xG s E A (wR E (mixA ad q aq) (0 : Int32) m_trouble m_where (.ref (ad 9)) m_tape (0 : Int32) l1 x2.1 x2.2.1 x2.2.2.1 x2.2.2.2.1 x2.2.2.2.2.1 x2.2.2.2.2.2.1 x2.2.2.2.2.2.2.1 m_v m_x m_past m_kept m_acts m_images m_matchNow m_slopsNow m_matchesNow m_slopped m_seatBest m_fedBest m_slopsBest m_sawBest m_leastNow m_stableNow m_fitsNow m_someNow m_everyNow m_otherIn m_askLeft x2.2.2.2.2.2.2.2.1 x2.2.2.2.2.2.2.2.2.1 x2.2.2.2.2.2.2.2.2.2.1 x2.2.2.2.2.2.2.2.2.2.2.1 x2.2.2.2.2.2.2.2.2.2.2.2.1 x2.2.2.2.2.2.2.2.2.2.2.2.2.1 x2.2.2.2.2.2.2.2.2.2.2.2.2.2.1 x2.2.2.2.2.2.2.2.2.2.2.2.2.2.2.1 x2.2.2.2.2.2.2.2.2.2.2.2.2.2.2.2.1 x2.2.2.2.2.2.2.2.2.2.2.2.2.2.2.2.2.1 x2.2.2.2.2.2.2.2.2.2.2.2.2.2.2.2.2.2.1 x2.2.2.2.2.2.2.2.2.2.2.2.2.2.2.2.2.2.2.1 x2.2.2.2.2.2.2.2.2.2.2.2.2.2.2.2.2.2.2.2.1 x2.2.2.2.2.2.2.2.2.2.2.2.2.2.2.2.2.2.2.2.2.1 x2.2.2.2.2.2.2.2.2.2.2.2.2.2.2.2.2.2.2.2.2.2.1 x2.2.2.2.2.2.2.2.2.2.2.2.2.2.2.2.2.2.2.2.2.2.2.1 x2.2.2.2.2.2.2.2.2.2.2.2.2.2.2.2.2.2.2.2.2.2.2.2.1 x2.2.2.2.2.2.2.2.2.2.2.2.2.2.2.2.2.2.2.2.2.2.2.2.2.1 x2.2.2.2.2.2.2.2.2.2.2.2.2.2.2.2.2.2.2.2.2.2.2.2.2.2) H locs := xG_sub G [0, 1, 2, 3, 4, 5, 6, 7, 8, 9, 10, 11, 12, 13, 14, 15, 16, 17, 18] (by decide) rfl
  refine x_put (ws' := (wM E (mixA ad q aq) 0 m_trouble m_where (.ref q) m_tape 0 l1 x2.1 x2.2.1 x2.2.2.1 x2.2.2.2.1 x2.2.2.2.2.1 x2.2.2.2.2.2.1 x2.2.2.2.2.2.2.1 m_v m_x m_past m_kept m_acts m_images m_matchNow m_slopsNow m_matchesNow m_slopped m_seatBest m_fedBest m_slopsBest m_sawBest m_leastNow m_stableNow m_fitsNow m_someNow m_everyNow m_otherIn m_askLeft x2.2.2.2.2.2.2.2.1 x2.2.2.2.2.2.2.2.2.1 x2.2.2.2.2.2.2.2.2.2.1 x2.2.2.2.2.2.2.2.2.2.2.1 x2.2.2.2.2.2.2.2.2.2.2.2.1 x2.2.2.2.2.2.2.2.2.2.2.2.2.1 x2.2.2.2.2.2.2.2.2.2.2.2.2.2.1 x2.2.2.2.2.2.2.2.2.2.2.2.2.2.2.1 x2.2.2.2.2.2.2.2.2.2.2.2.2.2.2.2.1 x2.2.2.2.2.2.2.2.2.2.2.2.2.2.2.2.2.1 x2.2.2.2.2.2.2.2.2.2.2.2.2.2.2.2.2.2.1 x2.2.2.2.2.2.2.2.2.2.2.2.2.2.2.2.2.2.2.1 x2.2.2.2.2.2.2.2.2.2.2.2.2.2.2.2.2.2.2.2.1 x2.2.2.2.2.2.2.2.2.2.2.2.2.2.2.2.2.2.2.2.2.1 x2.2.2.2.2.2.2.2.2.2.2.2.2.2.2.2.2.2.2.2.2.2.1 x2.2.2.2.2.2.2.2.2.2.2.2.2.2.2.2.2.2.2.2.2.2.2.1 x2.2.2.2.2.2.2.2.2.2.2.2.2.2.2.2.2.2.2.2.2.2.2.2.1 x2.2.2.2.2.2.2.2.2.2.2.2.2.2.2.2.2.2.2.2.2.2.2.2.2.1 x2.2.2.2.2.2.2.2.2.2.2.2.2.2.2.2.2.2.2.2.2.2.2.2.2.2)) (q0 := 0) C G fX12_298 rfl rfl rfl (Nat.le_of_ble_eq_true rfl) rfl dX12_table_94 (fun H locs G => ?_)
  refine w_tab97 C h3 (fun H locs ls G => ?_) G hl
  exact xNI_ret (fun k => match k with | 0 => q | k + 1 => aq k) C G rfl dX12_table_149
