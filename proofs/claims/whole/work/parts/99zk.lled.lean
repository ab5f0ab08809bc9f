/-! the law's own led -/
theorem lw_led_w : Cond.codeWith yL_led cL_led 4 (some .int) [(0, 9, 12, 13)] ∈ tG := tG_of 1301 (by decide +kernel) rfl
theorem lw_led_s : Cond.static yL_led ∈ tG := tG_of 1300 (by decide +kernel) rfl
theorem lw_led_i : Cond.initialized RL ∈ tG := by decide +kernel
theorem lw_led_l : Cond.methodLink RL 251 yL_led ∈ tG := tG_of 1299 (by decide +kernel) rfl
theorem lw_led_c : Cond.classLink RL 13 nsE ∈ tG := tG_of 1302 (by decide +kernel) rfl
theorem lw_led_k : ∀ w ∈ nsB, w ∈ lw_tbl := by decide +kernel
theorem mX10_led : xM yX10_led RX10 cX10_led 4 (some .int) 1 := ⟨by decide +kernel, by decide +kernel, by decide +kernel, by decide +kernel, rfl, by decide +kernel, by decide +kernel, by decide +kernel⟩
theorem kL_7m : Cond.methodLink RL 7 yX10_led ∈ tG := tG_of 1303 (by decide +kernel) rfl
theorem kL_7 : xLk RL 7 yX10_led := Or.inl kL_7m
section LLed
variable {p : Program} {l : Launch} {e : Env} {R : Room} {s : State} {m : MethodId} {args : Array Value} {below : List Frame} {meth : Method} {c : Code} {H : Heap} {locs : List Loc} {cells slots : Nat} {Q : State → Prop} {cc : ByteArray} {nL : Nat} {own : String} {E : xE} {A : Nat → Prop} {rt : Option FieldType} {ws' : va_W} {pc : Nat} {ls : Array Slot}
theorem xIc_ret {mc ms : Nat} {ty : FieldType} {r : Int32} (C : xC p s m args meth c cc nL own E A (some ty)) (G : xG s E A ws' H locs) (hn : narrow ty (.int r) = .int r) (hdg : decode cc pc = .ok (.ireturn, 1)) : W p l e R s m args below meth c H locs mc ms (MQ below (xqI E A ws' (some ty) r) args s mc ms A) (F0 m pc ls [.int r]) := by
  obtain ⟨hx, hb, hml, hown, hts, hN, hK, hA, hlocks, hr, hZ⟩ := C
  obtain ⟨hP, hD, hS⟩ := G
  exact W.zret hx hb hr hn (fun t ht hW => ⟨⟨r, (), rfl, ⟨rfl, fun ty h => by cases h; exact hn⟩, ⟨by rw [ht]; exact hP, hD⟩⟩, hS.F ht⟩) hS.2.2 hdg
end LLed
/-- a contract of a method with a table of its own -/
theorem ofW_w {l : Launch} {y : MethodName} {ws ws2 : List Cond} {rm : Room} {Pc : Array Value → State → Prop} {Qc : Array Value → State → Outcome → State → Prop} {mc ms : Nat} {free : Addr → Prop} {cc : ByteArray} {maxL : Nat} {ret : Option FieldType} {hh : List (Nat × Nat × Nat × Nat)}
    (hy : plainName y.cls = true) (hw : ws = Cond.codeWith y cc maxL ret hh :: ws2)
    (body : ∀ p e s m args below meth c s₁, BodyLoose p l y (headSpec ws rm) cc maxL ret e s m args below meth c s₁ → c.maxLocals = maxL → Pc args s →
      W p l e (headSpec ws rm).room s m args below meth c s.heap [] 0 0 (MQ below Qc args s mc ms free) (entryFrame m args maxL)) : Met l y ws rm Pc Qc mc ms free := by
  refine MetFree.of_bodyS (code := cc) (maxLocals := maxL) (ret := ret) hy ?_ ?_
  · intro args s m h hn
    obtain ⟨m9, meth, c, hn9, h1, h2, h3, h4, -, h5, h6, -⟩ := Cond.codeWith_spec (atoms_spec (ws := ws) h _ (by rw [hw]; exact List.mem_cons_self))
    cases hn.symm.trans hn9
    exact ⟨meth, c, h1, h2, h3, h4, h5, h6⟩
  · intro p e s m args below meth c s₁ B hml hP _
    have hh0 : s₁.heap = s.heap := by rw [B.state]; rfl
    obtain ⟨t, a1, o, b1, b2, b3⟩ := body p e s m args below meth c s₁ B hml hP s₁ hh0 (Stand.of_body B)
    exact ⟨t, o, a1, b1, b2, ⟨b3.1, b3.2⟩⟩
abbrev wlL : List Cond := Cond.codeWith yL_led cL_led 4 (some .int) [(0, 9, 12, 13)] :: tG
/-- the law's led: r of the class into out, 0; or 1 -/
def lawL (l : Launch) (E : xE) (b1 qo : Nat) (l1 : Int32) (wx : va_W) (fo fo' : Nat → Int64) (k : Int32) : Prop := ∀ sz : Nat, Met l yL_led wlL (xRc 110 2200 1 6) (xPreT E [.ref b1, .int l1, .ref qo] (wx ++ w0 E qo fo) sz) (xqI E (va_A (wx ++ w0 E qo fo) sz) (wx ++ w0 E qo fo') (some .int) k) 1 6 (va_A (wx ++ w0 E qo fo) sz)
set_option maxHeartbeats 4000000 in
set_option maxRecDepth 100000 in
theorem c_L_led_r {l : Launch} {E : xE} {b1 qo : Nat} {l1 r : Int32} {wx : va_W} {fo : Nat → Int64} {fs : List Value} (he : wx[0]? = some (b1, .inr (10, fs))) (K : cI l E yX10_led cX10_led 4 (some .int) [.ref b1, .int l1] wx wx r) : lawL l E b1 qo l1 wx fo (vp_updL fo 0 r.toInt64) 0 := by
  intro sz
  obtain ⟨fr, lo, h1, h2, K⟩ := K
  refine ofW_w (cc := cL_led) (maxL := 4) (ret := some .int) (hh := [(0, 9, 12, 13)]) (by decide) rfl ?_
  intro p e s m args below meth c s₁ B hml hv
  obtain ⟨⟨rfl, hsz, hP0, hK, hD, hN, hZ⟩, hU⟩ := hv
  subst hsz
  have hts := atoms_spec (ws := wlL) B.pre
  rw [lg_entry_eq]
  have hl0 := lv_entry [Value.ref b1, Value.int l1, Value.ref qo] (n := 4) (Nat.le_of_ble_eq_true rfl)
  generalize (lg_sl [Value.ref b1, Value.int l1, Value.ref qo] ++ List.replicate (4 - (lg_sl [Value.ref b1, Value.int l1, Value.ref qo]).length) Slot.unset).toArray = ls at hl0 ⊢
  have hl : lv_has ls 4 [(0, .ref b1), (1, .int l1), (2, .ref qo)] := hl0
  generalize hA : va_A (wx ++ w0 E qo fo) s.heap.size = A at hZ ⊢
  have hAq : ∀ q : Nat, s.heap.size ≤ q → A q := fun q h => by rw [← hA]; exact Or.inr h
  have hDA : va_D A (wx ++ w0 E qo fo) := by rw [← hA]; exact hD.self
  have C : xC p s m [Value.ref b1, Value.int l1, Value.ref qo].toArray meth c cL_led 4 RL E A (some .int) := ⟨B.exec, B.bytes, hml, findClass_of_methodNamed B.named, fun w hw => hts w (List.mem_cons_of_mem _ hw), hN, hK, hAq, B.notSynchronized, B.returns, hZ⟩
  have hx := C.1
  have hb := C.2.1
  have G : xG s E A (wx ++ w0 E qo fo) s.heap [] := ⟨hP0, hDA, va_S.rf⟩
  have G := xG_swap G
  refine lv_aload_n hx hb dL_led_0 rfl (lv_at hl 2 rfl) ?_
  refine lv_iconst (v := 0) hx hb dL_led_1 (by decide) ?_
  refine lv_aload_n hx hb dL_led_2 rfl (lv_at hl 0 rfl) ?_
  refine lv_iload_n hx hb dL_led_3 rfl (lv_at hl 1 rfl) ?_
  refine xI_Vf (As := [.int l1]) (rest := [.int 0, .ref qo]) (Cq := (RX10, TX10, 13)) C G K mX10_led kL_7 he rfl ⟨Nat.le_trans (Nat.add_le_add_right h1 1) (Nat.le_of_ble_eq_true rfl), Nat.le_trans (Nat.add_le_add_left h2 _) (Nat.le_of_ble_eq_true rfl)⟩ rfl hl.1 rfl (Nat.le_of_ble_eq_true rfl) ⟨Nat.zero_le _, Nat.zero_le _⟩ dL_led_4 (fun _ H locs G => ?_)
  refine lv_i2l hx hb dL_led_7 rfl ?_
  refine x_last (ws' := w0 E qo (vp_updL fo 0 r.toInt64) ++ wx) (q0 := 0) (n := 1) (f := fo) C G rfl (show ¬ ((0 : Int32) < 0 ∨ 1 ≤ (0 : Int32).toNatClampNeg) by decide) rfl dL_led_8 (fun H locs G => ?_)
  refine lv_goto (tgt := 15) hx hb dL_led_9 (by decide) ?_
  refine lv_iconst (v := 0) hx hb dL_led_15 (by decide) ?_
  refine W.widen (k := 1) (n := 6) (by omega) (by omega) ?_
  exact xIc_ret C (xG_swap G) rfl dL_led_16
set_option maxHeartbeats 4000000 in
set_option maxRecDepth 100000 in
theorem c_L_led_t {l : Launch} {E : xE} {b1 qo : Nat} {l1 : Int32} {wx : va_W} {fo : Nat → Int64} {fs : List Value} (he : wx[0]? = some (b1, .inr (10, fs))) (K : ledT l E b1 l1 wx) : lawL l E b1 qo l1 wx fo fo 1 := by
  intro sz
  refine ofW_w (cc := cL_led) (maxL := 4) (ret := some .int) (hh := [(0, 9, 12, 13)]) (by decide) rfl ?_
  intro p e s m args below meth c s₁ B hml hv
  obtain ⟨⟨rfl, hsz, hP0, hK, hD, hN, hZ⟩, hU⟩ := hv
  subst hsz
  have hts := atoms_spec (ws := wlL) B.pre
  have htab := vx_table (x := yL_led) B (hts _ List.mem_cons_self)
  rw [lg_entry_eq]
  have hl0 := lv_entry [Value.ref b1, Value.int l1, Value.ref qo] (n := 4) (Nat.le_of_ble_eq_true rfl)
  generalize (lg_sl [Value.ref b1, Value.int l1, Value.ref qo] ++ List.replicate (4 - (lg_sl [Value.ref b1, Value.int l1, Value.ref qo]).length) Slot.unset).toArray = ls at hl0 ⊢
  have hl : lv_has ls 4 [(0, .ref b1), (1, .int l1), (2, .ref qo)] := hl0
  generalize hA : va_A (wx ++ w0 E qo fo) s.heap.size = A at hZ hU ⊢
  have hAq : ∀ q : Nat, s.heap.size ≤ q → A q := fun q h => by rw [← hA]; exact Or.inr h
  have hDA : va_D A (wx ++ w0 E qo fo) := by rw [← hA]; exact hD.self
  have C : xC p s m [Value.ref b1, Value.int l1, Value.ref qo].toArray meth c cL_led 4 RL E A (some .int) := ⟨B.exec, B.bytes, hml, findClass_of_methodNamed B.named, fun w hw => hts w (List.mem_cons_of_mem _ hw), hN, hK, hAq, B.notSynchronized, B.returns, hZ⟩
  have hx := C.1
  have hb := C.2.1
  have G : xG s E A (wx ++ w0 E qo fo) s.heap [] := ⟨hP0, hDA, va_S.rf⟩
  have G := xG_swap G
  refine lv_aload_n hx hb dL_led_0 rfl (lv_at hl 2 rfl) ?_
  refine lv_iconst (v := 0) hx hb dL_led_1 (by decide) ?_
  refine lv_aload_n hx hb dL_led_2 rfl (lv_at hl 0 rfl) ?_
  refine lv_iload_n hx hb dL_led_3 rfl (lv_at hl 1 rfl) ?_
  have hF := xfreeR G.2.1 G.2.2 hAq
  have hpre : PreV s s.heap RX10 b1 (xPreT E [.ref b1, .int l1] wx s.heap.size) [.int l1] := ⟨xPreT_blind, va_recv hK G.1.right (q := (RX10, TX10, 13)) rfl he, fun U hU2 hW => ⟨⟨rfl, by rw [hU2], by rw [hU2]; exact G.1.right, va_K.moved hW.alike hK, G.2.1.right.weaken (fun _ _ _ _ => trivial), tN_warm hW hN, xZ_call hZ G.2.2 hF hU2 hW⟩, zT_call hU G.2.2 hF hU2 hW⟩⟩
  obtain ⟨m1, m2, m3, m4, m5, m6, m7, m8⟩ := mX10_led
  have hG : GoodIn tG (Cond.code yX10_led cX10_led 4 (some .int) :: tG) := tG_good (fun w hw => by
    rcases List.mem_cons.mp hw with e | e
    · rw [e]; exact m4
    · exact e)
  have hlk : Cond.methodLink RL 7 yX10_led ∈ tG := kL_7m
  have hrun := vx_runV (l := l) (e := e) (below := below) (meth := meth) (locs := []) (cells := 0) (slots := 0) (R := xRc 110 2200 1 6) (g := F0 m 4 ls [.int l1, .ref b1, .int 0, .ref qo]) (rest := [.int 0, .ref qo]) ⟨hx, hb, hml, C.2.2.2.1, C.2.2.2.2.1⟩ (K s.heap.size) (cwV 1 C.2.2.2.2.1 (tG_good (fun w hw => by
      rcases List.mem_append.mp hw with e | e
      · simp only [List.mem_cons, List.not_mem_nil, or_false] at e
        rcases e with e | e | e | e <;> (rw [e]; assumption)
      · exact (hG w e).1)) rfl rfl rfl ⟨m5, m6, m7, m8⟩ ⟨Nat.le_of_ble_eq_true rfl, Nat.le_of_ble_eq_true rfl⟩) hpre rfl rfl hl.1 rfl (Nat.le_of_ble_eq_true rfl) dL_led_4 ⟨Nat.le_of_ble_eq_true rfl, Nat.le_of_ble_eq_true rfl⟩
  refine vx_calli hrun G.2.2 (fun q _ h => hF q h) hF (fun q _ h => hF q h) (fun Ex ce q9 u t H1 locs1 ht hvm _ hB hz hk hS1 h9 h10 h11 => ?_) (fun r u t H1 locs1 ht hvm hw _ _ _ _ => hw.elim)
  obtain ⟨rfl, hP1, hD1⟩ := hB
  rw [ht] at hP1
  obtain ⟨j1, j2⟩ := xjoin G.1 G.2.1 hk hF hP1 hD1
  have G1 : xG s E A (w0 E qo fo ++ wx) H1 locs1 := ⟨j1, j2, hS1⟩
  refine vx_catch (own := RL) (name := nsE) C.2.2.2.1 [] ⟨0, 9, 12, 13⟩ [] htab (fun z hz => nomatch hz) (by decide) (by decide) (C.2.2.2.2.1 _ lw_led_c) (va_Nw.use rfl (hU.2.2 _ List.mem_cons_self)) h9 h10 h11 ?_
  refine lv_astore_n (lv' := [(3, .ref q9), (0, .ref b1), (1, .int l1), (2, .ref qo)]) hx hb dL_led_12 rfl hl (by decide) rfl (fun ls hl => ?_)
  refine lv_iconst (v := 1) hx hb dL_led_13 (by decide) ?_
  exact xIc_ret C (xG_swap G1) rfl dL_led_14
