abbrev vwCl : List vw_C := [(RX0, TX0, 13), (RX1, TX1, 7), (RX2, TX2, 3), (RX3, TX3, 2), (RX4, TX4, 8), (RX5, TX5, 5), (RX6, TX6, 5), (RX7, TX7, 8), (RX8, TX8, 11), (RX9, TX9, 13), (RX10, TX10, 13), (RX11, TX11, 19), (RX12, TX12, 36)]
/-! words that warming keeps (tG), links between nest mates (tN) -/
abbrev xE : Type := va_G × (Nat → ClassId) × (Nat → Nat) × (Nat → Nat)
abbrev tysE (E : xE) : List (ClassId × FieldType) := [(E.2.1 0, .byte), (E.2.1 1, .int), (E.2.1 2, .long), (E.2.1 3, .object "SpoonTable$Now")]
def nstW : Cond → Bool
  | .fieldLinkNest .. => true
  | .methodLinkNest .. => true
  | _ => false
def tG : List Cond := lw_tbl.filter goodWord
def tN : List Cond := lw_tbl.filter nstW
theorem tG_of {w : Cond} (i : Nat) (h : lw_tbl[i]? = some w) (g : goodWord w = true) : w ∈ tG := List.mem_filter.mpr ⟨List.mem_of_getElem? h, g⟩
theorem tN_of {w : Cond} (i : Nat) (h : lw_tbl[i]? = some w) (g : nstW w = true) : w ∈ tN := List.mem_filter.mpr ⟨List.mem_of_getElem? h, g⟩
theorem tG_good {ws : List Cond} (h : ∀ w ∈ ws, w ∈ tG) : GoodIn tG ws := fun w hw => ⟨h w hw, good_of_word (List.mem_filter.mp (h w hw)).2⟩
theorem tN_on {w : Cond} (hw : w ∈ tN) : w.onTables = true := by
  have hn := (List.mem_filter.mp hw).2
  cases w <;> first | rfl | (simp [nstW] at hn)
theorem tN_warm {s U : State} (hW : s.WarmedH U.vm) (h : ∀ w ∈ tN, va_Nw w s) : ∀ w ∈ tN, va_Nw w U := by
  intro w hw
  have hn := (List.mem_filter.mp hw).2
  have h1 := h w hw
  cases w <;> first | exact va_Nw.warmF hW h1 | exact va_Nw.warmM hW h1 | (simp [nstW] at hn)
/-! the String constants of the reference: pool entries, texts, lengths, bytes; String.COMPACT_STRINGS -/
def ixS : List Nat := [133, 198, 203, 205, 207, 135, 137, 139, 141, 143, 219, 244, 246, 248, 250, 283, 285]
def txS : List String := ["table", "seats", "slack", "saw", "quarrel", "person", "fork", "known", "unsure", "tried", "at", "years", "plain", "hinged", "ringed", "fed", "starved"]
def lenJS : List Nat := [5, 5, 5, 3, 7, 6, 4, 5, 6, 5, 2, 5, 5, 6, 6, 3, 7]
def bytJS : List (List Int32) := [[116, 97, 98, 108, 101], [115, 101, 97, 116, 115], [115, 108, 97, 99, 107], [115, 97, 119], [113, 117, 97, 114, 114, 101, 108], [112, 101, 114, 115, 111, 110], [102, 111, 114, 107], [107, 110, 111, 119, 110], [117, 110, 115, 117, 114, 101], [116, 114, 105, 101, 100], [97, 116], [121, 101, 97, 114, 115], [112, 108, 97, 105, 110], [104, 105, 110, 103, 101, 100], [114, 105, 110, 103, 101, 100], [102, 101, 100], [115, 116, 97, 114, 118, 101, 100]]
def xZ (E : xE) (A : Nat → Prop) (U : State) (H : Heap) : Prop := (∀ i : Nat, i < 17 → vk_R RX12 (ixS.getD i 0) (txS.getD i "") (E.2.2.1 i) U) ∧ vk_S 17 lenJS bytJS E.2.2.1 E.2.2.2 A U H ∧ va_Z "java/lang/String" "COMPACT_STRINGS" "Z" (.int 1) A U H ∧ va_Zq "jdk/internal/util/Preconditions" "SIOOBE_FORMATTER" "Ljava/util/function/BiFunction;" A U H ∧ va_AO "SpoonTable$Now" U
theorem xZ_call {E : xE} {A B : Nat → Prop} {s U : State} {H : Heap} {locs : List Loc} (hZ : xZ E A s s.heap) (hS : va_S A s.heap H locs) (hF : ∀ q, B q → A q) (hU : U.heap = H) (hW : s.WarmedH U.vm) : xZ E B U U.heap := by
  obtain ⟨h1, h2, h3, h4, h5⟩ := hZ
  have hk : ∀ a : Nat, a < s.heap.size → ¬ A a → U.heap[a]? = s.heap[a]? := fun a ha hA => by rw [hU]; exact hS.2.1 a ha hA
  exact ⟨fun i hi => (h1 i hi).warm hW, ((h2.kept hk).narrow hF).moved hW.alike, ((h3.kept hk).narrow hF).moved hW.alike, ((h4.kept hk).narrow hF).moved hW.alike, h5.moved hW.alike⟩
/-- what stays through a method's body -/
def xC (p : Program) (s : State) (m : MethodId) (args : Array Value) (meth : Method) (c : Code) (cc : ByteArray) (nL : Nat) (own : String) (E : xE) (A : Nat → Prop) (rt : Option FieldType) : Prop :=
  p.tables.exec = Jvm.exec ∧ c.code = cc ∧ c.maxLocals = nL ∧ s.vm.findClass own = some m.cls ∧ (∀ w ∈ tG, w.before args s = true) ∧ (∀ w ∈ tN, va_Nw w s) ∧ va_K E.1 vwCl (tysE E) s ∧ (∀ q : Nat, s.heap.size ≤ q → A q) ∧ meth.locks = false ∧ meth.sig.returnType = rt ∧ xZ E A s s.heap
/-- the world, and that nothing else has changed -/
def xG (s : State) (E : xE) (A : Nat → Prop) (ws : va_W) (H : Heap) (locs : List Loc) : Prop := va_P E.1 vwCl ws H ∧ va_D A ws ∧ va_S A s.heap H locs
def xWd (E : xE) (A : Nat → Prop) (ws : va_W) (t : State) : Prop := va_P E.1 vwCl ws t.heap ∧ va_D A ws
def xPre (E : xE) (av : List Value) (ws : va_W) (sz : Nat) : Array Value → State → Prop := va_Pc av (fun U => U.heap.size = sz ∧ va_P E.1 vwCl ws U.heap ∧ va_K E.1 vwCl (tysE E) U ∧ va_D (fun _ => True) ws ∧ (∀ w ∈ tN, va_Nw w U) ∧ xZ E (va_A ws sz) U U.heap)
def xNr (rt : Option FieldType) (r : Int32) : Prop := ∀ ty, rt = some ty → narrow ty (.int r) = .int r
abbrev xR (fr lo : Nat) : Room := { frames := fr, cells := 0, slots := 0, locals := lo }
abbrev xqI (E : xE) (A : Nat → Prop) (ws' : va_W) (rt : Option FieldType) (r : Int32) : Array Value → State → Outcome → State → Prop := va_Qi (fun (r' : Int32) (_ : Unit) => r' = r ∧ xNr rt r) (fun _ t => xWd E A ws' t) A
abbrev xqL (E : xE) (A : Nat → Prop) (ws' : va_W) (r : Int64) : Array Value → State → Outcome → State → Prop := va_Ql (fun (r' : Int64) (_ : Unit) => r' = r) (fun _ t => xWd E A ws' t) A
abbrev xqV (E : xE) (A : Nat → Prop) (ws' : va_W) : Array Value → State → Outcome → State → Prop := va_Qv (fun (_ : Unit) => True) (fun _ t => xWd E A ws' t) A
/-- contracts: an int (or boolean) comes back, a long, nothing -/
def xI (l : Launch) (E : xE) (y : MethodName) (cc : ByteArray) (nL : Nat) (rt : Option FieldType) (fr lo : Nat) (av : List Value) (ws ws' : va_W) (r : Int32) : Prop := ∀ sz : Nat, Met l y (.code y cc nL rt :: tG) (xR fr lo) (xPre E av ws sz) (xqI E (va_A ws sz) ws' rt r) 0 0 (va_A ws sz)
def xL (l : Launch) (E : xE) (y : MethodName) (cc : ByteArray) (nL : Nat) (rt : Option FieldType) (fr lo : Nat) (av : List Value) (ws ws' : va_W) (r : Int64) : Prop := ∀ sz : Nat, Met l y (.code y cc nL rt :: tG) (xR fr lo) (xPre E av ws sz) (xqL E (va_A ws sz) ws' r) 0 0 (va_A ws sz)
def xV (l : Launch) (E : xE) (y : MethodName) (cc : ByteArray) (nL : Nat) (rt : Option FieldType) (fr lo : Nat) (av : List Value) (ws ws' : va_W) : Prop := ∀ sz : Nat, Met l y (.code y cc nL rt :: tG) (xR fr lo) (xPre E av ws sz) (xqV E (va_A ws sz) ws') 0 0 (va_A ws sz)
theorem x_of {l : Launch} {E : xE} {y : MethodName} {cc : ByteArray} {nL : Nat} {rt : Option FieldType} {fr lo : Nat} {av : List Value} {ws : va_W} {Qc : (Nat → Prop) → Array Value → State → Outcome → State → Prop} (hy : plainName y.cls = true) (hn : (lg_sl av).length ≤ nL)
    (body : ∀ (p : Program) (e : Env) (s : State) (m : MethodId) (args : Array Value) (below : List Frame) (meth : Method) (c : Code) (A : Nat → Prop), xC p s m args meth c cc nL y.cls E A rt → ∀ ls : Array Slot, lv_has ls nL (lv_args 0 av) → xG s E A ws s.heap [] → W p l e (xR fr lo) s m args below meth c s.heap [] 0 0 (MQ below (Qc A) args s 0 0 A) (F0 m 0 ls [])) :
    ∀ sz : Nat, Met l y (.code y cc nL rt :: tG) (xR fr lo) (xPre E av ws sz) (Qc (va_A ws sz)) 0 0 (va_A ws sz) := by
  intro sz
  refine Met.ofW (cc := cc) (maxL := nL) (ret := rt) hy rfl ?_
  intro p e s m args below meth c s₁ B hml hv
  obtain ⟨rfl, hsz, hP, hK, hD, hN, hZ⟩ := hv
  subst hsz
  have hts := atoms_spec (ws := Cond.code y cc nL rt :: tG) B.pre
  rw [lg_entry_eq]
  exact body p e s m _ below meth c _ ⟨B.exec, B.bytes, hml, findClass_of_methodNamed B.named, fun w hw => hts w (List.mem_cons_of_mem _ hw), hN, hK, fun q h => Or.inr h, B.notSynchronized, B.returns, hZ⟩ _ (lv_entry av hn) ⟨hP, hD.self, va_S.rf⟩
theorem xI_of {l : Launch} {E : xE} {y : MethodName} {cc : ByteArray} {nL : Nat} {rt : Option FieldType} {fr lo : Nat} {av : List Value} {ws ws' : va_W} {r : Int32} (hy : plainName y.cls = true) (hn : (lg_sl av).length ≤ nL)
    (body : ∀ (p : Program) (e : Env) (s : State) (m : MethodId) (args : Array Value) (below : List Frame) (meth : Method) (c : Code) (A : Nat → Prop), xC p s m args meth c cc nL y.cls E A rt → ∀ ls : Array Slot, lv_has ls nL (lv_args 0 av) → xG s E A ws s.heap [] → W p l e (xR fr lo) s m args below meth c s.heap [] 0 0 (MQ below (xqI E A ws' rt r) args s 0 0 A) (F0 m 0 ls [])) :
    xI l E y cc nL rt fr lo av ws ws' r := x_of (Qc := fun A => xqI E A ws' rt r) hy hn body
theorem xL_of {l : Launch} {E : xE} {y : MethodName} {cc : ByteArray} {nL : Nat} {rt : Option FieldType} {fr lo : Nat} {av : List Value} {ws ws' : va_W} {r : Int64} (hy : plainName y.cls = true) (hn : (lg_sl av).length ≤ nL)
    (body : ∀ (p : Program) (e : Env) (s : State) (m : MethodId) (args : Array Value) (below : List Frame) (meth : Method) (c : Code) (A : Nat → Prop), xC p s m args meth c cc nL y.cls E A rt → ∀ ls : Array Slot, lv_has ls nL (lv_args 0 av) → xG s E A ws s.heap [] → W p l e (xR fr lo) s m args below meth c s.heap [] 0 0 (MQ below (xqL E A ws' r) args s 0 0 A) (F0 m 0 ls [])) :
    xL l E y cc nL rt fr lo av ws ws' r := x_of (Qc := fun A => xqL E A ws' r) hy hn body
theorem xV_of {l : Launch} {E : xE} {y : MethodName} {cc : ByteArray} {nL : Nat} {rt : Option FieldType} {fr lo : Nat} {av : List Value} {ws ws' : va_W} (hy : plainName y.cls = true) (hn : (lg_sl av).length ≤ nL)
    (body : ∀ (p : Program) (e : Env) (s : State) (m : MethodId) (args : Array Value) (below : List Frame) (meth : Method) (c : Code) (A : Nat → Prop), xC p s m args meth c cc nL y.cls E A rt → ∀ ls : Array Slot, lv_has ls nL (lv_args 0 av) → xG s E A ws s.heap [] → W p l e (xR fr lo) s m args below meth c s.heap [] 0 0 (MQ below (xqV E A ws') args s 0 0 A) (F0 m 0 ls [])) :
    xV l E y cc nL rt fr lo av ws ws' := x_of (Qc := fun A => xqV E A ws') hy hn body
theorem xfree {A : Nat → Prop} {ws : va_W} {H0 H : Heap} {locs : List Loc} (hD : va_D A ws) (hS : va_S A H0 H locs) (hA : ∀ q : Nat, H0.size ≤ q → A q) : ∀ q, va_A ws H.size q → A q := by
  intro q h
  rcases h with ⟨k, e, h⟩ | h
  · exact hD.2 k (q, e) h
  · exact hA q (Nat.le_trans hS.1 h)
theorem xPre_blind {E : xE} {av : List Value} {ws : va_W} {sz : Nat} : FrameBlind (xPre E av ws sz) := by
  intro a U g mk q
  obtain ⟨q0, q1, qP, qK, qD, qN, qZ⟩ := q
  exact ⟨q0, q1, qP, va_K.moved (u := U) (U := U.calling g mk a) (Vm.Alike.refl U.vm) qK, qD, fun w hw => va_Nw.same (u := U) (U := U.calling g mk a) (tN_on hw) rfl (qN w hw), fun i hi => vk_R.same (u := U) (U := U.calling g mk a) rfl (qZ.1 i hi), vk_S.moved (u := U) (U := U.calling g mk a) (Vm.Alike.refl U.vm) qZ.2.1, va_Z.moved (u := U) (U := U.calling g mk a) (Vm.Alike.refl U.vm) qZ.2.2.1, va_Zq.moved (u := U) (U := U.calling g mk a) (Vm.Alike.refl U.vm) qZ.2.2.2.1, va_AO.moved (u := U) (U := U.calling g mk a) (Vm.Alike.refl U.vm) qZ.2.2.2.2⟩
/-- what the tables say of an instance method, of a static one -/
def xM (y : MethodName) (Cn : String) (cc : ByteArray) (nL : Nat) (rt : Option FieldType) (n : Nat) : Prop :=
  Cond.instanceMethod y ∈ tG ∧ Cond.selects Cn y y ∈ tG ∧ Cond.initialized Cn ∈ tG ∧ Cond.code y cc nL rt ∈ tG ∧ y.cls = Cn ∧ y.cls ≠ "java/lang/invoke/MethodHandle" ∧ y.cls ≠ "java/lang/invoke/VarHandle" ∧ (parseMethodDescriptor y.desc).map (fun d => d.parameters.length) = some n
def xMS (y : MethodName) (cc : ByteArray) (nL : Nat) (rt : Option FieldType) (n : Nat) : Prop :=
  Cond.static y ∈ tG ∧ Cond.initialized y.cls ∈ tG ∧ Cond.code y cc nL rt ∈ tG ∧ y.cls ≠ "java/lang/invoke/MethodHandle" ∧ y.cls ≠ "java/lang/invoke/VarHandle" ∧ (parseMethodDescriptor y.desc).map (fun d => d.parameters.length) = some n
/-- a link of a call: in the class itself or to a public member, or between nest mates -/
def xLk (own : String) (idx : Nat) (y : MethodName) : Prop := Cond.methodLink own idx y ∈ tG ∨ ∃ host, Cond.methodLinkNest own idx y host ∈ tN
section XCalls
variable {p : Program} {l : Launch} {e : Env} {R : Room} {s : State} {m : MethodId} {args : Array Value} {below : List Frame} {meth : Method} {c : Code} {H : Heap} {locs : List Loc} {cells slots : Nat} {Q : State → Prop} {cc : ByteArray} {nL : Nat} {own : String} {E : xE} {A : Nat → Prop} {rt : Option FieldType} {ws ws' : va_W} {pc : Nat} {ls : Array Slot} {rest st : List Value}
theorem xrunV {y : MethodName} {cc' : ByteArray} {nL' fr lo n idx q0 ci b : Nat} {rt' : Option FieldType} {As fs : List Value} {Qc : Array Value → State → Outcome → State → Prop} {Cq : vw_C}
    (C : xC p s m args meth c cc nL own E A rt) (G : xG s E A ws H locs) (M : Met l y (.code y cc' nL' rt' :: tG) (xR fr lo) (xPre E (.ref b :: As) ws H.size) Qc 0 0 (va_A ws H.size)) (Mt : xM y Cq.1 cc' nL' rt' n) (hl : xLk own idx y)
    (he : ws[q0]? = some (b, .inr (ci, fs))) (hc : vwCl[ci]? = some Cq) (hR : fr + 1 ≤ R.frames ∧ 8 + (nL' + 11) + lo ≤ R.locals) (hn : As.length = n) (hsz : ls.size = nL) (hst : st = As.reverse ++ .ref b :: rest) (hW : (rest.map fun v => v.category).sum ≤ 8) (hf : cells ≤ R.cells ∧ slots ≤ R.slots) (hdg : decode cc pc = .ok (.invokevirtual idx, 3)) :
    va_Run p l e R s m args below meth c H locs cells slots 0 0 (F0 m pc ls st) rest (Qc (Value.ref b :: As).toArray) (va_A ws H.size) := by
  obtain ⟨hx, hb, hml, hown, hts, hN, hK, hA, hlocks, hr, hZ⟩ := C
  obtain ⟨hP, hD, hS⟩ := G
  obtain ⟨h1, h2, h3, h4, h5, h6, h7, h8⟩ := Mt
  have hpre : PreV s H Cq.1 b (xPre E (.ref b :: As) ws H.size) As := ⟨xPre_blind, va_recv hK hP hc he, fun U hU hW => ⟨rfl, by rw [hU], by rw [hU]; exact hP, va_K.moved hW.alike hK, hD.weaken (fun _ _ _ _ => trivial), tN_warm hW hN, xZ_call hZ hS (xfree hD hS hA) hU hW⟩⟩
  have hG : GoodIn tG (Cond.code y cc' nL' rt' :: tG) := tG_good (fun w hw => by
    rcases List.mem_cons.mp hw with e | e
    · rw [e]; exact h4
    · exact e)
  rcases hl with hl | ⟨host, hl⟩
  · exact va_runV ⟨hx, hb, hml, hown, hts⟩ M (cwV n hts (tG_good (fun w hw => by
      rcases List.mem_append.mp hw with e | e
      · simp only [List.mem_cons, List.not_mem_nil, or_false] at e
        rcases e with e | e | e | e <;> (rw [e]; assumption)
      · exact (hG w e).1)) rfl rfl rfl ⟨h5, h6, h7, h8⟩ hR) hpre rfl hn hsz hst (by simpa using hW) hdg hf
  · exact va_runVN ⟨hx, hb, hml, hown, hts⟩ M ⟨va_cnB n hts hG rfl rfl rfl (hN _ hl) (by rw [h5]; exact hts _ h3) ⟨h6, h7, h8⟩ hR, hts _ h1, hts _ h2⟩ hpre rfl hn hsz hst (by simpa using hW) hdg hf
theorem xrunVr {y : MethodName} {cc' : ByteArray} {nL' fr lo n idx b : Nat} {rt' : Option FieldType} {As : List Value} {Qc : Array Value → State → Outcome → State → Prop} {Cn : String}
    (C : xC p s m args meth c cc nL own E A rt) (G : xG s E A ws H locs) (M : Met l y (.code y cc' nL' rt' :: tG) (xR fr lo) (xPre E (.ref b :: As) ws H.size) Qc 0 0 (va_A ws H.size)) (Mt : xM y Cn cc' nL' rt' n) (hl : xLk own idx y)
    (hrec : ∃ cellB : Cell, H[b]? = some cellB ∧ cellB.vm.isStatics = false ∧ s.vm.findClass Cn = some cellB.cls) (hR : fr + 1 ≤ R.frames ∧ 8 + (nL' + 11) + lo ≤ R.locals) (hn : As.length = n) (hsz : ls.size = nL) (hst : st = As.reverse ++ .ref b :: rest) (hW : (rest.map fun v => v.category).sum ≤ 8) (hf : cells ≤ R.cells ∧ slots ≤ R.slots) (hdg : decode cc pc = .ok (.invokevirtual idx, 3)) :
    va_Run p l e R s m args below meth c H locs cells slots 0 0 (F0 m pc ls st) rest (Qc (Value.ref b :: As).toArray) (va_A ws H.size) := by
  obtain ⟨hx, hb, hml, hown, hts, hN, hK, hA, hlocks, hr, hZ⟩ := C
  obtain ⟨hP, hD, hS⟩ := G
  obtain ⟨h1, h2, h3, h4, h5, h6, h7, h8⟩ := Mt
  have hpre : PreV s H Cn b (xPre E (.ref b :: As) ws H.size) As := ⟨xPre_blind, hrec, fun U hU hW => ⟨rfl, by rw [hU], by rw [hU]; exact hP, va_K.moved hW.alike hK, hD.weaken (fun _ _ _ _ => trivial), tN_warm hW hN, xZ_call hZ hS (xfree hD hS hA) hU hW⟩⟩
  have hG : GoodIn tG (Cond.code y cc' nL' rt' :: tG) := tG_good (fun w hw => by
    rcases List.mem_cons.mp hw with e | e
    · rw [e]; exact h4
    · exact e)
  rcases hl with hl | ⟨host, hl⟩
  · exact va_runV ⟨hx, hb, hml, hown, hts⟩ M (cwV n hts (tG_good (fun w hw => by
      rcases List.mem_append.mp hw with e | e
      · simp only [List.mem_cons, List.not_mem_nil, or_false] at e
        rcases e with e | e | e | e <;> (rw [e]; assumption)
      · exact (hG w e).1)) rfl rfl rfl ⟨h5, h6, h7, h8⟩ hR) hpre rfl hn hsz hst (by simpa using hW) hdg hf
  · exact va_runVN ⟨hx, hb, hml, hown, hts⟩ M ⟨va_cnB n hts hG rfl rfl rfl (hN _ hl) (by rw [h5]; exact hts _ h3) ⟨h6, h7, h8⟩ hR, hts _ h1, hts _ h2⟩ hpre rfl hn hsz hst (by simpa using hW) hdg hf
theorem xrunS {y : MethodName} {cc' : ByteArray} {nL' fr lo n idx : Nat} {rt' : Option FieldType} {As : List Value} {Qc : Array Value → State → Outcome → State → Prop}
    (C : xC p s m args meth c cc nL own E A rt) (G : xG s E A ws H locs) (M : Met l y (.code y cc' nL' rt' :: tG) (xR fr lo) (xPre E As ws H.size) Qc 0 0 (va_A ws H.size)) (Mt : xMS y cc' nL' rt' n) (hl : xLk own idx y)
    (hR : fr + 1 ≤ R.frames ∧ 8 + (nL' + 11) + lo ≤ R.locals) (hn : As.length = n) (hsz : ls.size = nL) (hst : st = As.reverse ++ rest) (hW : (rest.map fun v => v.category).sum ≤ 8) (hf : cells ≤ R.cells ∧ slots ≤ R.slots) (hdg : decode cc pc = .ok (.invokestatic idx, 3)) :
    va_Run p l e R s m args below meth c H locs cells slots 0 0 (F0 m pc ls st) rest (Qc As.toArray) (va_A ws H.size) := by
  obtain ⟨hx, hb, hml, hown, hts, hN, hK, hA, hlocks, hr, hZ⟩ := C
  obtain ⟨hP, hD, hS⟩ := G
  obtain ⟨h1, h3, h4, h6, h7, h8⟩ := Mt
  have hpre : PreS s H (xPre E As ws H.size) As := ⟨xPre_blind, fun U hU hW => ⟨rfl, by rw [hU], by rw [hU]; exact hP, va_K.moved hW.alike hK, hD.weaken (fun _ _ _ _ => trivial), tN_warm hW hN, xZ_call hZ hS (xfree hD hS hA) hU hW⟩⟩
  have hG : GoodIn tG (Cond.code y cc' nL' rt' :: tG) := tG_good (fun w hw => by
    rcases List.mem_cons.mp hw with e | e
    · rw [e]; exact h4
    · exact e)
  rcases hl with hl | ⟨host, hl⟩
  · exact va_runS ⟨hx, hb, hml, hown, hts⟩ M ⟨callB_of n hts hG rfl rfl rfl (hts _ h3) (hts _ hl) ⟨h6, h7, h8⟩ hR, hts _ h1⟩ hpre rfl hn hsz hst (by simpa using hW) hdg hf
  · exact va_runSN ⟨hx, hb, hml, hown, hts⟩ M ⟨va_cnB n hts hG rfl rfl rfl (hN _ hl) (hts _ h3) ⟨h6, h7, h8⟩ hR, hts _ h1, trivial⟩ hpre rfl hn hsz hst (by simpa using hW) hdg hf
theorem xI_go {r : Int32} {rt' : Option FieldType} {av : Array Value} (C : xC p s m args meth c cc nL own E A rt) (G : xG s E A ws H locs) (hr : va_Run p l e R s m args below meth c H locs cells slots 0 0 (F0 m pc ls st) rest (xqI E (va_A ws H.size) ws' rt' r av) (va_A ws H.size))
    (kk : xNr rt' r → ∀ (H : Heap) (locs : List Loc), xG s E A ws' H locs → W p l e R s m args below meth c H locs cells slots Q (F0 m (pc + 3) ls (.int r :: rest))) : W p l e R s m args below meth c H locs cells slots Q (F0 m pc ls st) := by
  have hF := xfree G.2.1 G.2.2 C.2.2.2.2.2.2.2.1
  refine va_calli hr G.2.2 (fun q _ h => hF q h) hF (fun r1 u t H1 locs1 ht hvm hw hB hz hk hS1 => ?_)
  obtain ⟨rfl, hn⟩ := hw
  exact kk hn H1 locs1 ⟨by rw [← ht]; exact hB.1, hB.2.weaken (fun _ q _ h => hF q.1 h), hS1⟩
theorem xL_go {r : Int64} {av : Array Value} (C : xC p s m args meth c cc nL own E A rt) (G : xG s E A ws H locs) (hr : va_Run p l e R s m args below meth c H locs cells slots 0 0 (F0 m pc ls st) rest (xqL E (va_A ws H.size) ws' r av) (va_A ws H.size))
    (kk : ∀ (H : Heap) (locs : List Loc), xG s E A ws' H locs → W p l e R s m args below meth c H locs cells slots Q (F0 m (pc + 3) ls (.long r :: rest))) : W p l e R s m args below meth c H locs cells slots Q (F0 m pc ls st) := by
  have hF := xfree G.2.1 G.2.2 C.2.2.2.2.2.2.2.1
  refine va_calll hr G.2.2 (fun q _ h => hF q h) hF (fun r1 u t H1 locs1 ht hvm hw hB hz hk hS1 => ?_)
  obtain rfl := hw
  exact kk H1 locs1 ⟨by rw [← ht]; exact hB.1, hB.2.weaken (fun _ q _ h => hF q.1 h), hS1⟩
theorem xV_go {av : Array Value} (C : xC p s m args meth c cc nL own E A rt) (G : xG s E A ws H locs) (hr : va_Run p l e R s m args below meth c H locs cells slots 0 0 (F0 m pc ls st) rest (xqV E (va_A ws H.size) ws' av) (va_A ws H.size))
    (kk : ∀ (H : Heap) (locs : List Loc), xG s E A ws' H locs → W p l e R s m args below meth c H locs cells slots Q (F0 m (pc + 3) ls rest)) : W p l e R s m args below meth c H locs cells slots Q (F0 m pc ls st) := by
  have hF := xfree G.2.1 G.2.2 C.2.2.2.2.2.2.2.1
  refine va_callv hr G.2.2 (fun q _ h => hF q h) hF (fun u t H1 locs1 ht hvm hw hB hz hk hS1 => ?_)
  exact kk H1 locs1 ⟨by rw [← ht]; exact hB.1, hB.2.weaken (fun _ q _ h => hF q.1 h), hS1⟩
/-- a call of an instance method, of a static one -/
theorem xI_V {y : MethodName} {cc' : ByteArray} {nL' fr lo n idx q0 ci b : Nat} {rt' : Option FieldType} {As fs : List Value} {Cq : vw_C} {r : Int32}
    (C : xC p s m args meth c cc nL own E A rt) (G : xG s E A ws H locs) (K : xI l E y cc' nL' rt' fr lo (.ref b :: As) ws ws' r) (Mt : xM y Cq.1 cc' nL' rt' n) (hl : xLk own idx y)
    (he : ws[q0]? = some (b, .inr (ci, fs))) (hc : vwCl[ci]? = some Cq) (hR : fr + 1 ≤ R.frames ∧ 8 + (nL' + 11) + lo ≤ R.locals) (hn : As.length = n) (hsz : ls.size = nL) (hst : st = As.reverse ++ .ref b :: rest) (hW : (rest.map fun v => v.category).sum ≤ 8) (hf : cells ≤ R.cells ∧ slots ≤ R.slots) (hdg : decode cc pc = .ok (.invokevirtual idx, 3))
    (kk : xNr rt' r → ∀ (H : Heap) (locs : List Loc), xG s E A ws' H locs → W p l e R s m args below meth c H locs cells slots Q (F0 m (pc + 3) ls (.int r :: rest))) : W p l e R s m args below meth c H locs cells slots Q (F0 m pc ls st) :=
  xI_go C G (xrunV C G (K H.size) Mt hl he hc hR hn hsz hst hW hf hdg) kk
theorem xL_V {y : MethodName} {cc' : ByteArray} {nL' fr lo n idx q0 ci b : Nat} {rt' : Option FieldType} {As fs : List Value} {Cq : vw_C} {r : Int64}
    (C : xC p s m args meth c cc nL own E A rt) (G : xG s E A ws H locs) (K : xL l E y cc' nL' rt' fr lo (.ref b :: As) ws ws' r) (Mt : xM y Cq.1 cc' nL' rt' n) (hl : xLk own idx y)
    (he : ws[q0]? = some (b, .inr (ci, fs))) (hc : vwCl[ci]? = some Cq) (hR : fr + 1 ≤ R.frames ∧ 8 + (nL' + 11) + lo ≤ R.locals) (hn : As.length = n) (hsz : ls.size = nL) (hst : st = As.reverse ++ .ref b :: rest) (hW : (rest.map fun v => v.category).sum ≤ 8) (hf : cells ≤ R.cells ∧ slots ≤ R.slots) (hdg : decode cc pc = .ok (.invokevirtual idx, 3))
    (kk : ∀ (H : Heap) (locs : List Loc), xG s E A ws' H locs → W p l e R s m args below meth c H locs cells slots Q (F0 m (pc + 3) ls (.long r :: rest))) : W p l e R s m args below meth c H locs cells slots Q (F0 m pc ls st) :=
  xL_go C G (xrunV C G (K H.size) Mt hl he hc hR hn hsz hst hW hf hdg) kk
theorem xV_V {y : MethodName} {cc' : ByteArray} {nL' fr lo n idx q0 ci b : Nat} {rt' : Option FieldType} {As fs : List Value} {Cq : vw_C}
    (C : xC p s m args meth c cc nL own E A rt) (G : xG s E A ws H locs) (K : xV l E y cc' nL' rt' fr lo (.ref b :: As) ws ws') (Mt : xM y Cq.1 cc' nL' rt' n) (hl : xLk own idx y)
    (he : ws[q0]? = some (b, .inr (ci, fs))) (hc : vwCl[ci]? = some Cq) (hR : fr + 1 ≤ R.frames ∧ 8 + (nL' + 11) + lo ≤ R.locals) (hn : As.length = n) (hsz : ls.size = nL) (hst : st = As.reverse ++ .ref b :: rest) (hW : (rest.map fun v => v.category).sum ≤ 8) (hf : cells ≤ R.cells ∧ slots ≤ R.slots) (hdg : decode cc pc = .ok (.invokevirtual idx, 3))
    (kk : ∀ (H : Heap) (locs : List Loc), xG s E A ws' H locs → W p l e R s m args below meth c H locs cells slots Q (F0 m (pc + 3) ls rest)) : W p l e R s m args below meth c H locs cells slots Q (F0 m pc ls st) :=
  xV_go C G (xrunV C G (K H.size) Mt hl he hc hR hn hsz hst hW hf hdg) kk
theorem xI_S {y : MethodName} {cc' : ByteArray} {nL' fr lo n idx : Nat} {rt' : Option FieldType} {As : List Value} {r : Int32}
    (C : xC p s m args meth c cc nL own E A rt) (G : xG s E A ws H locs) (K : xI l E y cc' nL' rt' fr lo As ws ws' r) (Mt : xMS y cc' nL' rt' n) (hl : xLk own idx y)
    (hR : fr + 1 ≤ R.frames ∧ 8 + (nL' + 11) + lo ≤ R.locals) (hn : As.length = n) (hsz : ls.size = nL) (hst : st = As.reverse ++ rest) (hW : (rest.map fun v => v.category).sum ≤ 8) (hf : cells ≤ R.cells ∧ slots ≤ R.slots) (hdg : decode cc pc = .ok (.invokestatic idx, 3))
    (kk : xNr rt' r → ∀ (H : Heap) (locs : List Loc), xG s E A ws' H locs → W p l e R s m args below meth c H locs cells slots Q (F0 m (pc + 3) ls (.int r :: rest))) : W p l e R s m args below meth c H locs cells slots Q (F0 m pc ls st) :=
  xI_go C G (xrunS C G (K H.size) Mt hl hR hn hsz hst hW hf hdg) kk
theorem xL_S {y : MethodName} {cc' : ByteArray} {nL' fr lo n idx : Nat} {rt' : Option FieldType} {As : List Value} {r : Int64}
    (C : xC p s m args meth c cc nL own E A rt) (G : xG s E A ws H locs) (K : xL l E y cc' nL' rt' fr lo As ws ws' r) (Mt : xMS y cc' nL' rt' n) (hl : xLk own idx y)
    (hR : fr + 1 ≤ R.frames ∧ 8 + (nL' + 11) + lo ≤ R.locals) (hn : As.length = n) (hsz : ls.size = nL) (hst : st = As.reverse ++ rest) (hW : (rest.map fun v => v.category).sum ≤ 8) (hf : cells ≤ R.cells ∧ slots ≤ R.slots) (hdg : decode cc pc = .ok (.invokestatic idx, 3))
    (kk : ∀ (H : Heap) (locs : List Loc), xG s E A ws' H locs → W p l e R s m args below meth c H locs cells slots Q (F0 m (pc + 3) ls (.long r :: rest))) : W p l e R s m args below meth c H locs cells slots Q (F0 m pc ls st) :=
  xL_go C G (xrunS C G (K H.size) Mt hl hR hn hsz hst hW hf hdg) kk
/-- ends -/
theorem xI_ret {ty : FieldType} {r : Int32} (C : xC p s m args meth c cc nL own E A (some ty)) (G : xG s E A ws' H locs) (hn : narrow ty (.int r) = .int r) (hdg : decode cc pc = .ok (.ireturn, 1)) : W p l e R s m args below meth c H locs 0 0 (MQ below (xqI E A ws' (some ty) r) args s 0 0 A) (F0 m pc ls [.int r]) := by
  obtain ⟨hx, hb, hml, hown, hts, hN, hK, hA, hlocks, hr, hZ⟩ := C
  obtain ⟨hP, hD, hS⟩ := G
  exact W.zret hx hb hr hn (fun t ht hW => ⟨⟨r, (), rfl, ⟨rfl, fun ty h => by cases h; exact hn⟩, ⟨by rw [ht]; exact hP, hD⟩⟩, hS.F ht⟩) hS.2.2 hdg
theorem xL_ret {r : Int64} (C : xC p s m args meth c cc nL own E A (some .long)) (G : xG s E A ws' H locs) (hdg : decode cc pc = .ok (.lreturn, 1)) : W p l e R s m args below meth c H locs 0 0 (MQ below (xqL E A ws' r) args s 0 0 A) (F0 m pc ls [.long r]) := by
  obtain ⟨hx, hb, hml, hown, hts, hN, hK, hA, hlocks, hr, hZ⟩ := C
  obtain ⟨hP, hD, hS⟩ := G
  exact W.lret hx hb hr (fun t ht hW => ⟨⟨r, (), rfl, rfl, ⟨by rw [ht]; exact hP, hD⟩⟩, hS.F ht⟩) hS.2.2 hdg
theorem xV_ret (C : xC p s m args meth c cc nL own E A none) (G : xG s E A ws' H locs) (hdg : decode cc pc = .ok (.return_, 1)) : W p l e R s m args below meth c H locs 0 0 (MQ below (xqV E A ws') args s 0 0 A) (F0 m pc ls []) := by
  obtain ⟨hx, hb, hml, hown, hts, hN, hK, hA, hlocks, hr, hZ⟩ := C
  obtain ⟨hP, hD, hS⟩ := G
  exact W.vret hx hb hr (fun t ht hW => ⟨⟨(), rfl, trivial, ⟨by rw [ht]; exact hP, hD⟩⟩, hS.F ht⟩) hS.2.2 hdg
end XCalls
