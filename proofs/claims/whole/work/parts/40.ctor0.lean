/-! constructors: contracts of methods that make cells -/
abbrev xRc (fr lo mc ms : Nat) : Room := { frames := fr, cells := mc, slots := ms, locals := lo }
def xN (l : Launch) (E : xE) (y : MethodName) (cc : ByteArray) (nL fr lo mc ms : Nat) (av : List Value) (ws : va_W) (post : (Nat → Nat) → Prop) (ws' : (Nat → Nat) → va_W) : Prop := ∀ sz : Nat, Met l y (.code y cc nL none :: tG) (xRc fr lo mc ms) (xPre E av ws sz) (va_Qv post (fun ad t => xWd E (va_A ws sz) (ws' ad) t) (va_A ws sz)) mc ms (va_A ws sz)
theorem xN_of {l : Launch} {E : xE} {y : MethodName} {cc : ByteArray} {nL fr lo mc ms : Nat} {av : List Value} {ws : va_W} {post : (Nat → Nat) → Prop} {ws' : (Nat → Nat) → va_W} (hy : plainName y.cls = true) (hn : (lg_sl av).length ≤ nL) (hi : y.name = "<init>")
    (body : ∀ (p : Program) (e : Env) (s : State) (m : MethodId) (args : Array Value) (below : List Frame) (meth : Method) (c : Code) (A : Nat → Prop), xC p s m args meth c cc nL y.cls E A none → meth.name = "<init>" → ∀ ls : Array Slot, lv_has ls nL (lv_args 0 av) → xG s E A ws s.heap [] → W p l e (xRc fr lo mc ms) s m args below meth c s.heap [] 0 0 (MQ below (va_Qv post (fun ad t => xWd E A (ws' ad) t) A) args s mc ms A) (F0 m 0 ls [])) :
    xN l E y cc nL fr lo mc ms av ws post ws' := by
  intro sz
  refine Met.ofW (cc := cc) (maxL := nL) (ret := none) hy rfl ?_
  intro p e s m args below meth c s₁ B hml hv
  obtain ⟨rfl, hsz, hP, hK, hD, hN, hZ⟩ := hv
  subst hsz
  have hts := atoms_spec (ws := Cond.code y cc nL none :: tG) B.pre
  have hin : meth.name = "<init>" := by rw [(name_of_methodNamed B.named B.method).1, hi]
  rw [lg_entry_eq]
  exact body p e s m _ below meth c _ ⟨B.exec, B.bytes, hml, findClass_of_methodNamed B.named, fun w hw => hts w (List.mem_cons_of_mem _ hw), hN, hK, fun q h => Or.inr h, B.notSynchronized, B.returns, hZ⟩ hin _ (lv_entry av hn) ⟨hP, hD.self, va_S.rf⟩
/-- a callee's cells at the end of the caller's world -/
theorem xjoin {A : Nat → Prop} {D : va_G} {cl : List vw_C} {wr wc w1 : va_W} {H H1 : Heap} (hP : va_P D cl (wr ++ wc) H) (hD : va_D A (wr ++ wc)) (hk : ∀ q : Nat, q < H.size → ¬ va_A wc H.size q → H1[q]? = H[q]?) (hF : ∀ q, va_A wc H.size q → A q) (hP1 : va_P D cl w1 H1) (hD1 : va_D (va_A wc H.size) w1) : va_P D cl (wr ++ w1) H1 ∧ va_D A (wr ++ w1) := by
  have hl : ∀ (k : Nat) (q : Nat × va_E), wr[k]? = some q → (wr ++ wc)[k]? = some q := fun k q h => by
    rw [List.getElem?_append_left (List.getElem?_eq_some_iff.mp h).1]; exact h
  have hr : ∀ (k : Nat) (q : Nat × va_E), wc[k]? = some q → (wr ++ wc)[wr.length + k]? = some q := fun k q h => by
    rw [List.getElem?_append_right (by omega), Nat.add_sub_cancel_left]; exact h
  have apart : ∀ (k : Nat) (q : Nat × va_E), wr[k]? = some q → q.1 < H.size ∧ ¬ va_A wc H.size q.1 := by
    intro k q h
    have hlt := (hP k q (hl k q h)).lt
    refine ⟨hlt, fun ha => ?_⟩
    rcases ha with ⟨j, e, hj⟩ | ha
    · have h1 := hD.1 k (wr.length + j) q (q.1, e) (hl k q h) (hr j _ hj) rfl
      have h2 := (List.getElem?_eq_some_iff.mp h).1
      omega
    · omega
  refine ⟨va_P.app (fun k q h => ((hP k q (hl k q h)).kept (hk q.1 (apart k q h).1 (apart k q h).2))) hP1, ?_⟩
  refine va_D.app (⟨fun i j x y hi hj hxy => hD.1 i j x y (hl i x hi) (hl j y hj) hxy, fun k q h => hD.2 k q (hl k q h)⟩) (hD1.weaken (fun _ q _ h => hF q.1 h)) (fun i j x y hi hj hxy => ?_)
  exact (apart i x hi).2 (by rw [hxy]; exact hD1.2 j y hj)
theorem xfreeR {A : Nat → Prop} {wr wc : va_W} {H0 H : Heap} {locs : List Loc} (hD : va_D A (wr ++ wc)) (hS : va_S A H0 H locs) (hA : ∀ q : Nat, H0.size ≤ q → A q) : ∀ q, va_A wc H.size q → A q := by
  intro q h
  rcases h with ⟨k, e, h⟩ | h
  · exact hD.2 (wr.length + k) (q, e) (by rw [List.getElem?_append_right (by omega), Nat.add_sub_cancel_left]; exact h)
  · exact hA q (Nat.le_trans hS.1 h)
theorem va_P.right {D : va_G} {cl : List vw_C} {wr wc : va_W} {H : Heap} (h : va_P D cl (wr ++ wc) H) : va_P D cl wc H := fun k q hk => h (wr.length + k) q (by rw [List.getElem?_append_right (by omega), Nat.add_sub_cancel_left]; exact hk)
theorem va_D.right {A : Nat → Prop} {wr wc : va_W} (h : va_D A (wr ++ wc)) : va_D A wc := by
  have hr : ∀ (k : Nat) (q : Nat × va_E), wc[k]? = some q → (wr ++ wc)[wr.length + k]? = some q := fun k q h => by
    rw [List.getElem?_append_right (by omega), Nat.add_sub_cancel_left]; exact h
  refine ⟨fun i j x y hi hj hxy => ?_, fun k q hk => h.2 _ q (hr k q hk)⟩
  have := h.1 _ _ x y (hr i x hi) (hr j y hj) hxy
  omega
def xMI (y : MethodName) (cc : ByteArray) (nL n : Nat) : Prop := Cond.instanceMethod y ∈ tG ∧ Cond.initialized y.cls ∈ tG ∧ Cond.code y cc nL none ∈ tG ∧ y.name = "<init>" ∧ y.cls ≠ "java/lang/invoke/MethodHandle" ∧ y.cls ≠ "java/lang/invoke/VarHandle" ∧ (parseMethodDescriptor y.desc).map (fun d => d.parameters.length) = some n
/-- a final field, in its class's constructor -/
def xFf (own : String) (idx ci k : Nat) (ty : FieldType) : Prop := ∃ (Cn : String) (T : u_T) (N : Nat) (ty0 : Nat → FieldType), vwCl[ci]? = some (Cn, T, N) ∧ k < N ∧ (∀ w ∈ u_ws Cn T N, w ∈ tG) ∧ Cond.fieldLink own idx (T k).1 (T k).2.1 (T k).2.2.1 ∈ tG ∧ (∀ k, k < N → parseFieldDescriptor (T k).2.2.1 = some (ty0 k)) ∧ (∀ a, a < N → ∀ b, b < N → a ≠ b → (T a).2.1 ≠ (T b).2.1) ∧ (T k).2.2.2 = true ∧ (T k).1 = own ∧ parseFieldDescriptor (T k).2.2.1 = some ty
/-- a class of which an object is made -/
def xCl (own : String) (idx ci : Nat) (fs : List Value) (n : Nat) : Prop := ∃ (Cn : String) (T : u_T) (ty : Nat → FieldType), vwCl[ci]? = some (Cn, T, n) ∧ (∀ w ∈ u_ws Cn T n, w ∈ tG) ∧ (∀ k, k < n → parseFieldDescriptor (T k).2.2.1 = some (ty k)) ∧ Cond.classLink own idx Cn ∈ tG ∧ Cond.instantiable Cn n ∈ tG ∧ Cond.initialized Cn ∈ tG ∧ ∀ j, j < n → defaultValue (ty j) = vp_V fs j
section XMake
variable {p : Program} {l : Launch} {e : Env} {R : Room} {s : State} {m : MethodId} {args : Array Value} {below : List Frame} {meth : Method} {c : Code} {H : Heap} {locs : List Loc} {cells slots : Nat} {Q : State → Prop} {cc : ByteArray} {nL : Nat} {own : String} {E : xE} {A : Nat → Prop} {rt : Option FieldType} {ws wr wc : va_W} {pc : Nat} {ls : Array Slot} {rest st : List Value}
theorem xN_ret {mc ms : Nat} {post : (Nat → Nat) → Prop} {ws' : (Nat → Nat) → va_W} (ad : Nat → Nat) (C : xC p s m args meth c cc nL own E A none) (G : xG s E A (ws' ad) H locs) (hp : post ad) (hdg : decode cc pc = .ok (.return_, 1)) : W p l e R s m args below meth c H locs mc ms (MQ below (va_Qv post (fun ad t => xWd E A (ws' ad) t) A) args s mc ms A) (F0 m pc ls []) := by
  obtain ⟨hx, hb, hml, hown, hts, hN, hK, hA, hlocks, hr, hZ⟩ := C
  obtain ⟨hP, hD, hS⟩ := G
  exact W.vret hx hb hr (fun t ht hW => ⟨⟨ad, rfl, hp, ⟨by rw [ht]; exact hP, hD⟩⟩, hS.F ht⟩) hS.2.2 hdg
theorem xN_I {y : MethodName} {cc' : ByteArray} {nL' fr lo mc ms n idx b : Nat} {As : List Value} {post : (Nat → Nat) → Prop} {ws' : (Nat → Nat) → va_W} (wr : va_W)
    (C : xC p s m args meth c cc nL own E A rt) (G : xG s E A (wr ++ wc) H locs) (K : xN l E y cc' nL' fr lo mc ms (.ref b :: As) wc post ws') (Mt : xMI y cc' nL' n) (hl : xLk own idx y)
    (hR : fr + 1 ≤ R.frames ∧ 8 + (nL' + 11) + lo ≤ R.locals) (hn : As.length = n) (hsz : ls.size = nL) (hst : st = As.reverse ++ .ref b :: rest) (hW : (rest.map fun v => v.category).sum ≤ 8) (hf : cells + mc ≤ R.cells ∧ slots + ms ≤ R.slots) (hdg : decode cc pc = .ok (.invokespecial idx, 3))
    (kk : ∀ (ad : Nat → Nat), post ad → ∀ (H : Heap) (locs : List Loc), xG s E A (wr ++ ws' ad) H locs → W p l e R s m args below meth c H locs (cells + mc) (slots + ms) Q (F0 m (pc + 3) ls rest)) : W p l e R s m args below meth c H locs cells slots Q (F0 m pc ls st) := by
  obtain ⟨hx, hb, hml, hown, hts, hN, hK, hA, hlocks, hr, hZ⟩ := C
  obtain ⟨hP, hD, hS⟩ := G
  obtain ⟨h1, h3, h4, h5, h6, h7, h8⟩ := Mt
  have hF := xfreeR hD hS hA
  have hpre : PreS s H (xPre E (.ref b :: As) wc H.size) (.ref b :: As) := ⟨xPre_blind, fun U hU hW => ⟨rfl, by rw [hU], by rw [hU]; exact hP.right, va_K.moved hW.alike hK, hD.right.weaken (fun _ _ _ _ => trivial), tN_warm hW hN, xZ_call hZ hS hF hU hW⟩⟩
  have hG : GoodIn tG (Cond.code y cc' nL' none :: tG) := tG_good (fun w hw => by
    rcases List.mem_cons.mp hw with e | e
    · rw [e]; exact h4
    · exact e)
  have hrun : va_Run p l e R s m args below meth c H locs cells slots mc ms (F0 m pc ls st) rest (va_Qv post (fun ad t => xWd E (va_A wc H.size) (ws' ad) t) (va_A wc H.size) (Value.ref b :: As).toArray) (va_A wc H.size) := by
    rcases hl with hl | ⟨host, hl⟩
    · exact va_runI ⟨hx, hb, hml, hown, hts⟩ (K H.size) ⟨callB_of n hts hG rfl rfl rfl (hts _ h3) (hts _ hl) ⟨h6, h7, h8⟩ hR, h5, hts _ h1⟩ hpre rfl hn hsz hst (by simpa using hW) hdg hf
    · exact va_runIN ⟨hx, hb, hml, hown, hts⟩ (K H.size) ⟨va_cnB n hts hG rfl rfl rfl (hN _ hl) (hts _ h3) ⟨h6, h7, h8⟩ hR, h5, hts _ h1⟩ hpre rfl hn hsz hst (by simpa using hW) hdg hf
  refine va_callv hrun hS (fun q _ h => hF q h) hF (fun u t H1 locs1 ht hvm hw hB hz hk hS1 => ?_)
  have hP1 := hB.1
  rw [ht] at hP1
  obtain ⟨h9, h10⟩ := xjoin hP hD hk hF hP1 hB.2
  exact kk u hw H1 locs1 ⟨h9, h10, hS1⟩
theorem x_new {idx ci n : Nat} {fs : List Value} (C : xC p s m args meth c cc nL own E A rt) (G : xG s E A ws H locs) (F : xCl own idx ci fs n) (hf : cells + 1 ≤ R.cells ∧ slots + n ≤ R.slots) (hdg : decode cc pc = .ok (.new idx, 3))
    (kk : ∀ (q : Nat) (H : Heap), xG s E A (ws ++ [(q, .inr (ci, fs))]) H locs → W p l e R s m args below meth c H locs (cells + 1) (slots + n) Q (F0 m (pc + 3) ls (.ref q :: rest))) : W p l e R s m args below meth c H locs cells slots Q (F0 m pc ls rest) := by
  obtain ⟨hx, hb, hml, hown, hts, hN, hK, hA, hlocks, hr, hZ⟩ := C
  obtain ⟨hP, hD, hS⟩ := G
  obtain ⟨Cn, T, ty, f1, f2, f3, f4, f5, f6, f7⟩ := F
  exact va_new hx hb hts f2 ty f3 hown (hts _ f4) (hts _ f5) (hts _ f6) hK hP hD hS hA f1 f7 hf.1 hf.2 hdg (fun q H1 h1 h2 h3 => kk q H1 ⟨h1, h2, h3⟩)
theorem x_cls {ty : FieldType} {c1 c2 : ClassId} (h1 : va_RA s c1 ty) (h2 : va_RA s c2 ty) : c1 = c2 := by
  cases ty with
  | object C =>
    obtain ⟨_, _, _, _, _, a4⟩ := h1
    obtain ⟨_, _, _, _, _, b4⟩ := h2
    exact Option.some.inj (a4.symm.trans b4)
  | _ => exact Option.some.inj (Eq.trans (Eq.symm h1) h2)
theorem x_newI {n : Int32} {N : Nat} (C : xC p s m args meth c cc nL own E A rt) (G : xG s E A ws H locs) (harr : Cond.arrayClass .int ∈ tG) (hn : ¬ n < 0) (hN : n.toNatClampNeg = N) (hbytes : N * componentBytes .int ≤ 536870912) (hf : cells + 1 ≤ R.cells ∧ slots + N ≤ R.slots) (hdg : decode cc pc = .ok (.newarray .int, 2))
    (kk : ∀ (q : Nat) (H : Heap), xG s E A (ws ++ [(q, .inl (E.2.1 1, N, .inl (fun _ => 0)))]) H locs → W p l e R s m args below meth c H locs (cells + 1) (slots + N) Q (F0 m (pc + 2) ls (.ref q :: rest))) : W p l e R s m args below meth c H locs cells slots Q (F0 m pc ls (.int n :: rest)) := by
  obtain ⟨hx, hb, hml, hown, hts, hN', hK, hA, hlocks, hr, hZ⟩ := C
  obtain ⟨hP, hD, hS⟩ := G
  refine va_newa (atype := .int) (ty := .int) (a0 := (N, .inl (fun _ => 0))) hx hb (hts _ harr) rfl hK hP hD hS hA (fun _ => rfl) hn hN hbytes hf.1 hf.2 hdg (fun q cA H1 h0 h1 h2 h3 => ?_)
  have e : cA = E.2.1 1 := x_cls (h0.2 4 _ rfl).2 (hK.2 1 _ rfl).2
  subst e
  exact kk q H1 ⟨h1, h2, h3⟩
theorem x_newB {n : Int32} {N : Nat} (C : xC p s m args meth c cc nL own E A rt) (G : xG s E A ws H locs) (harr : Cond.arrayClass .byte ∈ tG) (hn : ¬ n < 0) (hN : n.toNatClampNeg = N) (hbytes : N * componentBytes .byte ≤ 536870912) (hf : cells + 1 ≤ R.cells ∧ slots + N ≤ R.slots) (hdg : decode cc pc = .ok (.newarray .byte, 2))
    (kk : ∀ (q : Nat) (H : Heap), xG s E A (ws ++ [(q, .inl (E.2.1 0, N, .inl (fun _ => 0)))]) H locs → W p l e R s m args below meth c H locs (cells + 1) (slots + N) Q (F0 m (pc + 2) ls (.ref q :: rest))) : W p l e R s m args below meth c H locs cells slots Q (F0 m pc ls (.int n :: rest)) := by
  obtain ⟨hx, hb, hml, hown, hts, hN', hK, hA, hlocks, hr, hZ⟩ := C
  obtain ⟨hP, hD, hS⟩ := G
  refine va_newa (atype := .byte) (ty := .byte) (a0 := (N, .inl (fun _ => 0))) hx hb (hts _ harr) rfl hK hP hD hS hA (fun _ => rfl) hn hN hbytes hf.1 hf.2 hdg (fun q cA H1 h0 h1 h2 h3 => ?_)
  have e : cA = E.2.1 0 := x_cls (h0.2 4 _ rfl).2 (hK.2 0 _ rfl).2
  subst e
  exact kk q H1 ⟨h1, h2, h3⟩
theorem x_newL {n : Int32} {N : Nat} (C : xC p s m args meth c cc nL own E A rt) (G : xG s E A ws H locs) (harr : Cond.arrayClass .long ∈ tG) (hn : ¬ n < 0) (hN : n.toNatClampNeg = N) (hbytes : N * componentBytes .long ≤ 536870912) (hf : cells + 1 ≤ R.cells ∧ slots + N ≤ R.slots) (hdg : decode cc pc = .ok (.newarray .long, 2))
    (kk : ∀ (q : Nat) (H : Heap), xG s E A (ws ++ [(q, .inl (E.2.1 2, N, .inr (.inl (fun _ => 0))))]) H locs → W p l e R s m args below meth c H locs (cells + 1) (slots + N) Q (F0 m (pc + 2) ls (.ref q :: rest))) : W p l e R s m args below meth c H locs cells slots Q (F0 m pc ls (.int n :: rest)) := by
  obtain ⟨hx, hb, hml, hown, hts, hN', hK, hA, hlocks, hr, hZ⟩ := C
  obtain ⟨hP, hD, hS⟩ := G
  refine va_newa (atype := .long) (ty := .long) (a0 := (N, .inr (.inl (fun _ => 0)))) hx hb (hts _ harr) rfl hK hP hD hS hA (fun _ => rfl) hn hN hbytes hf.1 hf.2 hdg (fun q cA H1 h0 h1 h2 h3 => ?_)
  have e : cA = E.2.1 2 := x_cls (h0.2 4 _ rfl).2 (hK.2 2 _ rfl).2
  subst e
  exact kk q H1 ⟨h1, h2, h3⟩
theorem x_putF {idx ci k q0 a : Nat} {ty : FieldType} {fs : List Value} {v : Value} {ws' : va_W} (C : xC p s m args meth c cc nL own E A rt) (hin : meth.name = "<init>") (G : xG s E A ws H locs) (F : xFf own idx ci k ty) (he : ws[q0]? = some (a, .inr (ci, fs))) (hn : narrow ty v = v) (hfit : fits ty v = true) (hk : k < fs.length) (hw : ws.set q0 (a, .inr (ci, fs.set k v)) = ws') (hdg : decode cc pc = .ok (.putfield idx, 3))
    (kk : ∀ (H : Heap) (locs : List Loc), xG s E A ws' H locs → W p l e R s m args below meth c H locs cells slots Q (F0 m (pc + 3) ls rest)) : W p l e R s m args below meth c H locs cells slots Q (F0 m pc ls (v :: .ref a :: rest)) := by
  obtain ⟨hx, hb, hml, hown, hts, hN, hK, hA, hlocks, hr, hZ⟩ := C
  obtain ⟨hP, hD, hS⟩ := G
  obtain ⟨Cn, T, N, ty0, f1, f2, f3, f4, f5, f6, f7, f8, f9⟩ := F
  subst hw
  exact va_putF hx hb hts f3 ty0 f5 f6 hown hK hP hD hS q0 he f1 k f2 (hts _ f4) (fun _ h => h) f7 hin f8 f9 hn hfit hk hdg (fun H1 locs1 h1 h2 h3 => kk H1 locs1 ⟨h1, h2, h3⟩)
theorem x_newQ {idx : Nat} {n : Int32} {N : Nat} (C : xC p s m args meth c cc nL own E A rt) (G : xG s E A ws H locs) (hcl : Cond.classLink own idx RX4 ∈ tG) (hn : ¬ n < 0) (hN : n.toNatClampNeg = N) (hbytes : N * 4 ≤ 536870912) (hf : cells + 1 ≤ R.cells ∧ slots + N ≤ R.slots) (hdg : decode cc pc = .ok (.anewarray idx, 3))
    (kk : ∀ (q : Nat) (H : Heap), xG s E A (ws ++ [(q, .inl (E.2.1 3, N, .inr (.inr (.inr (.inr (fun _ => none))))))]) H locs → W p l e R s m args below meth c H locs (cells + 1) (slots + N) Q (F0 m (pc + 3) ls (.ref q :: rest))) : W p l e R s m args below meth c H locs cells slots Q (F0 m pc ls (.int n :: rest)) := by
  obtain ⟨hx, hb, hml, hown, hts, hN', hK, hA, hlocks, hr, hZ⟩ := C
  obtain ⟨hP, hD, hS⟩ := G
  refine va_newq (C := "SpoonTable$Now") hx hb hown (hts _ hcl) hZ.2.2.2.2 hK hP hD hS hA hn hN hbytes hf.1 hf.2 hdg (fun q cA H1 h0 h1 h2 h3 => ?_)
  have e : cA = E.2.1 3 := x_cls (h0.2 4 _ rfl).2 (hK.2 3 _ rfl).2
  subst e
  exact kk q H1 ⟨h1, h2, h3⟩
theorem x_astq {q0 qk ci a n v : Nat} {vs : List Value} {f : Nat → Option Nat} {i : Int32} {r : vw_C} {ws' : va_W} (C : xC p s m args meth c cc nL own E A rt) (G : xG s E A ws H locs) (he : ws[q0]? = some (a, .inl (E.2.1 3, n, .inr (.inr (.inr (.inr f)))))) (hv : ws[qk]? = some (v, .inr (ci, vs))) (hc : vwCl[ci]? = some r) (hin : vp_in i n) (hr : r.1 = "SpoonTable$Now") (hw : ws.set q0 (a, .inl (E.2.1 3, n, .inr (.inr (.inr (.inr (va_up f i.toNatClampNeg (some v))))))) = ws') (hdg : decode cc pc = .ok (.aastore, 1))
    (kk : ∀ (H : Heap) (locs : List Loc), xG s E A ws' H locs → W p l e R s m args below meth c H locs cells slots Q (F0 m (pc + 1) ls rest)) : W p l e R s m args below meth c H locs cells slots Q (F0 m pc ls (.ref v :: .int i :: .ref a :: rest)) := by
  subst hw
  exact va_astq C.1 C.2.1 C.2.2.2.2.2.2.1 G.1 G.2.1 G.2.2 q0 3 qk ci he (by rw [hr]; rfl) hv hc hin hdg (fun H1 locs1 h1 h2 h3 => kk H1 locs1 ⟨h1, h2, h3⟩)
theorem xG_sub {ws' : va_W} (G : xG s E A ws H locs) (is : List Nat) (hn : va_nd is = true) (h : is.map (fun i => ws[i]?) = ws'.map some) : xG s E A ws' H locs := by
  refine ⟨fun k q hk => ?_, G.2.1.sub is hn h, G.2.2⟩
  have h1 : (is.map (fun i => ws[i]?))[k]? = some (some q) := by rw [h, List.getElem?_map, hk]; rfl
  rw [List.getElem?_map] at h1
  cases hi : is[k]? with
  | none => rw [hi] at h1; cases h1
  | some i => rw [hi] at h1; exact G.1 i q (Option.some.inj h1)
end XMake
