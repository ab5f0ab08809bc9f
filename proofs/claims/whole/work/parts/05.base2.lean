/-- a field as a class's pool entry names it -/
def xF (own : String) (idx ci k : Nat) : Prop := ∃ (Cn : String) (T : u_T) (N : Nat), vwCl[ci]? = some (Cn, T, N) ∧ k < N ∧ (∀ w ∈ u_ws Cn T N, w ∈ tG) ∧ (Cond.fieldLink own idx (T k).1 (T k).2.1 (T k).2.2.1 ∈ tG ∨ ∃ host, Cond.fieldLinkNest own idx (T k).1 (T k).2.1 (T k).2.2.1 host ∈ tN)
def xFp (own : String) (idx ci k : Nat) (ty : FieldType) : Prop := ∃ (Cn : String) (T : u_T) (N : Nat) (ty0 : Nat → FieldType), vwCl[ci]? = some (Cn, T, N) ∧ k < N ∧ (∀ w ∈ u_ws Cn T N, w ∈ tG) ∧ (Cond.fieldLink own idx (T k).1 (T k).2.1 (T k).2.2.1 ∈ tG ∨ ∃ host, Cond.fieldLinkNest own idx (T k).1 (T k).2.1 (T k).2.2.1 host ∈ tN) ∧ (∀ k, k < N → parseFieldDescriptor (T k).2.2.1 = some (ty0 k)) ∧ (∀ a, a < N → ∀ b, b < N → a ≠ b → (T a).2.1 ≠ (T b).2.1) ∧ (T k).2.2.2 = false ∧ parseFieldDescriptor (T k).2.2.1 = some ty
theorem xFp.g {own : String} {idx ci k : Nat} {ty : FieldType} (h : xFp own idx ci k ty) : xF own idx ci k := by
  obtain ⟨Cn, T, N, ty0, h1, h2, h3, h4, -⟩ := h
  exact ⟨Cn, T, N, h1, h2, h3, h4⟩
section XRows
variable {p : Program} {l : Launch} {e : Env} {R : Room} {s : State} {m : MethodId} {args : Array Value} {below : List Frame} {meth : Method} {c : Code} {H : Heap} {locs : List Loc} {cells slots : Nat} {Q : State → Prop} {cc : ByteArray} {nL : Nat} {own : String} {E : xE} {A : Nat → Prop} {rt : Option FieldType} {ws ws' : va_W} {pc : Nat} {ls : Array Slot} {rest st : List Value}
theorem x_get {idx ci k q0 a : Nat} {fs : List Value} {v : Value} (C : xC p s m args meth c cc nL own E A rt) (G : xG s E A ws H locs) (F : xF own idx ci k) (he : ws[q0]? = some (a, .inr (ci, fs))) (hv : fs[k]? = some v) (hdg : decode cc pc = .ok (.getfield idx, 3))
    (kk : W p l e R s m args below meth c H locs cells slots Q (F0 m (pc + 3) ls (v :: rest))) : W p l e R s m args below meth c H locs cells slots Q (F0 m pc ls (.ref a :: rest)) := by
  obtain ⟨hx, hb, hml, hown, hts, hN, hK, hA, hlocks, hr, hZ⟩ := C
  obtain ⟨Cn, T, N, f1, f2, f3, f4⟩ := F
  rcases f4 with f4 | ⟨host, f4⟩
  · exact va_get hx hb hts f3 hown hK G.1 q0 he f1 k f2 (hts _ f4) (fun _ h => h) hv hdg kk
  · exact va_getN hx hb hts f3 hown hK G.1 q0 he f1 k f2 (va_Nw.use (tN_on f4) (hN _ f4)) (fun _ h => h) hv hdg kk
theorem x_put {idx ci k q0 a : Nat} {ty : FieldType} {fs : List Value} {v : Value} (C : xC p s m args meth c cc nL own E A rt) (G : xG s E A ws H locs) (F : xFp own idx ci k ty) (he : ws[q0]? = some (a, .inr (ci, fs))) (hn : narrow ty v = v) (hfit : fits ty v = true) (hk : k < fs.length) (hw : ws.set q0 (a, .inr (ci, fs.set k v)) = ws') (hdg : decode cc pc = .ok (.putfield idx, 3))
    (kk : ∀ (H : Heap) (locs : List Loc), xG s E A ws' H locs → W p l e R s m args below meth c H locs cells slots Q (F0 m (pc + 3) ls rest)) : W p l e R s m args below meth c H locs cells slots Q (F0 m pc ls (v :: .ref a :: rest)) := by
  obtain ⟨hx, hb, hml, hown, hts, hN, hK, hA, hlocks, hr, hZ⟩ := C
  obtain ⟨hP, hD, hS⟩ := G
  obtain ⟨Cn, T, N, ty0, f1, f2, f3, f4, f5, f6, f7, f8⟩ := F
  subst hw
  rcases f4 with f4 | ⟨host, f4⟩
  · exact va_put hx hb hts f3 ty0 f5 f6 hown hK hP hD hS q0 he f1 k f2 (hts _ f4) (fun _ h => h) f7 f8 hn hfit hk hdg (fun H1 locs1 h1 h2 h3 => kk H1 locs1 ⟨h1, h2, h3⟩)
  · exact va_putN hx hb hts f3 ty0 f5 f6 hown hK hP hD hS q0 he f1 k f2 (va_Nw.use (tN_on f4) (hN _ f4)) (fun _ h => h) f7 f8 hn hfit hk hdg (fun H1 locs1 h1 h2 h3 => kk H1 locs1 ⟨h1, h2, h3⟩)
theorem x_iald {q0 a n : Nat} {f : Nat → Int32} {i : Int32} (C : xC p s m args meth c cc nL own E A rt) (G : xG s E A ws H locs) (he : ws[q0]? = some (a, .inl (E.2.1 1, n, .inl f))) (hin : vp_in i n) (hdg : decode cc pc = .ok (.iaload, 1))
    (kk : W p l e R s m args below meth c H locs cells slots Q (F0 m (pc + 1) ls (.int (f i.toNatClampNeg) :: rest))) : W p l e R s m args below meth c H locs cells slots Q (F0 m pc ls (.int i :: .ref a :: rest)) :=
  va_iald C.1 C.2.1 C.2.2.2.2.2.2.1 G.1 q0 1 he rfl hin hdg kk
theorem x_bald {q0 a n : Nat} {f : Nat → Int32} {i : Int32} (C : xC p s m args meth c cc nL own E A rt) (G : xG s E A ws H locs) (he : ws[q0]? = some (a, .inl (E.2.1 0, n, .inl f))) (hin : vp_in i n) (hdg : decode cc pc = .ok (.baload, 1))
    (kk : W p l e R s m args below meth c H locs cells slots Q (F0 m (pc + 1) ls (.int (f i.toNatClampNeg) :: rest))) : W p l e R s m args below meth c H locs cells slots Q (F0 m pc ls (.int i :: .ref a :: rest)) :=
  va_bald C.1 C.2.1 C.2.2.2.2.2.2.1 G.1 q0 0 he rfl hin hdg kk
theorem x_lald {q0 a n : Nat} {f : Nat → Int64} {i : Int32} (C : xC p s m args meth c cc nL own E A rt) (G : xG s E A ws H locs) (he : ws[q0]? = some (a, .inl (E.2.1 2, n, .inr (.inl f)))) (hin : vp_in i n) (hdg : decode cc pc = .ok (.laload, 1))
    (kk : W p l e R s m args below meth c H locs cells slots Q (F0 m (pc + 1) ls (.long (f i.toNatClampNeg) :: rest))) : W p l e R s m args below meth c H locs cells slots Q (F0 m pc ls (.int i :: .ref a :: rest)) :=
  va_lald C.1 C.2.1 C.2.2.2.2.2.2.1 G.1 q0 2 he rfl hin hdg kk
theorem x_aald {q0 a n : Nat} {f : Nat → Option Nat} {i : Int32} (C : xC p s m args meth c cc nL own E A rt) (G : xG s E A ws H locs) (he : ws[q0]? = some (a, .inl (E.2.1 3, n, .inr (.inr (.inr (.inr f)))))) (hin : vp_in i n) (hdg : decode cc pc = .ok (.aaload, 1))
    (kk : W p l e R s m args below meth c H locs cells slots Q (F0 m (pc + 1) ls (va_rf (f i.toNatClampNeg) :: rest))) : W p l e R s m args below meth c H locs cells slots Q (F0 m pc ls (.int i :: .ref a :: rest)) :=
  va_aldq C.1 C.2.1 C.2.2.2.2.2.2.1 G.1 q0 3 he rfl hin hdg kk
theorem x_aaldk {q0 a n b : Nat} {f : Nat → Option Nat} {i k : Int32} (C : xC p s m args meth c cc nL own E A rt) (G : xG s E A ws H locs) (he : ws[q0]? = some (a, .inl (E.2.1 3, n, .inr (.inr (.inr (.inr f)))))) (hk : i = k) (hin : vp_in k n) (hf : f k.toNatClampNeg = some b) (hdg : decode cc pc = .ok (.aaload, 1))
    (kk : W p l e R s m args below meth c H locs cells slots Q (F0 m (pc + 1) ls (.ref b :: rest))) : W p l e R s m args below meth c H locs cells slots Q (F0 m pc ls (.int i :: .ref a :: rest)) := by
  subst hk
  refine x_aald C G he hin hdg ?_
  rw [hf]
  exact kk
theorem x_iast {q0 a n : Nat} {f : Nat → Int32} {i x : Int32} (C : xC p s m args meth c cc nL own E A rt) (G : xG s E A ws H locs) (he : ws[q0]? = some (a, .inl (E.2.1 1, n, .inl f))) (hin : vp_in i n) (hw : ws.set q0 (a, .inl (E.2.1 1, n, .inl (upd f i.toNatClampNeg x))) = ws') (hdg : decode cc pc = .ok (.iastore, 1))
    (kk : ∀ (H : Heap) (locs : List Loc), xG s E A ws' H locs → W p l e R s m args below meth c H locs cells slots Q (F0 m (pc + 1) ls rest)) : W p l e R s m args below meth c H locs cells slots Q (F0 m pc ls (.int x :: .int i :: .ref a :: rest)) := by
  subst hw
  exact va_iast C.1 C.2.1 C.2.2.2.2.2.2.1 G.1 G.2.1 G.2.2 q0 1 he rfl hin hdg (fun H1 locs1 h1 h2 h3 => kk H1 locs1 ⟨h1, h2, h3⟩)
theorem x_bast {q0 a n : Nat} {f : Nat → Int32} {i x : Int32} (C : xC p s m args meth c cc nL own E A rt) (G : xG s E A ws H locs) (he : ws[q0]? = some (a, .inl (E.2.1 0, n, .inl f))) (hin : vp_in i n) (hw : ws.set q0 (a, .inl (E.2.1 0, n, .inl (upd f i.toNatClampNeg (vp_nar .byte x)))) = ws') (hdg : decode cc pc = .ok (.bastore, 1))
    (kk : ∀ (H : Heap) (locs : List Loc), xG s E A ws' H locs → W p l e R s m args below meth c H locs cells slots Q (F0 m (pc + 1) ls rest)) : W p l e R s m args below meth c H locs cells slots Q (F0 m pc ls (.int x :: .int i :: .ref a :: rest)) := by
  subst hw
  exact va_bast C.1 C.2.1 C.2.2.2.2.2.2.1 G.1 G.2.1 G.2.2 q0 0 he rfl hin hdg (fun H1 locs1 h1 h2 h3 => kk H1 locs1 ⟨h1, h2, h3⟩)
theorem x_last {q0 a n : Nat} {f : Nat → Int64} {i : Int32} {x : Int64} (C : xC p s m args meth c cc nL own E A rt) (G : xG s E A ws H locs) (he : ws[q0]? = some (a, .inl (E.2.1 2, n, .inr (.inl f)))) (hin : vp_in i n) (hw : ws.set q0 (a, .inl (E.2.1 2, n, .inr (.inl (vp_updL f i.toNatClampNeg x)))) = ws') (hdg : decode cc pc = .ok (.lastore, 1))
    (kk : ∀ (H : Heap) (locs : List Loc), xG s E A ws' H locs → W p l e R s m args below meth c H locs cells slots Q (F0 m (pc + 1) ls rest)) : W p l e R s m args below meth c H locs cells slots Q (F0 m pc ls (.long x :: .int i :: .ref a :: rest)) := by
  subst hw
  exact va_last C.1 C.2.1 C.2.2.2.2.2.2.1 G.1 G.2.1 G.2.2 q0 2 he rfl hin hdg (fun H1 locs1 h1 h2 h3 => kk H1 locs1 ⟨h1, h2, h3⟩)
theorem x_ialen {q0 a n : Nat} {f : Nat → Int32} (C : xC p s m args meth c cc nL own E A rt) (G : xG s E A ws H locs) (he : ws[q0]? = some (a, .inl (E.2.1 1, n, .inl f))) (hdg : decode cc pc = .ok (.arraylength, 1))
    (kk : W p l e R s m args below meth c H locs cells slots Q (F0 m (pc + 1) ls (.int (Int32.ofNat n) :: rest))) : W p l e R s m args below meth c H locs cells slots Q (F0 m pc ls (.ref a :: rest)) :=
  va_alen C.1 C.2.1 C.2.2.2.2.2.2.1 G.1 q0 1 he rfl rfl hdg kk
theorem x_copyi {q0 q1 a a0 n0 n1 : Nat} {idx : Nat} {f g : Nat → Int32} {sp dp n : Int32} (C : xC p s m args meth c cc nL own E A rt) (G : xG s E A ws H locs) (hl : Cond.methodLink own idx arraycopyName ∈ tG) (hnat : Cond.native arraycopyName ∈ tG) (hstat : Cond.static arraycopyName ∈ tG) (hini : Cond.initialized "java/lang/System" ∈ tG) (hsz : ls.size = nL) (he0 : ws[q0]? = some (a0, .inl (E.2.1 1, n0, .inl f))) (he1 : ws[q1]? = some (a, .inl (E.2.1 1, n1, .inl g)))
    (h1 : ¬ sp < 0) (h2 : ¬ dp < 0) (h3 : ¬ n < 0) (h4 : sp.toNatClampNeg + n.toNatClampNeg ≤ n0) (h5 : dp.toNatClampNeg + n.toNatClampNeg ≤ n1) (hw : ws.set q1 (a, .inl (E.2.1 1, n1, .inl (va_cpy f g sp.toNatClampNeg dp.toNatClampNeg n.toNatClampNeg))) = ws') (hframes : 1 ≤ R.frames) (hlocals : (rest.map fun v => v.category).sum + (nativeFrameWords "java/lang/System" "arraycopy" 5 + 11) ≤ R.locals) (hdg : decode cc pc = .ok (.invokestatic idx, 3))
    (kk : ∀ (H : Heap) (locs : List Loc), xG s E A ws' H locs → W p l e R s m args below meth c H locs cells slots Q (F0 m (pc + 3) ls rest)) : W p l e R s m args below meth c H locs cells slots Q (F0 m pc ls (.int n :: .int dp :: .ref a :: .int sp :: .ref a0 :: rest)) := by
  obtain ⟨hx, hb, hml, hown, hts, hN, hK, hA, hlocks, hr, hZ⟩ := C
  subst hw
  exact va_copyi hx hb (by rw [hml, hsz]) hown (hts _ hl) (hts _ hnat) (hts _ hstat) (hts _ hini) hK G.1 G.2.1 G.2.2 q0 q1 1 1 he0 he1 rfl rfl rfl h1 h2 h3 h4 h5 (fun i _ => rfl) hframes hlocals hdg (fun H1 locs1 h1 h2 h3 => kk H1 locs1 ⟨h1, h2, h3⟩)
def xMth (x : MethodName) (cd : ByteArray) (nA : Nat) : Prop := Cond.static x ∈ tG ∧ Cond.initialized "java/lang/Math" ∈ tG ∧ Cond.code x cd nA (some .int) ∈ tG
theorem x_max {idx : Nat} {x y : Int32} (C : xC p s m args meth c cc nL own E A rt) (hM : xMth Lib.Math.max.name Lib.Math.max.code 2) (hl : Cond.methodLink own idx Lib.Math.max.name ∈ tG) (hsz : ls.size = nL) (hframes : 1 ≤ R.frames) (hlocals : (rest.map fun v => v.category).sum + 13 ≤ R.locals) (hf : cells ≤ R.cells ∧ slots ≤ R.slots) (hdg : decode cc pc = .ok (.invokestatic idx, 3))
    (kk : W p l e R s m args below meth c H locs cells slots Q (F0 m (pc + 3) ls (.int (if x < y then y else x) :: rest))) : W p l e R s m args below meth c H locs cells slots Q (F0 m pc ls (.int y :: .int x :: rest)) := by
  obtain ⟨hx, hb, hml, hown, hts, hN, hK, hA, hlocks, hr, hZ⟩ := C
  exact va_mmax hx hb (by rw [hml, hsz]) hown (hts _ hl) (hts _ hM.1) (hts _ hM.2.1) (hts _ hM.2.2) hframes hlocals hf.1 hf.2 hdg kk
theorem x_min {idx : Nat} {x y : Int32} (C : xC p s m args meth c cc nL own E A rt) (hM : xMth Lib.Math.min.name Lib.Math.min.code 2) (hl : Cond.methodLink own idx Lib.Math.min.name ∈ tG) (hsz : ls.size = nL) (hframes : 1 ≤ R.frames) (hlocals : (rest.map fun v => v.category).sum + 13 ≤ R.locals) (hf : cells ≤ R.cells ∧ slots ≤ R.slots) (hdg : decode cc pc = .ok (.invokestatic idx, 3))
    (kk : W p l e R s m args below meth c H locs cells slots Q (F0 m (pc + 3) ls (.int (if y < x then y else x) :: rest))) : W p l e R s m args below meth c H locs cells slots Q (F0 m pc ls (.int y :: .int x :: rest)) := by
  obtain ⟨hx, hb, hml, hown, hts, hN, hK, hA, hlocks, hr, hZ⟩ := C
  exact va_mmin hx hb (by rw [hml, hsz]) hown (hts _ hl) (hts _ hM.1) (hts _ hM.2.1) (hts _ hM.2.2) hframes hlocals hf.1 hf.2 hdg kk
theorem x_abs {idx : Nat} {x : Int32} (C : xC p s m args meth c cc nL own E A rt) (hM : xMth Lib.Math.abs.name Lib.Math.abs.code 1) (hl : Cond.methodLink own idx Lib.Math.abs.name ∈ tG) (hsz : ls.size = nL) (hframes : 1 ≤ R.frames) (hlocals : (rest.map fun v => v.category).sum + 13 ≤ R.locals) (hf : cells ≤ R.cells ∧ slots ≤ R.slots) (hdg : decode cc pc = .ok (.invokestatic idx, 3))
    (kk : W p l e R s m args below meth c H locs cells slots Q (F0 m (pc + 3) ls (.int (if 0 ≤ x then x else 0 - x) :: rest))) : W p l e R s m args below meth c H locs cells slots Q (F0 m pc ls (.int x :: rest)) := by
  obtain ⟨hx, hb, hml, hown, hts, hN, hK, hA, hlocks, hr, hZ⟩ := C
  exact va_mabs hx hb (by rw [hml, hsz]) hown (hts _ hl) (hts _ hM.1) (hts _ hM.2.1) (hts _ hM.2.2) hframes hlocals hf.1 hf.2 hdg kk
end XRows
/-! the pure words that the methods' functions are written in -/
def fu : Nat := 1048576
def ck {α : Type} (i : Int32) (n : Nat) (k : Option α) : Option α := if i < 0 ∨ n ≤ i.toNatClampNeg then none else k
def nz {α : Type} (y : Int32) (k : Option α) : Option α := if y = 0 then none else k
def nzL {α : Type} (y : Int64) (k : Option α) : Option α := if y = 0 then none else k
def lt {α β : Type} (x : α) (k : α → Option β) : Option β := k x
def bd {α β : Type} (x : Option α) (k : α → Option β) : Option β := match x with
  | none => none
  | some a => k a
def sm {α β : Type} (o : α ⊕ β) (k : β → Option α) : Option α := match o with
  | .inl r => some r
  | .inr t => k t
theorem ck_in {α : Type} {i : Int32} {n : Nat} {k : Option α} {r : α} (h : ck i n k = some r) : vp_in i n := by
  intro hc
  rw [ck, if_pos hc] at h
  cases h
theorem ck_go {α : Type} {i : Int32} {n : Nat} {k : Option α} {r : α} (h : ck i n k = some r) : k = some r := by
  have hc := ck_in h
  rw [ck, if_neg hc] at h
  exact h
theorem nz_ne {α : Type} {y : Int32} {k : Option α} {r : α} (h : nz y k = some r) : ¬ y = 0 := by
  intro hc
  rw [nz, if_pos hc] at h
  cases h
theorem nz_go {α : Type} {y : Int32} {k : Option α} {r : α} (h : nz y k = some r) : k = some r := by
  rw [nz, if_neg (nz_ne h)] at h
  exact h
theorem nzL_ne {α : Type} {y : Int64} {k : Option α} {r : α} (h : nzL y k = some r) : ¬ y = 0 := by
  intro hc
  rw [nzL, if_pos hc] at h
  cases h
theorem nzL_go {α : Type} {y : Int64} {k : Option α} {r : α} (h : nzL y k = some r) : k = some r := by
  rw [nzL, if_neg (nzL_ne h)] at h
  exact h
theorem lt_go {α β : Type} {x y : α} {k : α → Option β} {r : Option β} (e : y = x) (h : lt x k = r) : k y = r := by
  subst e
  exact h
theorem bd_go {α β : Type} {x : Option α} {k : α → Option β} {r : β} (h : bd x k = some r) : ∃ a, x = some a ∧ k a = some r := by
  cases x with
  | none => cases h
  | some a => exact ⟨a, rfl, h⟩
theorem it_t {α : Type} {c : Prop} {d : Decidable c} {x y r : α} (hc : c) (h : ite c x y = r) : x = r := by
  rw [if_pos hc] at h
  exact h
theorem it_f {α : Type} {c : Prop} {d : Decidable c} {x y r : α} (hc : ¬ c) (h : ite c x y = r) : y = r := by
  rw [if_neg hc] at h
  exact h
theorem sm_r {α β : Type} {t : β} {k : β → Option α} {r : Option α} (h : sm (.inr t) k = r) : k t = r := h
def sn {α β γ : Type} (o : α ⊕ β) (k : β → Option (α ⊕ γ)) : Option (α ⊕ γ) := match o with
  | .inl r => some (.inl r)
  | .inr t => k t
theorem sn_r {α β γ : Type} {t : β} {k : β → Option (α ⊕ γ)} {r : Option (α ⊕ γ)} (h : sn (.inr t) k = r) : k t = r := h
theorem x_ne {x k : Int32} (z : Int) (hz : k.toInt = z) (h : ¬ x = k) : ¬ x.toInt = z := fun e => h (Int32.toInt_inj.mp (e.trans hz.symm))
theorem x_tab {p : Program} {l : Launch} {e : Env} {R : Room} {s : State} {m : MethodId} {args : Array Value} {below : List Frame} {meth : Method} {c : Code} {H : Heap} {locs : List Loc} {cells slots : Nat} {Q : State → Prop} {cc : ByteArray} {pc : Nat} {ls : Array Slot} {rest : List Value} (hexec : p.tables.exec = Jvm.exec) (hb : c.code = cc) {dflt lo hi : Int} {offs : Array Int} {len : Nat} {x k : Int32} {off : Int} {tgt : Nat} (hdg : decode cc pc = .ok (.tableswitch dflt lo hi offs, len)) (hk : x = k) (h1 : ¬ k.toInt < lo) (h2 : ¬ hi < k.toInt) (ho : offs[(k.toInt - lo).toNat]? = some off) (ht : (pc : Int) + off = (tgt : Int))
    (kk : W p l e R s m args below meth c H locs cells slots Q (F0 m tgt ls rest)) : W p l e R s m args below meth c H locs cells slots Q (F0 m pc ls (.int x :: rest)) := by
  subst hk
  exact lv_tableIn hexec hb hdg h1 h2 ho ht kk
theorem nz_b {c : Prop} {d : Decidable c} {x a b : Int32} (ha : narrow .boolean (.int a) = .int a) (hb : narrow .boolean (.int b) = .int b) (h : ite c (some a) (some b) = some x) : narrow .boolean (.int x) = .int x := by
  by_cases hc : c
  · rw [if_pos hc] at h; cases h; exact ha
  · rw [if_neg hc] at h; cases h; exact hb
