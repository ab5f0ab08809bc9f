/-! calls on a part of the world: the callee's cells stand at its end -/
theorem xG_swap {s : State} {E : xE} {A : Nat → Prop} {a b : va_W} {H : Heap} {locs : List Loc} (G : xG s E A (a ++ b) H locs) : xG s E A (b ++ a) H locs := by
  obtain ⟨hP, hD, hS⟩ := G
  have key : ∀ (k : Nat) (q : Nat × va_E), (b ++ a)[k]? = some q → ∃ i, (a ++ b)[i]? = some q ∧ ((k < b.length ∧ i = a.length + k) ∨ (b.length ≤ k ∧ i = k - b.length ∧ i < a.length)) := by
    intro k q hk
    by_cases hl : k < b.length
    · rw [List.getElem?_append_left hl] at hk
      exact ⟨a.length + k, by rw [List.getElem?_append_right (by omega), Nat.add_sub_cancel_left]; exact hk, Or.inl ⟨hl, rfl⟩⟩
    · rw [List.getElem?_append_right (by omega)] at hk
      have h2 := (List.getElem?_eq_some_iff.mp hk).1
      exact ⟨k - b.length, by rw [List.getElem?_append_left h2]; exact hk, Or.inr ⟨by omega, rfl, h2⟩⟩
  refine ⟨fun k q hk => ?_, ⟨fun i j x y hi hj hxy => ?_, fun k q hk => ?_⟩, hS⟩
  · obtain ⟨i, hi, -⟩ := key k q hk
    exact hP i q hi
  · obtain ⟨i', hi', ci⟩ := key i x hi
    obtain ⟨j', hj', cj⟩ := key j y hj
    have := hD.1 i' j' x y hi' hj' hxy
    omega
  · obtain ⟨i, hi, -⟩ := key k q hk
    exact hD.2 i q hi
theorem xG_left {s : State} {E : xE} {A : Nat → Prop} {a b : va_W} {H : Heap} {locs : List Loc} (G : xG s E A (a ++ b) H locs) : xG s E A a H locs := by
  have G2 := xG_swap G
  exact ⟨G2.1.right, G2.2.1.right, G2.2.2⟩
section XFrame
variable {p : Program} {l : Launch} {e : Env} {R : Room} {s : State} {m : MethodId} {args : Array Value} {below : List Frame} {meth : Method} {c : Code} {H : Heap} {locs : List Loc} {cells slots : Nat} {Q : State → Prop} {cc : ByteArray} {nL : Nat} {own : String} {E : xE} {A : Nat → Prop} {rt : Option FieldType} {wc wc' : va_W} {pc : Nat} {ls : Array Slot} {rest st : List Value}
theorem xrunVf {y : MethodName} {cc' : ByteArray} {nL' fr lo n idx q0 ci b : Nat} {rt' : Option FieldType} {As fs : List Value} {Qc : Array Value → State → Outcome → State → Prop} {Cq : vw_C} {wr : va_W}
    (C : xC p s m args meth c cc nL own E A rt) (G : xG s E A (wr ++ wc) H locs) (M : Met l y (.code y cc' nL' rt' :: tG) (xR fr lo) (xPre E (.ref b :: As) wc H.size) Qc 0 0 (va_A wc H.size)) (Mt : xM y Cq.1 cc' nL' rt' n) (hl : xLk own idx y)
    (he : wc[q0]? = some (b, .inr (ci, fs))) (hc : vwCl[ci]? = some Cq) (hR : fr + 1 ≤ R.frames ∧ 8 + (nL' + 11) + lo ≤ R.locals) (hn : As.length = n) (hsz : ls.size = nL) (hst : st = As.reverse ++ .ref b :: rest) (hW : (rest.map fun v => v.category).sum ≤ 8) (hf : cells ≤ R.cells ∧ slots ≤ R.slots) (hdg : decode cc pc = .ok (.invokevirtual idx, 3)) :
    va_Run p l e R s m args below meth c H locs cells slots 0 0 (F0 m pc ls st) rest (Qc (Value.ref b :: As).toArray) (va_A wc H.size) := by
  have hF := xfreeR G.2.1 G.2.2 C.2.2.2.2.2.2.2.1
  obtain ⟨hx, hb, hml, hown, hts, hN, hK, hA, hlocks, hr, hZ⟩ := C
  obtain ⟨hP, hD, hS⟩ := G
  obtain ⟨h1, h2, h3, h4, h5, h6, h7, h8⟩ := Mt
  have hpre : PreV s H Cq.1 b (xPre E (.ref b :: As) wc H.size) As := ⟨xPre_blind, va_recv hK hP.right hc he, fun U hU hW => ⟨rfl, by rw [hU], by rw [hU]; exact hP.right, va_K.moved hW.alike hK, hD.right.weaken (fun _ _ _ _ => trivial), tN_warm hW hN, xZ_call hZ hS hF hU hW⟩⟩
  have hG : GoodIn tG (Cond.code y cc' nL' rt' :: tG) := tG_good (fun w hw => by
    rcases List.mem_cons.mp hw with e | e
    · rw [e]; exact h4
    · exact e)
  rcases hl with hl | ⟨host, hl⟩
  · exact va_runV ⟨hx, hb, hml, hown, hts⟩ M (cwV n hts (tG_good (fun w hw => by
      rcases List.mem_append.mp hw with e | e
      · simp only [List.mem_cons, List.not_mem_nil, or_false] at e
        rcases e with e | e | e | e <;> (rw [e]; assumption)
      · exact (hG w e).1)) rfl rfl rfl ⟨h5, h6, h7, h8⟩ hR) hpre rfl hn hsz hst (by simpa using hW) hdg hf
  · exact va_runVN ⟨hx, hb, hml, hown, hts⟩ M ⟨va_cnB n hts hG rfl rfl rfl (hN _ hl) (by rw [h5]; exact hts _ h3) ⟨h6, h7, h8⟩ hR, hts _ h1, hts _ h2⟩ hpre rfl hn hsz hst (by simpa using hW) hdg hf
theorem xI_Vf {y : MethodName} {cc' : ByteArray} {nL' fr lo n idx q0 ci b : Nat} {rt' : Option FieldType} {As fs : List Value} {Cq : vw_C} {r : Int32} {wr : va_W}
    (C : xC p s m args meth c cc nL own E A rt) (G : xG s E A (wr ++ wc) H locs) (K : xI l E y cc' nL' rt' fr lo (.ref b :: As) wc wc' r) (Mt : xM y Cq.1 cc' nL' rt' n) (hl : xLk own idx y)
    (he : wc[q0]? = some (b, .inr (ci, fs))) (hc : vwCl[ci]? = some Cq) (hR : fr + 1 ≤ R.frames ∧ 8 + (nL' + 11) + lo ≤ R.locals) (hn : As.length = n) (hsz : ls.size = nL) (hst : st = As.reverse ++ .ref b :: rest) (hW : (rest.map fun v => v.category).sum ≤ 8) (hf : cells ≤ R.cells ∧ slots ≤ R.slots) (hdg : decode cc pc = .ok (.invokevirtual idx, 3))
    (kk : xNr rt' r → ∀ (H : Heap) (locs : List Loc), xG s E A (wr ++ wc') H locs → W p l e R s m args below meth c H locs cells slots Q (F0 m (pc + 3) ls (.int r :: rest))) : W p l e R s m args below meth c H locs cells slots Q (F0 m pc ls st) := by
  have hF := xfreeR G.2.1 G.2.2 C.2.2.2.2.2.2.2.1
  refine va_calli (xrunVf C G (K H.size) Mt hl he hc hR hn hsz hst hW hf hdg) G.2.2 (fun q _ h => hF q h) hF (fun r1 u t H1 locs1 ht hvm hw hB hz hk hS1 => ?_)
  obtain ⟨rfl, hn⟩ := hw
  have hP1 := hB.1
  rw [ht] at hP1
  obtain ⟨h9, h10⟩ := xjoin G.1 G.2.1 hk hF hP1 hB.2
  exact kk hn H1 locs1 ⟨h9, h10, hS1⟩
theorem xL_Vf {y : MethodName} {cc' : ByteArray} {nL' fr lo n idx q0 ci b : Nat} {rt' : Option FieldType} {As fs : List Value} {Cq : vw_C} {r : Int64} {wr : va_W}
    (C : xC p s m args meth c cc nL own E A rt) (G : xG s E A (wr ++ wc) H locs) (K : xL l E y cc' nL' rt' fr lo (.ref b :: As) wc wc' r) (Mt : xM y Cq.1 cc' nL' rt' n) (hl : xLk own idx y)
    (he : wc[q0]? = some (b, .inr (ci, fs))) (hc : vwCl[ci]? = some Cq) (hR : fr + 1 ≤ R.frames ∧ 8 + (nL' + 11) + lo ≤ R.locals) (hn : As.length = n) (hsz : ls.size = nL) (hst : st = As.reverse ++ .ref b :: rest) (hW : (rest.map fun v => v.category).sum ≤ 8) (hf : cells ≤ R.cells ∧ slots ≤ R.slots) (hdg : decode cc pc = .ok (.invokevirtual idx, 3))
    (kk : ∀ (H : Heap) (locs : List Loc), xG s E A (wr ++ wc') H locs → W p l e R s m args below meth c H locs cells slots Q (F0 m (pc + 3) ls (.long r :: rest))) : W p l e R s m args below meth c H locs cells slots Q (F0 m pc ls st) := by
  have hF := xfreeR G.2.1 G.2.2 C.2.2.2.2.2.2.2.1
  refine va_calll (xrunVf C G (K H.size) Mt hl he hc hR hn hsz hst hW hf hdg) G.2.2 (fun q _ h => hF q h) hF (fun r1 u t H1 locs1 ht hvm hw hB hz hk hS1 => ?_)
  obtain rfl := hw
  have hP1 := hB.1
  rw [ht] at hP1
  obtain ⟨h9, h10⟩ := xjoin G.1 G.2.1 hk hF hP1 hB.2
  exact kk H1 locs1 ⟨h9, h10, hS1⟩
theorem xV_Vf {y : MethodName} {cc' : ByteArray} {nL' fr lo n idx q0 ci b : Nat} {rt' : Option FieldType} {As fs : List Value} {Cq : vw_C} {wr : va_W}
    (C : xC p s m args meth c cc nL own E A rt) (G : xG s E A (wr ++ wc) H locs) (K : xV l E y cc' nL' rt' fr lo (.ref b :: As) wc wc') (Mt : xM y Cq.1 cc' nL' rt' n) (hl : xLk own idx y)
    (he : wc[q0]? = some (b, .inr (ci, fs))) (hc : vwCl[ci]? = some Cq) (hR : fr + 1 ≤ R.frames ∧ 8 + (nL' + 11) + lo ≤ R.locals) (hn : As.length = n) (hsz : ls.size = nL) (hst : st = As.reverse ++ .ref b :: rest) (hW : (rest.map fun v => v.category).sum ≤ 8) (hf : cells ≤ R.cells ∧ slots ≤ R.slots) (hdg : decode cc pc = .ok (.invokevirtual idx, 3))
    (kk : ∀ (H : Heap) (locs : List Loc), xG s E A (wr ++ wc') H locs → W p l e R s m args below meth c H locs cells slots Q (F0 m (pc + 3) ls rest)) : W p l e R s m args below meth c H locs cells slots Q (F0 m pc ls st) := by
  have hF := xfreeR G.2.1 G.2.2 C.2.2.2.2.2.2.2.1
  refine va_callv (xrunVf C G (K H.size) Mt hl he hc hR hn hsz hst hW hf hdg) G.2.2 (fun q _ h => hF q h) hF (fun u t H1 locs1 ht hvm hw hB hz hk hS1 => ?_)
  have hP1 := hB.1
  rw [ht] at hP1
  obtain ⟨h9, h10⟩ := xjoin G.1 G.2.1 hk hF hP1 hB.2
  exact kk H1 locs1 ⟨h9, h10, hS1⟩
end XFrame
