/-! the law's entry -/
/-! THE CLAIM OUT OF ONE WALK OF THE LAW'S BODY. Your part is whole_start (and what it stands on); all else here is the same for every law, but numbers. -/
def R_law : String := "SpoonTableLaw"
def lw_P (b : Addr) (xs : List Int32) (args : Array Value) (s : State) : Prop := args = #[.ref b] ∧ s.IntsAt b xs ∧ xs.length ≤ 3072 ∧ (Jvm.Cond.and given_1 narrow_1).before args s = true
def lw_Q (_ : Array Value) (s : State) (o : Outcome) (t : State) : Prop := o = .returned (some (.int 1)) ∧ Framed s o t [] 601024 7293034
def lw_Z (below : List Frame) (a : Array Value) (s : State) : State → Prop := fun t => ∃ o, t.status = .running ∧ Ended t below o ∧ lw_Q a s o t
/-- the law's own end, with 1 on the stack, nothing written that was there before, its room as the claim has it -/
theorem lw_ret {p : Program} {l : Launch} {e : Env} {s : State} {m : MethodId} {below : List Frame} {meth : Method} {c : Code} {b : Nat} (hx : p.tables.exec = Jvm.exec) (hb : c.code = code) (hr : meth.sig.returnType = ret) (hlocks : meth.locks = false) {pc : Nat} {H : Heap} {ls : Array Slot} (hdg : decode code pc = .ok (.ireturn, 1)) : W p l e room_1 s m #[Value.ref b] below meth c H [] 601024 7293034 (lw_Z below #[Value.ref b] s) (F0 m pc ls [.int 1]) := by
  intro T hT X
  obtain ⟨fs, hret, hrun, hended, hW, hframe⟩ := X.leave (v := some (.int 1)) (hlocks := hlocks) (fun h => by rw [hr] at h; cases h)
  have hmeth' : T.vm.method? m = some meth := X.method'
  refine ⟨T.setFrames fs, ?_, .returned (some (.int 1)), hrun, hended, rfl, ⟨_, rfl⟩, hW, hframe⟩
  jvm_step X.here [X.here.top, hx, hb, hdg, hmeth', hr, ret, narrow_b1]
  (try refine ⟨rfl, ?_⟩); (try refine ⟨rfl, ?_⟩)
  first | (intro acts; rw [hret _ acts rfl rfl rfl]) | rw [hret _ _ rfl rfl rfl]
  exact Steps.refl _
/-- what holds at the law's entry: the machine, the code, the tables' words (any of lw_tbl by 'hts w (by decide +kernel)'), the script of L ints xs at the cell b, what the Statement gives of the start (any of its parts by flat_of_before) -/
def lw_At (p : Program) (s : State) (m : MethodId) (meth : Method) (c : Code) (b L : Nat) (xs : Nat → Int32) : Prop :=
  p.tables.exec = Jvm.exec ∧ c.code = code ∧ meth.sig.returnType = ret ∧ c.maxLocals = 7 ∧ s.vm.findClass R_law = some m.cls ∧ (∀ w ∈ lw_tbl, w.before #[Value.ref b] s = true) ∧ va_X b L xs s s.heap ∧ b < s.heap.size ∧ meth.locks = false ∧ (Jvm.Cond.and given_1 narrow_1).before #[Value.ref b] s = true

theorem z_ex : ∀ i, i < 17 → Cond.exactly (Term.string RX12 (ixS.getD i 0)) "java/lang/String" ∈ flatC (Cond.and given_1 narrow_1) := by decide +kernel
theorem z_co : ∀ i, i < 17 → Cond.eq (.field (Term.string RX12 (ixS.getD i 0)) "java/lang/String" "coder" "B") (.int 0) ∈ flatC (Cond.and given_1 narrow_1) := by decide +kernel
theorem z_ar : ∀ i, i < 17 → Cond.arrayOf (Term.field (Term.string RX12 (ixS.getD i 0)) "java/lang/String" "value" "[B") .byte ∈ flatC (Cond.and given_1 narrow_1) := by decide +kernel
theorem z_le : ∀ i, i < 17 → Cond.eq (.length (Term.field (Term.string RX12 (ixS.getD i 0)) "java/lang/String" "value" "[B")) (.int (Int32.ofNat (lenJS.getD i 0))) ∈ flatC (Cond.and given_1 narrow_1) := by decide +kernel
theorem z_el : ∀ i, i < 17 → ∀ j, j < lenJS.getD i 0 → Cond.eq (.elem (Term.field (Term.string RX12 (ixS.getD i 0)) "java/lang/String" "value" "[B") (.int (Int32.ofNat j))) (.int ((bytJS.getD i []).getD j 0)) ∈ flatC (Cond.and given_1 narrow_1) := by decide +kernel
/-- which strings the Statement says are apart -/
def isNe (w : Cond) : Option (Nat × Nat) := match w with
  | .not (.eq (.string o i) (.string o2 j)) => if o = RX12 ∧ o2 = RX12 then some (i, j) else none
  | _ => none
theorem isNe_spec {w : Cond} {a b : Nat} (h : isNe w = some (a, b)) : w = .not (.eq (.string RX12 a) (.string RX12 b)) := by
  unfold isNe at h
  split at h
  · split at h
    · rename_i hc
      obtain ⟨rfl, rfl⟩ := hc
      cases h
      rfl
    · cases h
  · cases h
def prL : List (Nat × Nat) := [(133, 198), (133, 203), (198, 203), (133, 205), (198, 205), (203, 205), (133, 207), (198, 207), (203, 207), (205, 207), (133, 135), (198, 135), (203, 135), (205, 135), (207, 135), (133, 137), (198, 137), (203, 137), (205, 137), (207, 137), (135, 137), (133, 139), (198, 139), (203, 139), (205, 139), (207, 139), (135, 139), (137, 139), (133, 141), (198, 141), (203, 141), (205, 141), (207, 141), (135, 141), (137, 141), (139, 141), (133, 143), (198, 143), (203, 143), (205, 143), (207, 143), (135, 143), (137, 143), (139, 143), (141, 143), (133, 219), (198, 219), (203, 219), (205, 219), (207, 219), (135, 219), (137, 219), (139, 219), (141, 219), (143, 219), (133, 244), (198, 244), (203, 244), (205, 244), (207, 244), (135, 244), (137, 244), (139, 244), (141, 244), (143, 244), (219, 244), (133, 246), (198, 246), (203, 246), (205, 246), (207, 246), (135, 246), (137, 246), (139, 246), (141, 246), (143, 246), (219, 246), (244, 246), (133, 248), (198, 248), (203, 248), (205, 248), (207, 248), (135, 248), (137, 248), (139, 248), (141, 248), (143, 248), (219, 248), (244, 248), (246, 248), (133, 250), (198, 250), (203, 250), (205, 250), (207, 250), (135, 250), (137, 250), (139, 250), (141, 250), (143, 250), (219, 250), (244, 250), (246, 250), (248, 250), (133, 283), (198, 283), (203, 283), (205, 283), (207, 283), (135, 283), (137, 283), (139, 283), (141, 283), (143, 283), (219, 283), (244, 283), (246, 283), (248, 283), (250, 283), (133, 285), (198, 285), (203, 285), (205, 285), (207, 285), (135, 285), (137, 285), (139, 285), (141, 285), (143, 285), (219, 285), (244, 285), (246, 285), (248, 285), (250, 285), (283, 285)]
theorem z_nl : (flatC (Cond.and given_1 narrow_1)).filterMap isNe = prL := by decide +kernel
theorem z_pr : ∀ i, i < 17 → ∀ j, j < 17 → (i = j ∨ (ixS.getD i 0, ixS.getD j 0) ∈ prL ∨ (ixS.getD j 0, ixS.getD i 0) ∈ prL) := by decide +kernel
theorem z_nm {a b : Nat} (h : (a, b) ∈ prL) : Cond.not (Cond.eq (Term.string RX12 a) (Term.string RX12 b)) ∈ flatC (Cond.and given_1 narrow_1) := by
  rw [← z_nl] at h
  obtain ⟨w, hw, e⟩ := List.mem_filterMap.mp h
  rw [← isNe_spec e]
  exact hw
theorem z_ne (i : Nat) (hi : i < 17) (j : Nat) (hj : j < 17) : i = j ∨ Cond.not (Cond.eq (Term.string RX12 (ixS.getD i 0)) (Term.string RX12 (ixS.getD j 0))) ∈ flatC (Cond.and given_1 narrow_1) ∨ Cond.not (Cond.eq (Term.string RX12 (ixS.getD j 0)) (Term.string RX12 (ixS.getD i 0))) ∈ flatC (Cond.and given_1 narrow_1) := by
  rcases z_pr i hi j hj with h | h | h
  · exact Or.inl h
  · exact Or.inr (Or.inl (z_nm h))
  · exact Or.inr (Or.inr (z_nm h))
theorem z_ln : ∀ i, i < 17 → lenJS.getD i 0 < 2 ^ 31 := by decide +kernel
theorem z_sr : ∀ i, i < 17 → Cond.stringRef RX12 (ixS.getD i 0) (txS.getD i "") ∈ lw_tbl := by decide +kernel
theorem z_cs : Cond.eq (.static "java/lang/String" "COMPACT_STRINGS" "Z") (.int 1) ∈ flatC (Cond.and given_1 narrow_1) := by decide +kernel
theorem z_pf : Cond.isRef (.static "jdk/internal/util/Preconditions" "SIOOBE_FORMATTER" "Ljava/util/function/BiFunction;") ∈ flatC (Cond.and given_1 narrow_1) := by decide +kernel
theorem z_us : Cond.isRef (.static Bundle.tN "UNASSIGNED_STACK" Bundle.steD) ∈ flatC (Cond.and given_1 narrow_1) := by decide +kernel
theorem z_ss : Cond.isRef (.static Bundle.tN "SUPPRESSED_SENTINEL" Bundle.listD) ∈ flatC (Cond.and given_1 narrow_1) := by decide +kernel
theorem z_1 : Cond.laysStatic "java/lang/String" "COMPACT_STRINGS" "Z" ∈ lw_tbl := List.mem_of_getElem? (i := 1616) (by decide +kernel)
theorem z_2 : Cond.initialized "java/lang/String" ∈ lw_tbl := List.mem_of_getElem? (i := 151) (by decide +kernel)
theorem z_3 : Cond.laysStatic "jdk/internal/util/Preconditions" "SIOOBE_FORMATTER" "Ljava/util/function/BiFunction;" ∈ lw_tbl := List.mem_of_getElem? (i := 1632) (by decide +kernel)
theorem z_4 : Cond.initialized "jdk/internal/util/Preconditions" ∈ lw_tbl := List.mem_of_getElem? (i := 153) (by decide +kernel)
theorem z_5 : Cond.laysStatic Bundle.tN "UNASSIGNED_STACK" Bundle.steD ∈ lw_tbl := List.mem_of_getElem? (i := 1334) (by decide +kernel)
theorem z_6 : Cond.laysStatic Bundle.tN "SUPPRESSED_SENTINEL" Bundle.listD ∈ lw_tbl := List.mem_of_getElem? (i := 1336) (by decide +kernel)
theorem z_7 : Cond.initialized Bundle.tN ∈ lw_tbl := List.mem_of_getElem? (i := 155) (by decide +kernel)
theorem z_8 : Cond.arrayOver (.object "SpoonTable$Now") ∈ lw_tbl := List.mem_of_getElem? (i := 561) (by decide +kernel)
theorem z_i0 : Cond.instantiable RX0 13 ∈ lw_tbl := List.mem_of_getElem? (i := 168) (by decide +kernel)
theorem z_i1 : Cond.instantiable RX1 7 ∈ lw_tbl := List.mem_of_getElem? (i := 484) (by decide +kernel)
theorem z_i2 : Cond.instantiable RX2 3 ∈ lw_tbl := List.mem_of_getElem? (i := 518) (by decide +kernel)
theorem z_i3 : Cond.instantiable RX3 2 ∈ lw_tbl := List.mem_of_getElem? (i := 376) (by decide +kernel)
theorem z_i4 : Cond.instantiable RX4 8 ∈ lw_tbl := List.mem_of_getElem? (i := 174) (by decide +kernel)
theorem z_i5 : Cond.instantiable RX5 5 ∈ lw_tbl := List.mem_of_getElem? (i := 304) (by decide +kernel)
theorem z_i6 : Cond.instantiable RX6 5 ∈ lw_tbl := List.mem_of_getElem? (i := 536) (by decide +kernel)
theorem z_i7 : Cond.instantiable RX7 8 ∈ lw_tbl := List.mem_of_getElem? (i := 310) (by decide +kernel)
theorem z_i8 : Cond.instantiable RX8 11 ∈ lw_tbl := List.mem_of_getElem? (i := 370) (by decide +kernel)
theorem z_i9 : Cond.instantiable RX9 13 ∈ lw_tbl := List.mem_of_getElem? (i := 435) (by decide +kernel)
theorem z_i10 : Cond.instantiable RX10 13 ∈ lw_tbl := List.mem_of_getElem? (i := 160) (by decide +kernel)
theorem z_i11 : Cond.instantiable RX11 19 ∈ lw_tbl := List.mem_of_getElem? (i := 1500) (by decide +kernel)
theorem z_i12 : Cond.instantiable RX12 36 ∈ lw_tbl := List.mem_of_getElem? (i := 1369) (by decide +kernel)
theorem arr_K {args : Array Value} {s : State} {ty : FieldType} (h : (Cond.arrayClass ty).before args s = true) : ∃ cA : ClassId, ArrOfT s cA ty ∧ s.vm.findClass ("[" ++ ty.toString) = some cA := by
  obtain ⟨c, k, comp, h1, h2, h3⟩ := Cond.arrayClass_spec h
  exact ⟨c, fun n z => ⟨(fun k h => by cases h), k, h2, comp, h3⟩, h1⟩
set_option maxHeartbeats 4000000 in
set_option maxRecDepth 100000 in
theorem law_E {p : Program} {s : State} {m : MethodId} {meth : Method} {c : Code} {b L : Nat} {xs : Nat → Int32} (hL : L ≤ 3072) (C0 : lw_At p s m meth c b L xs) : ∃ E : xE, lwC p s m meth c b L xs E ∧ zT (fun q => s.heap.size ≤ q) s s.heap := by
  obtain ⟨hx, hb, hr, hml, hown, hts, hX, hbl, hlocks, hgv⟩ := C0
  have hfl := flat_of_before _ hgv
  have hA : ∀ a : Nat, a < s.heap.size → ¬ (fun q : Nat => s.heap.size ≤ q) a := fun a h => Nat.not_le.mpr h
  have hG : ∀ w ∈ tG, w.before #[Value.ref b] s = true := fun w hw => hts w (List.mem_filter.mp hw).1
  obtain ⟨adK, adV, hS17, hEv⟩ := vk_Sof (args := #[Value.ref b]) (s := s) (N := 17) (tm := fun i => Term.string RX12 (ixS.getD i 0)) (len := lenJS) (byt := bytJS) (A := fun q : Nat => s.heap.size ≤ q) z_ln (fun i hi => hfl _ (z_ex i hi)) (fun i hi => hfl _ (z_co i hi)) (fun i hi => hfl _ (z_ar i hi)) (fun i hi => hfl _ (z_le i hi)) (fun i hi j hj => hfl _ (z_el i hi j hj)) (fun i j hi hj hij => by
      rcases z_ne i hi j hj with h | h | h
      · exact absurd h hij
      · exact Or.inl (hfl _ h)
      · exact Or.inr (hfl _ h)) hA
  obtain ⟨cB, hB1, hB2⟩ := arr_K (hts _ (List.mem_filter.mp ac_byte).1)
  obtain ⟨cI, hI1, hI2⟩ := arr_K (hts _ (List.mem_filter.mp ac_int).1)
  obtain ⟨cJ, hJ1, hJ2⟩ := arr_K (hts _ (List.mem_filter.mp ac_long).1)
  obtain ⟨comp, cN, kN, f1, f2, f3, f4, f5⟩ := Cond.arrayOver_spec (hts _ z_8)
  have hN1 : ArrOfT s cN (.object "SpoonTable$Now") := fun n z => ⟨(fun k h => by cases h), kN, f3, comp, f4⟩
  obtain ⟨c0, i0, k0⟩ := u_known (C := RX0) (T := TX0) (N := 13) (n := 13) hG subX0 (hts _ z_i0)
  obtain ⟨c1, i1, k1⟩ := u_known (C := RX1) (T := TX1) (N := 7) (n := 7) hG subX1 (hts _ z_i1)
  obtain ⟨c2, i2, k2⟩ := u_known (C := RX2) (T := TX2) (N := 3) (n := 3) hG subX2 (hts _ z_i2)
  obtain ⟨c3, i3, k3⟩ := u_known (C := RX3) (T := TX3) (N := 2) (n := 2) hG subX3 (hts _ z_i3)
  obtain ⟨c4, i4, k4⟩ := u_known (C := RX4) (T := TX4) (N := 8) (n := 8) hG subX4 (hts _ z_i4)
  obtain ⟨c5, i5, k5⟩ := u_known (C := RX5) (T := TX5) (N := 5) (n := 5) hG subX5 (hts _ z_i5)
  obtain ⟨c6, i6, k6⟩ := u_known (C := RX6) (T := TX6) (N := 5) (n := 5) hG subX6 (hts _ z_i6)
  obtain ⟨c7, i7, k7⟩ := u_known (C := RX7) (T := TX7) (N := 8) (n := 8) hG subX7 (hts _ z_i7)
  obtain ⟨c8, i8, k8⟩ := u_known (C := RX8) (T := TX8) (N := 11) (n := 11) hG subX8 (hts _ z_i8)
  obtain ⟨c9, i9, k9⟩ := u_known (C := RX9) (T := TX9) (N := 13) (n := 13) hG subX9 (hts _ z_i9)
  obtain ⟨c10, i10, k10⟩ := u_known (C := RX10) (T := TX10) (N := 13) (n := 13) hG subX10 (hts _ z_i10)
  obtain ⟨c11, i11, k11⟩ := u_known (C := RX11) (T := TX11) (N := 19) (n := 19) hG subX11 (hts _ z_i11)
  obtain ⟨c12, i12, k12⟩ := u_known (C := RX12) (T := TX12) (N := 36) (n := 36) hG subX12 (hts _ z_i12)
  let dC : Nat → ClassId := fun k => [c0, c1, c2, c3, c4, c5, c6, c7, c8, c9, c10, c11, c12].getD k c0
  let dI : Nat → Nat → Nat := fun k => [i0, i1, i2, i3, i4, i5, i6, i7, i8, i9, i10, i11, i12].getD k i0
  let tys : Nat → ClassId := fun k => [cB, cI, cJ, cN].getD k cB
  have hKc : ∀ (k : Nat) (q : vw_C), vwCl[k]? = some q → u_Kn s q.1 q.2.1 q.2.2 (dC k) (dI k) := by
    intro k q hq
    match k, hq with
    | 0, hq => cases hq; exact k0
    | 1, hq => cases hq; exact k1
    | 2, hq => cases hq; exact k2
    | 3, hq => cases hq; exact k3
    | 4, hq => cases hq; exact k4
    | 5, hq => cases hq; exact k5
    | 6, hq => cases hq; exact k6
    | 7, hq => cases hq; exact k7
    | 8, hq => cases hq; exact k8
    | 9, hq => cases hq; exact k9
    | 10, hq => cases hq; exact k10
    | 11, hq => cases hq; exact k11
    | 12, hq => cases hq; exact k12
    | k + 13, hq => simp [vwCl] at hq
  refine ⟨((dC, dI), tys, adK, adV), ⟨⟨hx, hb, hml, hown, hG, fun w hw => va_Nw.of (tN_on hw) (hts w (List.mem_filter.mp hw).1), ⟨hKc, fun k q hq => ?_⟩, fun q h => h, hlocks, hr, ⟨fun i hi => vk_R.of (hts _ (z_sr i hi)) (hEv i hi), hS17, va_Zof (hts _ z_1) (hts _ z_2) (va_eqt (hfl _ z_cs)) hA, va_Zqof (hts _ z_3) (hts _ z_4) (hfl _ z_pf) hA, va_AO.of (hts _ z_8)⟩⟩, hX, hbl, hL⟩, ⟨vx_Zqof (hts _ z_5) (hts _ z_7) (hfl _ z_us) hA, vx_Zqof (hts _ z_6) (hts _ z_7) (hfl _ z_ss) hA, fun w hw => va_Nw.of (nsB_on w hw) (hts w (lw_led_k w hw))⟩⟩
  match k, hq with
  | 0, hq => cases hq; exact ⟨hB1, hB2⟩
  | 1, hq => cases hq; exact ⟨hI1, hI2⟩
  | 2, hq => cases hq; exact ⟨hJ1, hJ2⟩
  | 3, hq => cases hq; exact ⟨hN1, kN, comp, f3, f4, f1, f5⟩
  | k + 4, hq => simp [tysE] at hq
