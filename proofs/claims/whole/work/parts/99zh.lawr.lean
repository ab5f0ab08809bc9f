/-! the law: its context, its rows -/
def w0 (E : xE) (qo : Nat) (fo : Nat → Int64) : va_W := [(qo, .inl (E.2.1 2, 1, .inr (.inl fo)))]
def lwC (p : Program) (s : State) (m : MethodId) (meth : Method) (c : Code) (b L : Nat) (xs : Nat → Int32) (E : xE) : Prop := xC p s m #[Value.ref b] meth c cL_law 7 RL E (fun q => s.heap.size ≤ q) (some .boolean) ∧ va_X b L xs s s.heap ∧ b < s.heap.size ∧ L ≤ 3072
theorem xG_rot {s : State} {E : xE} {A : Nat → Prop} {a b c : va_W} {H : Heap} {locs : List Loc} (G : xG s E A ((a ++ b) ++ c) H locs) : xG s E A ((c ++ a) ++ b) H locs := by
  have h := xG_swap G
  rw [← List.append_assoc] at h
  exact h
set_option maxRecDepth 100000 in
theorem Rel.x0 {E : xE} {b1 b2 : Nat} {wx wm : va_W} (h : Rel E b1 b2 wx wm) : ∃ fs, wx[0]? = some (b1, .inr (10, fs)) := by
  refine h (fun b1 _ wx _ => ∃ fs, wx[0]? = some (b1, .inr (10, fs))) ?_ ?_
  · intros
    exact ⟨_, wX_at0⟩
  · intros
    exact ⟨_, wX_at0⟩
set_option maxRecDepth 100000 in
theorem Rel.m0 {E : xE} {b1 b2 : Nat} {wx wm : va_W} (h : Rel E b1 b2 wx wm) : ∃ fs, wm[0]? = some (b2, .inr (12, fs)) := by
  refine h (fun _ b2 _ wm => ∃ fs, wm[0]? = some (b2, .inr (12, fs))) ?_ ?_
  · intros
    exact ⟨_, wM_at0⟩
  · intros
    exact ⟨_, wN_at0⟩
theorem vp_in_iI {j n : Nat} (h : j < n) (hn : n ≤ 4000) : vp_in (iI (j : Nat)) n := by
  intro hc
  rcases hc with hc | hc
  · rw [i_0, iI_lt] at hc <;> omega
  · rw [iI_cl (by omega)] at hc
    omega
theorem lg_cmp0 {x : Int64} : lg_cmp x x = 0 := by
  unfold lg_cmp
  first | simp | rfl
section LRows
variable {p : Program} {l : Launch} {e : Env} {s : State} {m : MethodId} {below : List Frame} {meth : Method} {c : Code} {b L : Nat} {xs : Nat → Int32} {E : xE} {b1 b2 qo i : Nat} {fo : Nat → Int64} {wx wm wx' wm' : va_W} {H : Heap} {locs : List Loc} {ls : Array Slot} {cells slots : Nat} {Q : State → Prop} {ws : va_W} {rest st : List Value} {pc : Nat}
theorem w_arg {j : Nat} {n : Int} (Cx : lwC p s m meth c b L xs E) (hi : i + 6 ≤ L) (hj : j < 6) (G : xG s E (fun q => s.heap.size ≤ q) ws H locs) (hl : lv_has ls 7 [(4, .int (iI (i : Nat))), (3, .ref qo), (2, .ref b2), (1, .ref b1), (0, .ref b)]) (d0 : decode cL_law pc = .ok (.aload_n 0, 1)) (d1 : decode cL_law (pc + 1) = .ok (.iload 4, 2)) (d2 : decode cL_law (pc + 3) = .ok (.iconst n, 1)) (hn : n = (j : Int)) (d3 : decode cL_law (pc + 4) = .ok (.iadd, 1)) (d4 : decode cL_law (pc + 5) = .ok (.iaload, 1))
    (kk : W p l e room_1 s m #[Value.ref b] below meth c H locs cells slots Q (F0 m (pc + 6) ls (.int (xs (i + j)) :: rest))) : W p l e room_1 s m #[Value.ref b] below meth c H locs cells slots Q (F0 m pc ls rest) := by
  obtain ⟨C, hX, hbl, hL⟩ := Cx
  have hx := C.1
  have hb := C.2.1
  have hs : iI (i : Nat) + iI (j : Nat) = iI ((i + j : Nat) : Int) := by rw [iI_add]; rfl
  refine lv_aload_n hx hb d0 rfl (lv_at hl 4 rfl) ?_
  refine lv_iload hx hb d1 (lv_at hl 0 rfl) ?_
  refine lv_iconst (v := iI (j : Nat)) hx hb d2 (by rw [hn]; rfl) ?_
  refine lv_iadd hx hb d3 ?_
  rw [hs]
  refine va_sld hx hb hX hbl (Nat.not_le.mpr hbl) G.2.2 (vp_in_iI (show i + j < L by omega) (by omega)) d4 ?_
  rw [iI_cl (by omega)]
  exact kk
theorem w_bool {x : Int32} (Cx : lwC p s m meth c b L xs E) (d0 : decode cL_law pc = .ok (.ifCond .eq 7, 3)) (d1 : decode cL_law (pc + 3) = .ok (.iconst 1, 1)) (d2 : decode cL_law (pc + 4) = .ok (.goto 4, 3)) (d3 : decode cL_law (pc + 7) = .ok (.iconst 0, 1))
    (kk : W p l e room_1 s m #[Value.ref b] below meth c H locs cells slots Q (F0 m (pc + 8) ls (.int (if x = 0 then (0 : Int32) else 1) :: rest))) : W p l e room_1 s m #[Value.ref b] below meth c H locs cells slots Q (F0 m pc ls (.int x :: rest)) := by
  have hx := Cx.1.1
  have hb := Cx.1.2.1
  refine lv_if_eq (tgt := pc + 7) hx hb d0 (by omega) (fun h => ?_) (fun h => ?_)
  · rw [if_pos (show x = 0 from h)] at kk
    exact lv_iconst (v := 0) hx hb d3 (by decide) kk
  · rw [if_neg (show ¬ x = 0 from h)] at kk
    refine lv_iconst (v := 1) hx hb d1 (by decide) ?_
    exact lv_goto (tgt := pc + 8) hx hb d2 (by omega) kk
theorem lx_I {y : MethodName} {cc' : ByteArray} {nL' n idx : Nat} {rt' : Option FieldType} {As : List Value} {r : Int32} (Cx : lwC p s m meth c b L xs E) (G : xG s E (fun q => s.heap.size ≤ q) ((w0 E qo fo ++ wm) ++ wx) H locs) (hr : Rel E b1 b2 wx wm) (K : cI l E y cc' nL' rt' (.ref b1 :: As) wx wx' r) (Mt : xM y RX10 cc' nL' rt' n) (hlk : xLk RL idx y) (hn : As.length = n) (hnl : nL' ≤ 50) (hsz : ls.size = 7) (hst : st = As.reverse ++ .ref b1 :: rest) (hW : (rest.map fun v => v.category).sum ≤ 8) (hcs : cells ≤ room_1.cells ∧ slots ≤ room_1.slots) (hdg : decode cL_law pc = .ok (.invokevirtual idx, 3))
    (kk : ∀ (H : Heap) (locs : List Loc), xG s E (fun q => s.heap.size ≤ q) ((wx' ++ w0 E qo fo) ++ wm) H locs → W p l e room_1 s m #[Value.ref b] below meth c H locs cells slots Q (F0 m (pc + 3) ls (.int r :: rest))) : W p l e room_1 s m #[Value.ref b] below meth c H locs cells slots Q (F0 m pc ls st) := by
  obtain ⟨fr, lo, h1, h2, K⟩ := K
  obtain ⟨fs, he⟩ := hr.x0
  refine xI_Vf (Cq := (RX10, TX10, 13)) Cx.1 G K Mt hlk he rfl ⟨Nat.le_trans (Nat.add_le_add_right h1 1) (Nat.le_of_ble_eq_true rfl), Nat.le_trans (Nat.add_le_add (Nat.add_le_add_left (Nat.add_le_add_right hnl 11) 8) h2) (Nat.le_of_ble_eq_true rfl)⟩ hn hsz hst hW hcs hdg (fun _ H locs G => kk H locs (xG_rot G))
theorem lm_I {y : MethodName} {cc' : ByteArray} {nL' n idx : Nat} {rt' : Option FieldType} {As : List Value} {r : Int32} {wx0 : va_W} (Cx : lwC p s m meth c b L xs E) (G : xG s E (fun q => s.heap.size ≤ q) ((wx ++ w0 E qo fo) ++ wm) H locs) (hr : Rel E b1 b2 wx0 wm) (K : cI l E y cc' nL' rt' (.ref b2 :: As) wm wm' r) (Mt : xM y RX12 cc' nL' rt' n) (hlk : xLk RL idx y) (hn : As.length = n) (hnl : nL' ≤ 50) (hsz : ls.size = 7) (hst : st = As.reverse ++ .ref b2 :: rest) (hW : (rest.map fun v => v.category).sum ≤ 8) (hcs : cells ≤ room_1.cells ∧ slots ≤ room_1.slots) (hdg : decode cL_law pc = .ok (.invokevirtual idx, 3))
    (kk : ∀ (H : Heap) (locs : List Loc), xG s E (fun q => s.heap.size ≤ q) ((w0 E qo fo ++ wm') ++ wx) H locs → W p l e room_1 s m #[Value.ref b] below meth c H locs cells slots Q (F0 m (pc + 3) ls (.int r :: rest))) : W p l e room_1 s m #[Value.ref b] below meth c H locs cells slots Q (F0 m pc ls st) := by
  obtain ⟨fr, lo, h1, h2, K⟩ := K
  obtain ⟨fs, he⟩ := hr.m0
  refine xI_Vf (Cq := (RX12, TX12, 36)) Cx.1 G K Mt hlk he rfl ⟨Nat.le_trans (Nat.add_le_add_right h1 1) (Nat.le_of_ble_eq_true rfl), Nat.le_trans (Nat.add_le_add (Nat.add_le_add_left (Nat.add_le_add_right hnl 11) 8) h2) (Nat.le_of_ble_eq_true rfl)⟩ hn hsz hst hW hcs hdg (fun _ H locs G => kk H locs (xG_rot (xG_rot G)))
theorem lx_L {y : MethodName} {cc' : ByteArray} {nL' n idx : Nat} {rt' : Option FieldType} {As : List Value} {r : Int64} (Cx : lwC p s m meth c b L xs E) (G : xG s E (fun q => s.heap.size ≤ q) ((w0 E qo fo ++ wm) ++ wx) H locs) (hr : Rel E b1 b2 wx wm) (K : cL l E y cc' nL' rt' (.ref b1 :: As) wx wx' r) (Mt : xM y RX10 cc' nL' rt' n) (hlk : xLk RL idx y) (hn : As.length = n) (hnl : nL' ≤ 50) (hsz : ls.size = 7) (hst : st = As.reverse ++ .ref b1 :: rest) (hW : (rest.map fun v => v.category).sum ≤ 8) (hcs : cells ≤ room_1.cells ∧ slots ≤ room_1.slots) (hdg : decode cL_law pc = .ok (.invokevirtual idx, 3))
    (kk : ∀ (H : Heap) (locs : List Loc), xG s E (fun q => s.heap.size ≤ q) ((wx' ++ w0 E qo fo) ++ wm) H locs → W p l e room_1 s m #[Value.ref b] below meth c H locs cells slots Q (F0 m (pc + 3) ls (.long r :: rest))) : W p l e room_1 s m #[Value.ref b] below meth c H locs cells slots Q (F0 m pc ls st) := by
  obtain ⟨fr, lo, h1, h2, K⟩ := K
  obtain ⟨fs, he⟩ := hr.x0
  refine xL_Vf (Cq := (RX10, TX10, 13)) Cx.1 G K Mt hlk he rfl ⟨Nat.le_trans (Nat.add_le_add_right h1 1) (Nat.le_of_ble_eq_true rfl), Nat.le_trans (Nat.add_le_add (Nat.add_le_add_left (Nat.add_le_add_right hnl 11) 8) h2) (Nat.le_of_ble_eq_true rfl)⟩ hn hsz hst hW hcs hdg (fun H locs G => kk H locs (xG_rot G))
theorem lm_L {y : MethodName} {cc' : ByteArray} {nL' n idx : Nat} {rt' : Option FieldType} {As : List Value} {r : Int64} {wx0 : va_W} (Cx : lwC p s m meth c b L xs E) (G : xG s E (fun q => s.heap.size ≤ q) ((wx ++ w0 E qo fo) ++ wm) H locs) (hr : Rel E b1 b2 wx0 wm) (K : cL l E y cc' nL' rt' (.ref b2 :: As) wm wm' r) (Mt : xM y RX12 cc' nL' rt' n) (hlk : xLk RL idx y) (hn : As.length = n) (hnl : nL' ≤ 50) (hsz : ls.size = 7) (hst : st = As.reverse ++ .ref b2 :: rest) (hW : (rest.map fun v => v.category).sum ≤ 8) (hcs : cells ≤ room_1.cells ∧ slots ≤ room_1.slots) (hdg : decode cL_law pc = .ok (.invokevirtual idx, 3))
    (kk : ∀ (H : Heap) (locs : List Loc), xG s E (fun q => s.heap.size ≤ q) ((w0 E qo fo ++ wm') ++ wx) H locs → W p l e room_1 s m #[Value.ref b] below meth c H locs cells slots Q (F0 m (pc + 3) ls (.long r :: rest))) : W p l e room_1 s m #[Value.ref b] below meth c H locs cells slots Q (F0 m pc ls st) := by
  obtain ⟨fr, lo, h1, h2, K⟩ := K
  obtain ⟨fs, he⟩ := hr.m0
  refine xL_Vf (Cq := (RX12, TX12, 36)) Cx.1 G K Mt hlk he rfl ⟨Nat.le_trans (Nat.add_le_add_right h1 1) (Nat.le_of_ble_eq_true rfl), Nat.le_trans (Nat.add_le_add (Nat.add_le_add_left (Nat.add_le_add_right hnl 11) 8) h2) (Nat.le_of_ble_eq_true rfl)⟩ hn hsz hst hW hcs hdg (fun H locs G => kk H locs (xG_rot (xG_rot G)))
theorem lm_N {y : MethodName} {cc' : ByteArray} {nL' n idx : Nat} {rt' : Option FieldType} {As : List Value} {r : Int32} {wx0 : va_W} {wn : (Nat → Nat) → va_W} (Cx : lwC p s m meth c b L xs E) (G : xG s E (fun q => s.heap.size ≤ q) ((wx ++ w0 E qo fo) ++ wm) H locs) (hr : Rel E b1 b2 wx0 wm) (K : xNI l E y cc' nL' rt' 14 330 10 83 (.ref b2 :: As) wm wn r) (Mt : xM y RX12 cc' nL' rt' n) (hlk : xLk RL idx y) (hn : As.length = n) (hnl : nL' ≤ 50) (hsz : ls.size = 7) (hst : st = As.reverse ++ .ref b2 :: rest) (hW : (rest.map fun v => v.category).sum ≤ 8) (hcs : cells + 10 ≤ room_1.cells ∧ slots + 83 ≤ room_1.slots) (hdg : decode cL_law pc = .ok (.invokevirtual idx, 3))
    (kk : ∀ (ad : Nat → Nat) (H : Heap) (locs : List Loc), xG s E (fun q => s.heap.size ≤ q) ((w0 E qo fo ++ wn ad) ++ wx) H locs → W p l e room_1 s m #[Value.ref b] below meth c H locs (cells + 10) (slots + 83) Q (F0 m (pc + 3) ls (.int r :: rest))) : W p l e room_1 s m #[Value.ref b] below meth c H locs cells slots Q (F0 m pc ls st) := by
  obtain ⟨fs, he⟩ := hr.m0
  refine xNI_Vf (Cq := (RX12, TX12, 36)) Cx.1 G K Mt hlk he rfl ⟨Nat.le_of_ble_eq_true rfl, Nat.le_trans (Nat.add_le_add_right (Nat.add_le_add_left (Nat.add_le_add_right hnl 11) 8) _) (Nat.le_of_ble_eq_true rfl)⟩ hn hsz hst hW hcs hdg (fun _ ad H locs G => kk ad H locs (xG_rot (xG_rot G)))
end LRows
