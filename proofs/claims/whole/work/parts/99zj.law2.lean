/-! the law's cases, the rest -/
set_option maxHeartbeats 4000000 in
set_option maxRecDepth 100000 in
theorem g_sawsOf {p : Program} {l : Launch} {e : Env} {s : State} {m : MethodId} {below : List Frame} {meth : Method} {c : Code} {b L : Nat} {xs : Nat → Int32} {E : xE} {b1 b2 qo i : Nat} {fo : Nat → Int64} {wx wm : va_W} {H : Heap} {locs : List Loc} {ls : Array Slot} {cells slots : Nat} {Q : State → Prop} (Cx : lwC p s m meth c b L xs E) (hi : i + 6 ≤ L) (G : xG s E (fun q => s.heap.size ≤ q) (((w0 E qo fo) ++ wm) ++ wx) H locs) (hr : Rel E b1 b2 wx wm) (hl : lv_has ls 7 [(4, .int (iI (i : Nat))), (3, .ref qo), (2, .ref b2), (1, .ref b1), (0, .ref b)]) (hcs : cells ≤ room_1.cells ∧ slots ≤ room_1.slots) (K : ∀ (wx wm : va_W) (H : Heap) (locs : List Loc), Rel E b1 b2 wx wm → xG s E (fun q => s.heap.size ≤ q) (((w0 E qo fo) ++ wm) ++ wx) H locs → W p l e room_1 s m #[Value.ref b] below meth c H locs (cells + 10) (slots + 83) Q (F0 m 1820 ls [])) : W p l e room_1 s m #[Value.ref b] below meth c H locs cells slots Q (F0 m 957 ls []) := by
  obtain ⟨wx2, wm2, r, r2, k1, k2, he, hr2⟩ := s_sawsOf (l := l) (l1 := (xs (i + 1))) hr
  refine lv_aload_n Cx.1.1 Cx.1.2.1 dL_law_957 rfl (lv_at hl 3 rfl) ?_
  refine w_arg (j := 1) Cx hi (by omega) G hl dL_law_958 dL_law_959 dL_law_961 rfl dL_law_962 dL_law_963 ?_
  refine lx_I (As := [.int (xs (i + 1))]) Cx G hr k1 mX10_sawsOf kL_138 rfl (by decide) hl.1 rfl (by simp) hcs dL_law_964 (fun H locs G => ?_)
  refine lv_aload_n Cx.1.1 Cx.1.2.1 dL_law_967 rfl (lv_at hl 2 rfl) ?_
  refine w_arg (j := 1) Cx hi (by omega) G hl dL_law_968 dL_law_969 dL_law_971 rfl dL_law_972 dL_law_973 ?_
  refine lm_I (As := [.int (xs (i + 1))]) Cx G hr k2 mX12_sawsOf kL_141 rfl (by decide) hl.1 rfl (by simp [Value.category]) hcs dL_law_974 (fun H locs G => ?_)
  refine lv_icmp_eq (tgt := 1820) Cx.1.1 Cx.1.2.1 dL_law_977 (by decide) (fun _ => ?_) (fun h => absurd he h)
  refine W.widen (k := cells + 10) (n := slots + 83) (by omega) (by omega) ?_
  exact K _ _ _ _ hr2 G
set_option maxHeartbeats 4000000 in
set_option maxRecDepth 100000 in
theorem g_meet {p : Program} {l : Launch} {e : Env} {s : State} {m : MethodId} {below : List Frame} {meth : Method} {c : Code} {b L : Nat} {xs : Nat → Int32} {E : xE} {b1 b2 qo i : Nat} {fo : Nat → Int64} {wx wm : va_W} {H : Heap} {locs : List Loc} {ls : Array Slot} {cells slots : Nat} {Q : State → Prop} (Cx : lwC p s m meth c b L xs E) (hi : i + 6 ≤ L) (G : xG s E (fun q => s.heap.size ≤ q) (((w0 E qo fo) ++ wm) ++ wx) H locs) (hr : Rel E b1 b2 wx wm) (hl : lv_has ls 7 [(4, .int (iI (i : Nat))), (3, .ref qo), (2, .ref b2), (1, .ref b1), (0, .ref b)]) (hcs : cells ≤ room_1.cells ∧ slots ≤ room_1.slots) (K : ∀ (wx wm : va_W) (H : Heap) (locs : List Loc), Rel E b1 b2 wx wm → xG s E (fun q => s.heap.size ≤ q) (((w0 E qo fo) ++ wm) ++ wx) H locs → W p l e room_1 s m #[Value.ref b] below meth c H locs (cells + 10) (slots + 83) Q (F0 m 1820 ls [])) : W p l e room_1 s m #[Value.ref b] below meth c H locs cells slots Q (F0 m 982 ls []) := by
  obtain ⟨wx2, wm2, r, r2, k1, k2, he, hr2⟩ := s_meet (l := l) (l1 := (xs (i + 1))) hr
  refine lv_aload_n Cx.1.1 Cx.1.2.1 dL_law_982 rfl (lv_at hl 3 rfl) ?_
  refine w_arg (j := 1) Cx hi (by omega) G hl dL_law_983 dL_law_984 dL_law_986 rfl dL_law_987 dL_law_988 ?_
  refine lx_I (As := [.int (xs (i + 1))]) Cx G hr k1 mX10_meet kL_142 rfl (by decide) hl.1 rfl (by simp) hcs dL_law_989 (fun H locs G => ?_)
  refine lv_aload_n Cx.1.1 Cx.1.2.1 dL_law_992 rfl (lv_at hl 2 rfl) ?_
  refine w_arg (j := 1) Cx hi (by omega) G hl dL_law_993 dL_law_994 dL_law_996 rfl dL_law_997 dL_law_998 ?_
  refine lm_I (As := [.int (xs (i + 1))]) Cx G hr k2 mX12_meet kL_145 rfl (by decide) hl.1 rfl (by simp [Value.category]) hcs dL_law_999 (fun H locs G => ?_)
  refine lv_icmp_eq (tgt := 1820) Cx.1.1 Cx.1.2.1 dL_law_1002 (by decide) (fun _ => ?_) (fun h => absurd he h)
  refine W.widen (k := cells + 10) (n := slots + 83) (by omega) (by omega) ?_
  exact K _ _ _ _ hr2 G
set_option maxHeartbeats 4000000 in
set_option maxRecDepth 100000 in
theorem g_meetAt {p : Program} {l : Launch} {e : Env} {s : State} {m : MethodId} {below : List Frame} {meth : Method} {c : Code} {b L : Nat} {xs : Nat → Int32} {E : xE} {b1 b2 qo i : Nat} {fo : Nat → Int64} {wx wm : va_W} {H : Heap} {locs : List Loc} {ls : Array Slot} {cells slots : Nat} {Q : State → Prop} (Cx : lwC p s m meth c b L xs E) (hi : i + 6 ≤ L) (G : xG s E (fun q => s.heap.size ≤ q) (((w0 E qo fo) ++ wm) ++ wx) H locs) (hr : Rel E b1 b2 wx wm) (hl : lv_has ls 7 [(4, .int (iI (i : Nat))), (3, .ref qo), (2, .ref b2), (1, .ref b1), (0, .ref b)]) (hcs : cells ≤ room_1.cells ∧ slots ≤ room_1.slots) (K : ∀ (wx wm : va_W) (H : Heap) (locs : List Loc), Rel E b1 b2 wx wm → xG s E (fun q => s.heap.size ≤ q) (((w0 E qo fo) ++ wm) ++ wx) H locs → W p l e room_1 s m #[Value.ref b] below meth c H locs (cells + 10) (slots + 83) Q (F0 m 1820 ls [])) : W p l e room_1 s m #[Value.ref b] below meth c H locs cells slots Q (F0 m 1007 ls []) := by
  obtain ⟨wx2, wm2, r, r2, k1, k2, he, hr2⟩ := s_meetAt (l := l) (l1 := (xs (i + 1))) hr
  refine lv_aload_n Cx.1.1 Cx.1.2.1 dL_law_1007 rfl (lv_at hl 3 rfl) ?_
  refine w_arg (j := 1) Cx hi (by omega) G hl dL_law_1008 dL_law_1009 dL_law_1011 rfl dL_law_1012 dL_law_1013 ?_
  refine lx_I (As := [.int (xs (i + 1))]) Cx G hr k1 mX10_meetAt kL_146 rfl (by decide) hl.1 rfl (by simp) hcs dL_law_1014 (fun H locs G => ?_)
  refine lv_aload_n Cx.1.1 Cx.1.2.1 dL_law_1017 rfl (lv_at hl 2 rfl) ?_
  refine w_arg (j := 1) Cx hi (by omega) G hl dL_law_1018 dL_law_1019 dL_law_1021 rfl dL_law_1022 dL_law_1023 ?_
  refine lm_I (As := [.int (xs (i + 1))]) Cx G hr k2 mX12_meetAt kL_149 rfl (by decide) hl.1 rfl (by simp [Value.category]) hcs dL_law_1024 (fun H locs G => ?_)
  refine lv_icmp_eq (tgt := 1820) Cx.1.1 Cx.1.2.1 dL_law_1027 (by decide) (fun _ => ?_) (fun h => absurd he h)
  refine W.widen (k := cells + 10) (n := slots + 83) (by omega) (by omega) ?_
  exact K _ _ _ _ hr2 G
set_option maxHeartbeats 4000000 in
set_option maxRecDepth 100000 in
theorem g_stable {p : Program} {l : Launch} {e : Env} {s : State} {m : MethodId} {below : List Frame} {meth : Method} {c : Code} {b L : Nat} {xs : Nat → Int32} {E : xE} {b1 b2 qo i : Nat} {fo : Nat → Int64} {wx wm : va_W} {H : Heap} {locs : List Loc} {ls : Array Slot} {cells slots : Nat} {Q : State → Prop} (Cx : lwC p s m meth c b L xs E) (hi : i + 6 ≤ L) (G : xG s E (fun q => s.heap.size ≤ q) (((w0 E qo fo) ++ wm) ++ wx) H locs) (hr : Rel E b1 b2 wx wm) (hl : lv_has ls 7 [(4, .int (iI (i : Nat))), (3, .ref qo), (2, .ref b2), (1, .ref b1), (0, .ref b)]) (hcs : cells ≤ room_1.cells ∧ slots ≤ room_1.slots) (K : ∀ (wx wm : va_W) (H : Heap) (locs : List Loc), Rel E b1 b2 wx wm → xG s E (fun q => s.heap.size ≤ q) (((w0 E qo fo) ++ wm) ++ wx) H locs → W p l e room_1 s m #[Value.ref b] below meth c H locs (cells + 10) (slots + 83) Q (F0 m 1820 ls [])) : W p l e room_1 s m #[Value.ref b] below meth c H locs cells slots Q (F0 m 1032 ls []) := by
  obtain ⟨wx2, wm2, r, r2, k1, k2, he, hr2⟩ := s_stable (l := l) hr
  refine lv_aload_n Cx.1.1 Cx.1.2.1 dL_law_1032 rfl (lv_at hl 3 rfl) ?_
  refine lx_I (As := []) Cx G hr k1 mX10_stable kL_150 rfl (by decide) hl.1 rfl (by simp) hcs dL_law_1033 (fun H locs G => ?_)
  refine lv_aload_n Cx.1.1 Cx.1.2.1 dL_law_1036 rfl (lv_at hl 2 rfl) ?_
  refine lm_I (As := []) Cx G hr k2 mX12_stable kL_153 rfl (by decide) hl.1 rfl (by simp [Value.category]) hcs dL_law_1037 (fun H locs G => ?_)
  refine lv_icmp_eq (tgt := 1820) Cx.1.1 Cx.1.2.1 dL_law_1040 (by decide) (fun _ => ?_) (fun h => absurd he h)
  refine W.widen (k := cells + 10) (n := slots + 83) (by omega) (by omega) ?_
  exact K _ _ _ _ hr2 G
set_option maxHeartbeats 4000000 in
set_option maxRecDepth 100000 in
theorem g_stableAt {p : Program} {l : Launch} {e : Env} {s : State} {m : MethodId} {below : List Frame} {meth : Method} {c : Code} {b L : Nat} {xs : Nat → Int32} {E : xE} {b1 b2 qo i : Nat} {fo : Nat → Int64} {wx wm : va_W} {H : Heap} {locs : List Loc} {ls : Array Slot} {cells slots : Nat} {Q : State → Prop} (Cx : lwC p s m meth c b L xs E) (hi : i + 6 ≤ L) (G : xG s E (fun q => s.heap.size ≤ q) (((w0 E qo fo) ++ wm) ++ wx) H locs) (hr : Rel E b1 b2 wx wm) (hl : lv_has ls 7 [(4, .int (iI (i : Nat))), (3, .ref qo), (2, .ref b2), (1, .ref b1), (0, .ref b)]) (hcs : cells ≤ room_1.cells ∧ slots ≤ room_1.slots) (K : ∀ (wx wm : va_W) (H : Heap) (locs : List Loc), Rel E b1 b2 wx wm → xG s E (fun q => s.heap.size ≤ q) (((w0 E qo fo) ++ wm) ++ wx) H locs → W p l e room_1 s m #[Value.ref b] below meth c H locs (cells + 10) (slots + 83) Q (F0 m 1820 ls [])) : W p l e room_1 s m #[Value.ref b] below meth c H locs cells slots Q (F0 m 1045 ls []) := by
  obtain ⟨wx2, wm2, r, r2, k1, k2, he, hr2⟩ := s_stableAt (l := l) (l1 := (xs (i + 1))) hr
  refine lv_aload_n Cx.1.1 Cx.1.2.1 dL_law_1045 rfl (lv_at hl 3 rfl) ?_
  refine w_arg (j := 1) Cx hi (by omega) G hl dL_law_1046 dL_law_1047 dL_law_1049 rfl dL_law_1050 dL_law_1051 ?_
  refine lx_I (As := [.int (xs (i + 1))]) Cx G hr k1 mX10_stableAt kL_154 rfl (by decide) hl.1 rfl (by simp) hcs dL_law_1052 (fun H locs G => ?_)
  refine lv_aload_n Cx.1.1 Cx.1.2.1 dL_law_1055 rfl (lv_at hl 2 rfl) ?_
  refine w_arg (j := 1) Cx hi (by omega) G hl dL_law_1056 dL_law_1057 dL_law_1059 rfl dL_law_1060 dL_law_1061 ?_
  refine lm_I (As := [.int (xs (i + 1))]) Cx G hr k2 mX12_stableAt kL_157 rfl (by decide) hl.1 rfl (by simp [Value.category]) hcs dL_law_1062 (fun H locs G => ?_)
  refine lv_icmp_eq (tgt := 1820) Cx.1.1 Cx.1.2.1 dL_law_1065 (by decide) (fun _ => ?_) (fun h => absurd he h)
  refine W.widen (k := cells + 10) (n := slots + 83) (by omega) (by omega) ?_
  exact K _ _ _ _ hr2 G
set_option maxHeartbeats 4000000 in
set_option maxRecDepth 100000 in
theorem g_leaves {p : Program} {l : Launch} {e : Env} {s : State} {m : MethodId} {below : List Frame} {meth : Method} {c : Code} {b L : Nat} {xs : Nat → Int32} {E : xE} {b1 b2 qo i : Nat} {fo : Nat → Int64} {wx wm : va_W} {H : Heap} {locs : List Loc} {ls : Array Slot} {cells slots : Nat} {Q : State → Prop} (Cx : lwC p s m meth c b L xs E) (hi : i + 6 ≤ L) (G : xG s E (fun q => s.heap.size ≤ q) (((w0 E qo fo) ++ wm) ++ wx) H locs) (hr : Rel E b1 b2 wx wm) (hl : lv_has ls 7 [(4, .int (iI (i : Nat))), (3, .ref qo), (2, .ref b2), (1, .ref b1), (0, .ref b)]) (hcs : cells ≤ room_1.cells ∧ slots ≤ room_1.slots) (K : ∀ (wx wm : va_W) (H : Heap) (locs : List Loc), Rel E b1 b2 wx wm → xG s E (fun q => s.heap.size ≤ q) (((w0 E qo fo) ++ wm) ++ wx) H locs → W p l e room_1 s m #[Value.ref b] below meth c H locs (cells + 10) (slots + 83) Q (F0 m 1820 ls [])) : W p l e room_1 s m #[Value.ref b] below meth c H locs cells slots Q (F0 m 1070 ls []) := by
  obtain ⟨wx2, wm2, r, r2, k1, k2, he, hr2⟩ := s_leaves (l := l) hr
  refine lv_aload_n Cx.1.1 Cx.1.2.1 dL_law_1070 rfl (lv_at hl 3 rfl) ?_
  refine lx_I (As := []) Cx G hr k1 mX10_leaves kL_158 rfl (by decide) hl.1 rfl (by simp) hcs dL_law_1071 (fun H locs G => ?_)
  refine lv_aload_n Cx.1.1 Cx.1.2.1 dL_law_1074 rfl (lv_at hl 2 rfl) ?_
  refine lm_I (As := []) Cx G hr k2 mX12_leaves kL_161 rfl (by decide) hl.1 rfl (by simp [Value.category]) hcs dL_law_1075 (fun H locs G => ?_)
  refine lv_icmp_eq (tgt := 1820) Cx.1.1 Cx.1.2.1 dL_law_1078 (by decide) (fun _ => ?_) (fun h => absurd he h)
  refine W.widen (k := cells + 10) (n := slots + 83) (by omega) (by omega) ?_
  exact K _ _ _ _ hr2 G
set_option maxHeartbeats 4000000 in
set_option maxRecDepth 100000 in
theorem g_fits {p : Program} {l : Launch} {e : Env} {s : State} {m : MethodId} {below : List Frame} {meth : Method} {c : Code} {b L : Nat} {xs : Nat → Int32} {E : xE} {b1 b2 qo i : Nat} {fo : Nat → Int64} {wx wm : va_W} {H : Heap} {locs : List Loc} {ls : Array Slot} {cells slots : Nat} {Q : State → Prop} (Cx : lwC p s m meth c b L xs E) (hi : i + 6 ≤ L) (G : xG s E (fun q => s.heap.size ≤ q) (((w0 E qo fo) ++ wm) ++ wx) H locs) (hr : Rel E b1 b2 wx wm) (hl : lv_has ls 7 [(4, .int (iI (i : Nat))), (3, .ref qo), (2, .ref b2), (1, .ref b1), (0, .ref b)]) (hcs : cells ≤ room_1.cells ∧ slots ≤ room_1.slots) (K : ∀ (wx wm : va_W) (H : Heap) (locs : List Loc), Rel E b1 b2 wx wm → xG s E (fun q => s.heap.size ≤ q) (((w0 E qo fo) ++ wm) ++ wx) H locs → W p l e room_1 s m #[Value.ref b] below meth c H locs (cells + 10) (slots + 83) Q (F0 m 1820 ls [])) : W p l e room_1 s m #[Value.ref b] below meth c H locs cells slots Q (F0 m 1083 ls []) := by
  obtain ⟨wx2, wm2, r, r2, k1, k2, he, hr2⟩ := s_fits (l := l) hr
  refine lv_aload_n Cx.1.1 Cx.1.2.1 dL_law_1083 rfl (lv_at hl 3 rfl) ?_
  refine lx_I (As := []) Cx G hr k1 mX10_fits kL_162 rfl (by decide) hl.1 rfl (by simp) hcs dL_law_1084 (fun H locs G => ?_)
  refine lv_aload_n Cx.1.1 Cx.1.2.1 dL_law_1087 rfl (lv_at hl 2 rfl) ?_
  refine lm_I (As := []) Cx G hr k2 mX12_fits kL_165 rfl (by decide) hl.1 rfl (by simp [Value.category]) hcs dL_law_1088 (fun H locs G => ?_)
  refine lv_icmp_eq (tgt := 1820) Cx.1.1 Cx.1.2.1 dL_law_1091 (by decide) (fun _ => ?_) (fun h => absurd he h)
  refine W.widen (k := cells + 10) (n := slots + 83) (by omega) (by omega) ?_
  exact K _ _ _ _ hr2 G
set_option maxHeartbeats 4000000 in
set_option maxRecDepth 100000 in
theorem g_fitAt {p : Program} {l : Launch} {e : Env} {s : State} {m : MethodId} {below : List Frame} {meth : Method} {c : Code} {b L : Nat} {xs : Nat → Int32} {E : xE} {b1 b2 qo i : Nat} {fo : Nat → Int64} {wx wm : va_W} {H : Heap} {locs : List Loc} {ls : Array Slot} {cells slots : Nat} {Q : State → Prop} (Cx : lwC p s m meth c b L xs E) (hi : i + 6 ≤ L) (G : xG s E (fun q => s.heap.size ≤ q) (((w0 E qo fo) ++ wm) ++ wx) H locs) (hr : Rel E b1 b2 wx wm) (hl : lv_has ls 7 [(4, .int (iI (i : Nat))), (3, .ref qo), (2, .ref b2), (1, .ref b1), (0, .ref b)]) (hcs : cells ≤ room_1.cells ∧ slots ≤ room_1.slots) (K : ∀ (wx wm : va_W) (H : Heap) (locs : List Loc), Rel E b1 b2 wx wm → xG s E (fun q => s.heap.size ≤ q) (((w0 E qo fo) ++ wm) ++ wx) H locs → W p l e room_1 s m #[Value.ref b] below meth c H locs (cells + 10) (slots + 83) Q (F0 m 1820 ls [])) : W p l e room_1 s m #[Value.ref b] below meth c H locs cells slots Q (F0 m 1096 ls []) := by
  obtain ⟨wx2, wm2, r, r2, k1, k2, he, hr2⟩ := s_fitAt (l := l) (l1 := (xs (i + 1))) hr
  refine lv_aload_n Cx.1.1 Cx.1.2.1 dL_law_1096 rfl (lv_at hl 3 rfl) ?_
  refine w_arg (j := 1) Cx hi (by omega) G hl dL_law_1097 dL_law_1098 dL_law_1100 rfl dL_law_1101 dL_law_1102 ?_
  refine lx_I (As := [.int (xs (i + 1))]) Cx G hr k1 mX10_fitAt kL_166 rfl (by decide) hl.1 rfl (by simp) hcs dL_law_1103 (fun H locs G => ?_)
  refine lv_aload_n Cx.1.1 Cx.1.2.1 dL_law_1106 rfl (lv_at hl 2 rfl) ?_
  refine w_arg (j := 1) Cx hi (by omega) G hl dL_law_1107 dL_law_1108 dL_law_1110 rfl dL_law_1111 dL_law_1112 ?_
  refine lm_I (As := [.int (xs (i + 1))]) Cx G hr k2 mX12_fitAt kL_169 rfl (by decide) hl.1 rfl (by simp [Value.category]) hcs dL_law_1113 (fun H locs G => ?_)
  refine lv_icmp_eq (tgt := 1820) Cx.1.1 Cx.1.2.1 dL_law_1116 (by decide) (fun _ => ?_) (fun h => absurd he h)
  refine W.widen (k := cells + 10) (n := slots + 83) (by omega) (by omega) ?_
  exact K _ _ _ _ hr2 G
set_option maxHeartbeats 4000000 in
set_option maxRecDepth 100000 in
theorem g_could {p : Program} {l : Launch} {e : Env} {s : State} {m : MethodId} {below : List Frame} {meth : Method} {c : Code} {b L : Nat} {xs : Nat → Int32} {E : xE} {b1 b2 qo i : Nat} {fo : Nat → Int64} {wx wm : va_W} {H : Heap} {locs : List Loc} {ls : Array Slot} {cells slots : Nat} {Q : State → Prop} (Cx : lwC p s m meth c b L xs E) (hi : i + 6 ≤ L) (G : xG s E (fun q => s.heap.size ≤ q) (((w0 E qo fo) ++ wm) ++ wx) H locs) (hr : Rel E b1 b2 wx wm) (hl : lv_has ls 7 [(4, .int (iI (i : Nat))), (3, .ref qo), (2, .ref b2), (1, .ref b1), (0, .ref b)]) (hcs : cells ≤ room_1.cells ∧ slots ≤ room_1.slots) (K : ∀ (wx wm : va_W) (H : Heap) (locs : List Loc), Rel E b1 b2 wx wm → xG s E (fun q => s.heap.size ≤ q) (((w0 E qo fo) ++ wm) ++ wx) H locs → W p l e room_1 s m #[Value.ref b] below meth c H locs (cells + 10) (slots + 83) Q (F0 m 1820 ls [])) : W p l e room_1 s m #[Value.ref b] below meth c H locs cells slots Q (F0 m 1121 ls []) := by
  obtain ⟨wx2, wm2, r, r2, k1, k2, he, hr2⟩ := s_could (l := l) hr
  refine lv_aload_n Cx.1.1 Cx.1.2.1 dL_law_1121 rfl (lv_at hl 3 rfl) ?_
  refine lx_I (As := []) Cx G hr k1 mX10_could kL_170 rfl (by decide) hl.1 rfl (by simp) hcs dL_law_1122 (fun H locs G => ?_)
  refine lv_aload_n Cx.1.1 Cx.1.2.1 dL_law_1125 rfl (lv_at hl 2 rfl) ?_
  refine lm_I (As := []) Cx G hr k2 mX12_could kL_173 rfl (by decide) hl.1 rfl (by simp [Value.category]) hcs dL_law_1126 (fun H locs G => ?_)
  refine lv_icmp_eq (tgt := 1820) Cx.1.1 Cx.1.2.1 dL_law_1129 (by decide) (fun _ => ?_) (fun h => absurd he h)
  refine W.widen (k := cells + 10) (n := slots + 83) (by omega) (by omega) ?_
  exact K _ _ _ _ hr2 G
set_option maxHeartbeats 4000000 in
set_option maxRecDepth 100000 in
theorem g_surely {p : Program} {l : Launch} {e : Env} {s : State} {m : MethodId} {below : List Frame} {meth : Method} {c : Code} {b L : Nat} {xs : Nat → Int32} {E : xE} {b1 b2 qo i : Nat} {fo : Nat → Int64} {wx wm : va_W} {H : Heap} {locs : List Loc} {ls : Array Slot} {cells slots : Nat} {Q : State → Prop} (Cx : lwC p s m meth c b L xs E) (hi : i + 6 ≤ L) (G : xG s E (fun q => s.heap.size ≤ q) (((w0 E qo fo) ++ wm) ++ wx) H locs) (hr : Rel E b1 b2 wx wm) (hl : lv_has ls 7 [(4, .int (iI (i : Nat))), (3, .ref qo), (2, .ref b2), (1, .ref b1), (0, .ref b)]) (hcs : cells ≤ room_1.cells ∧ slots ≤ room_1.slots) (K : ∀ (wx wm : va_W) (H : Heap) (locs : List Loc), Rel E b1 b2 wx wm → xG s E (fun q => s.heap.size ≤ q) (((w0 E qo fo) ++ wm) ++ wx) H locs → W p l e room_1 s m #[Value.ref b] below meth c H locs (cells + 10) (slots + 83) Q (F0 m 1820 ls [])) : W p l e room_1 s m #[Value.ref b] below meth c H locs cells slots Q (F0 m 1134 ls []) := by
  obtain ⟨wx2, wm2, r, r2, k1, k2, he, hr2⟩ := s_surely (l := l) hr
  refine lv_aload_n Cx.1.1 Cx.1.2.1 dL_law_1134 rfl (lv_at hl 3 rfl) ?_
  refine lx_I (As := []) Cx G hr k1 mX10_surely kL_174 rfl (by decide) hl.1 rfl (by simp) hcs dL_law_1135 (fun H locs G => ?_)
  refine lv_aload_n Cx.1.1 Cx.1.2.1 dL_law_1138 rfl (lv_at hl 2 rfl) ?_
  refine lm_I (As := []) Cx G hr k2 mX12_surely kL_177 rfl (by decide) hl.1 rfl (by simp [Value.category]) hcs dL_law_1139 (fun H locs G => ?_)
  refine lv_icmp_eq (tgt := 1820) Cx.1.1 Cx.1.2.1 dL_law_1142 (by decide) (fun _ => ?_) (fun h => absurd he h)
  refine W.widen (k := cells + 10) (n := slots + 83) (by omega) (by omega) ?_
  exact K _ _ _ _ hr2 G
set_option maxHeartbeats 4000000 in
set_option maxRecDepth 100000 in
theorem g_ask {p : Program} {l : Launch} {e : Env} {s : State} {m : MethodId} {below : List Frame} {meth : Method} {c : Code} {b L : Nat} {xs : Nat → Int32} {E : xE} {b1 b2 qo i : Nat} {fo : Nat → Int64} {wx wm : va_W} {H : Heap} {locs : List Loc} {ls : Array Slot} {cells slots : Nat} {Q : State → Prop} (Cx : lwC p s m meth c b L xs E) (hi : i + 6 ≤ L) (G : xG s E (fun q => s.heap.size ≤ q) (((w0 E qo fo) ++ wm) ++ wx) H locs) (hr : Rel E b1 b2 wx wm) (hl : lv_has ls 7 [(4, .int (iI (i : Nat))), (3, .ref qo), (2, .ref b2), (1, .ref b1), (0, .ref b)]) (hcs : cells ≤ room_1.cells ∧ slots ≤ room_1.slots) (K : ∀ (wx wm : va_W) (H : Heap) (locs : List Loc), Rel E b1 b2 wx wm → xG s E (fun q => s.heap.size ≤ q) (((w0 E qo fo) ++ wm) ++ wx) H locs → W p l e room_1 s m #[Value.ref b] below meth c H locs (cells + 10) (slots + 83) Q (F0 m 1820 ls [])) : W p l e room_1 s m #[Value.ref b] below meth c H locs cells slots Q (F0 m 1147 ls []) := by
  obtain ⟨wx2, wm2, r, r2, k1, k2, he, hr2⟩ := s_ask (l := l) hr
  refine lv_aload_n Cx.1.1 Cx.1.2.1 dL_law_1147 rfl (lv_at hl 3 rfl) ?_
  refine lx_I (As := []) Cx G hr k1 mX10_ask kL_178 rfl (by decide) hl.1 rfl (by simp) hcs dL_law_1148 (fun H locs G => ?_)
  refine lv_aload_n Cx.1.1 Cx.1.2.1 dL_law_1151 rfl (lv_at hl 2 rfl) ?_
  refine lm_I (As := []) Cx G hr k2 mX12_ask kL_181 rfl (by decide) hl.1 rfl (by simp [Value.category]) hcs dL_law_1152 (fun H locs G => ?_)
  refine lv_icmp_eq (tgt := 1820) Cx.1.1 Cx.1.2.1 dL_law_1155 (by decide) (fun _ => ?_) (fun h => absurd he h)
  refine W.widen (k := cells + 10) (n := slots + 83) (by omega) (by omega) ?_
  exact K _ _ _ _ hr2 G
set_option maxHeartbeats 4000000 in
set_option maxRecDepth 100000 in
theorem g_askLeaves {p : Program} {l : Launch} {e : Env} {s : State} {m : MethodId} {below : List Frame} {meth : Method} {c : Code} {b L : Nat} {xs : Nat → Int32} {E : xE} {b1 b2 qo i : Nat} {fo : Nat → Int64} {wx wm : va_W} {H : Heap} {locs : List Loc} {ls : Array Slot} {cells slots : Nat} {Q : State → Prop} (Cx : lwC p s m meth c b L xs E) (hi : i + 6 ≤ L) (G : xG s E (fun q => s.heap.size ≤ q) (((w0 E qo fo) ++ wm) ++ wx) H locs) (hr : Rel E b1 b2 wx wm) (hl : lv_has ls 7 [(4, .int (iI (i : Nat))), (3, .ref qo), (2, .ref b2), (1, .ref b1), (0, .ref b)]) (hcs : cells ≤ room_1.cells ∧ slots ≤ room_1.slots) (K : ∀ (wx wm : va_W) (H : Heap) (locs : List Loc), Rel E b1 b2 wx wm → xG s E (fun q => s.heap.size ≤ q) (((w0 E qo fo) ++ wm) ++ wx) H locs → W p l e room_1 s m #[Value.ref b] below meth c H locs (cells + 10) (slots + 83) Q (F0 m 1820 ls [])) : W p l e room_1 s m #[Value.ref b] below meth c H locs cells slots Q (F0 m 1160 ls []) := by
  obtain ⟨wx2, wm2, r, r2, k1, k2, he, hr2⟩ := s_askLeaves (l := l) hr
  refine lv_aload_n Cx.1.1 Cx.1.2.1 dL_law_1160 rfl (lv_at hl 3 rfl) ?_
  refine lx_I (As := []) Cx G hr k1 mX10_askLeaves kL_182 rfl (by decide) hl.1 rfl (by simp) hcs dL_law_1161 (fun H locs G => ?_)
  refine lv_aload_n Cx.1.1 Cx.1.2.1 dL_law_1164 rfl (lv_at hl 2 rfl) ?_
  refine lm_I (As := []) Cx G hr k2 mX12_askLeaves kL_185 rfl (by decide) hl.1 rfl (by simp [Value.category]) hcs dL_law_1165 (fun H locs G => ?_)
  refine lv_icmp_eq (tgt := 1820) Cx.1.1 Cx.1.2.1 dL_law_1168 (by decide) (fun _ => ?_) (fun h => absurd he h)
  refine W.widen (k := cells + 10) (n := slots + 83) (by omega) (by omega) ?_
  exact K _ _ _ _ hr2 G
set_option maxHeartbeats 4000000 in
set_option maxRecDepth 100000 in
theorem g_judge {p : Program} {l : Launch} {e : Env} {s : State} {m : MethodId} {below : List Frame} {meth : Method} {c : Code} {b L : Nat} {xs : Nat → Int32} {E : xE} {b1 b2 qo i : Nat} {fo : Nat → Int64} {wx wm : va_W} {H : Heap} {locs : List Loc} {ls : Array Slot} {cells slots : Nat} {Q : State → Prop} (Cx : lwC p s m meth c b L xs E) (hi : i + 6 ≤ L) (G : xG s E (fun q => s.heap.size ≤ q) (((w0 E qo fo) ++ wm) ++ wx) H locs) (hr : Rel E b1 b2 wx wm) (hl : lv_has ls 7 [(4, .int (iI (i : Nat))), (3, .ref qo), (2, .ref b2), (1, .ref b1), (0, .ref b)]) (hcs : cells ≤ room_1.cells ∧ slots ≤ room_1.slots) (K : ∀ (wx wm : va_W) (H : Heap) (locs : List Loc), Rel E b1 b2 wx wm → xG s E (fun q => s.heap.size ≤ q) (((w0 E qo fo) ++ wm) ++ wx) H locs → W p l e room_1 s m #[Value.ref b] below meth c H locs (cells + 10) (slots + 83) Q (F0 m 1820 ls [])) : W p l e room_1 s m #[Value.ref b] below meth c H locs cells slots Q (F0 m 1173 ls []) := by
  obtain ⟨wx2, wm2, r, r2, k1, k2, he, hr2⟩ := s_judge (l := l) hr
  refine lv_aload_n Cx.1.1 Cx.1.2.1 dL_law_1173 rfl (lv_at hl 3 rfl) ?_
  refine lx_I (As := []) Cx G hr k1 mX10_judge kL_186 rfl (by decide) hl.1 rfl (by simp) hcs dL_law_1174 (fun H locs G => ?_)
  refine lv_aload_n Cx.1.1 Cx.1.2.1 dL_law_1177 rfl (lv_at hl 2 rfl) ?_
  refine lm_I (As := []) Cx G hr k2 mX12_judge kL_189 rfl (by decide) hl.1 rfl (by simp [Value.category]) hcs dL_law_1178 (fun H locs G => ?_)
  refine lv_icmp_eq (tgt := 1820) Cx.1.1 Cx.1.2.1 dL_law_1181 (by decide) (fun _ => ?_) (fun h => absurd he h)
  refine W.widen (k := cells + 10) (n := slots + 83) (by omega) (by omega) ?_
  exact K _ _ _ _ hr2 G
set_option maxHeartbeats 4000000 in
set_option maxRecDepth 100000 in
theorem g_saw {p : Program} {l : Launch} {e : Env} {s : State} {m : MethodId} {below : List Frame} {meth : Method} {c : Code} {b L : Nat} {xs : Nat → Int32} {E : xE} {b1 b2 qo i : Nat} {fo : Nat → Int64} {wx wm : va_W} {H : Heap} {locs : List Loc} {ls : Array Slot} {cells slots : Nat} {Q : State → Prop} (Cx : lwC p s m meth c b L xs E) (hi : i + 6 ≤ L) (G : xG s E (fun q => s.heap.size ≤ q) (((w0 E qo fo) ++ wm) ++ wx) H locs) (hr : Rel E b1 b2 wx wm) (hl : lv_has ls 7 [(4, .int (iI (i : Nat))), (3, .ref qo), (2, .ref b2), (1, .ref b1), (0, .ref b)]) (hcs : cells ≤ room_1.cells ∧ slots ≤ room_1.slots) (K : ∀ (wx wm : va_W) (H : Heap) (locs : List Loc), Rel E b1 b2 wx wm → xG s E (fun q => s.heap.size ≤ q) (((w0 E qo fo) ++ wm) ++ wx) H locs → W p l e room_1 s m #[Value.ref b] below meth c H locs (cells + 10) (slots + 83) Q (F0 m 1820 ls [])) : W p l e room_1 s m #[Value.ref b] below meth c H locs cells slots Q (F0 m 1186 ls []) := by
  obtain ⟨wx2, wm2, r, r2, k1, k2, he, hr2⟩ := s_saw (l := l) (l1 := (xs (i + 1))) (l2 := (if xs (i + 2) = 0 then (0 : Int32) else 1)) (l3 := (if xs (i + 3) = 0 then (0 : Int32) else 1)) (l4 := (if xs (i + 4) = 0 then (0 : Int32) else 1)) hr
  refine lv_aload_n Cx.1.1 Cx.1.2.1 dL_law_1186 rfl (lv_at hl 3 rfl) ?_
  refine w_arg (j := 1) Cx hi (by omega) G hl dL_law_1187 dL_law_1188 dL_law_1190 rfl dL_law_1191 dL_law_1192 ?_
  refine w_arg (j := 2) Cx hi (by omega) G hl dL_law_1193 dL_law_1194 dL_law_1196 rfl dL_law_1197 dL_law_1198 ?_
  refine w_bool Cx dL_law_1199 dL_law_1202 dL_law_1203 dL_law_1206 ?_
  refine w_arg (j := 3) Cx hi (by omega) G hl dL_law_1207 dL_law_1208 dL_law_1210 rfl dL_law_1211 dL_law_1212 ?_
  refine w_bool Cx dL_law_1213 dL_law_1216 dL_law_1217 dL_law_1220 ?_
  refine w_arg (j := 4) Cx hi (by omega) G hl dL_law_1221 dL_law_1222 dL_law_1224 rfl dL_law_1225 dL_law_1226 ?_
  refine w_bool Cx dL_law_1227 dL_law_1230 dL_law_1231 dL_law_1234 ?_
  refine lx_I (As := [.int (xs (i + 1)), .int (if xs (i + 2) = 0 then (0 : Int32) else 1), .int (if xs (i + 3) = 0 then (0 : Int32) else 1), .int (if xs (i + 4) = 0 then (0 : Int32) else 1)]) Cx G hr k1 mX10_saw kL_190 rfl (by decide) hl.1 rfl (by simp) hcs dL_law_1235 (fun H locs G => ?_)
  refine lv_aload_n Cx.1.1 Cx.1.2.1 dL_law_1238 rfl (lv_at hl 2 rfl) ?_
  refine w_arg (j := 1) Cx hi (by omega) G hl dL_law_1239 dL_law_1240 dL_law_1242 rfl dL_law_1243 dL_law_1244 ?_
  refine w_arg (j := 2) Cx hi (by omega) G hl dL_law_1245 dL_law_1246 dL_law_1248 rfl dL_law_1249 dL_law_1250 ?_
  refine w_bool Cx dL_law_1251 dL_law_1254 dL_law_1255 dL_law_1258 ?_
  refine w_arg (j := 3) Cx hi (by omega) G hl dL_law_1259 dL_law_1260 dL_law_1262 rfl dL_law_1263 dL_law_1264 ?_
  refine w_bool Cx dL_law_1265 dL_law_1268 dL_law_1269 dL_law_1272 ?_
  refine w_arg (j := 4) Cx hi (by omega) G hl dL_law_1273 dL_law_1274 dL_law_1276 rfl dL_law_1277 dL_law_1278 ?_
  refine w_bool Cx dL_law_1279 dL_law_1282 dL_law_1283 dL_law_1286 ?_
  refine lm_I (As := [.int (xs (i + 1)), .int (if xs (i + 2) = 0 then (0 : Int32) else 1), .int (if xs (i + 3) = 0 then (0 : Int32) else 1), .int (if xs (i + 4) = 0 then (0 : Int32) else 1)]) Cx G hr k2 mX12_saw kL_194 rfl (by decide) hl.1 rfl (by simp [Value.category]) hcs dL_law_1287 (fun H locs G => ?_)
  refine lv_icmp_eq (tgt := 1820) Cx.1.1 Cx.1.2.1 dL_law_1290 (by decide) (fun _ => ?_) (fun h => absurd he h)
  refine W.widen (k := cells + 10) (n := slots + 83) (by omega) (by omega) ?_
  exact K _ _ _ _ hr2 G
set_option maxHeartbeats 4000000 in
set_option maxRecDepth 100000 in
theorem g_rests {p : Program} {l : Launch} {e : Env} {s : State} {m : MethodId} {below : List Frame} {meth : Method} {c : Code} {b L : Nat} {xs : Nat → Int32} {E : xE} {b1 b2 qo i : Nat} {fo : Nat → Int64} {wx wm : va_W} {H : Heap} {locs : List Loc} {ls : Array Slot} {cells slots : Nat} {Q : State → Prop} (Cx : lwC p s m meth c b L xs E) (hi : i + 6 ≤ L) (G : xG s E (fun q => s.heap.size ≤ q) (((w0 E qo fo) ++ wm) ++ wx) H locs) (hr : Rel E b1 b2 wx wm) (hl : lv_has ls 7 [(4, .int (iI (i : Nat))), (3, .ref qo), (2, .ref b2), (1, .ref b1), (0, .ref b)]) (hcs : cells ≤ room_1.cells ∧ slots ≤ room_1.slots) (K : ∀ (wx wm : va_W) (H : Heap) (locs : List Loc), Rel E b1 b2 wx wm → xG s E (fun q => s.heap.size ≤ q) (((w0 E qo fo) ++ wm) ++ wx) H locs → W p l e room_1 s m #[Value.ref b] below meth c H locs (cells + 10) (slots + 83) Q (F0 m 1820 ls [])) : W p l e room_1 s m #[Value.ref b] below meth c H locs cells slots Q (F0 m 1295 ls []) := by
  obtain ⟨wx2, wm2, r, r2, k1, k2, he, hr2⟩ := s_rests (l := l) (l1 := (xs (i + 1))) hr
  refine lv_aload_n Cx.1.1 Cx.1.2.1 dL_law_1295 rfl (lv_at hl 3 rfl) ?_
  refine w_arg (j := 1) Cx hi (by omega) G hl dL_law_1296 dL_law_1297 dL_law_1299 rfl dL_law_1300 dL_law_1301 ?_
  refine lx_I (As := [.int (xs (i + 1))]) Cx G hr k1 mX10_rests kL_195 rfl (by decide) hl.1 rfl (by simp) hcs dL_law_1302 (fun H locs G => ?_)
  refine lv_aload_n Cx.1.1 Cx.1.2.1 dL_law_1305 rfl (lv_at hl 2 rfl) ?_
  refine w_arg (j := 1) Cx hi (by omega) G hl dL_law_1306 dL_law_1307 dL_law_1309 rfl dL_law_1310 dL_law_1311 ?_
  refine lm_I (As := [.int (xs (i + 1))]) Cx G hr k2 mX12_rests kL_198 rfl (by decide) hl.1 rfl (by simp [Value.category]) hcs dL_law_1312 (fun H locs G => ?_)
  refine lv_icmp_eq (tgt := 1820) Cx.1.1 Cx.1.2.1 dL_law_1315 (by decide) (fun _ => ?_) (fun h => absurd he h)
  refine W.widen (k := cells + 10) (n := slots + 83) (by omega) (by omega) ?_
  exact K _ _ _ _ hr2 G
set_option maxHeartbeats 4000000 in
set_option maxRecDepth 100000 in
theorem g_rest {p : Program} {l : Launch} {e : Env} {s : State} {m : MethodId} {below : List Frame} {meth : Method} {c : Code} {b L : Nat} {xs : Nat → Int32} {E : xE} {b1 b2 qo i : Nat} {fo : Nat → Int64} {wx wm : va_W} {H : Heap} {locs : List Loc} {ls : Array Slot} {cells slots : Nat} {Q : State → Prop} (Cx : lwC p s m meth c b L xs E) (hi : i + 6 ≤ L) (G : xG s E (fun q => s.heap.size ≤ q) (((w0 E qo fo) ++ wm) ++ wx) H locs) (hr : Rel E b1 b2 wx wm) (hl : lv_has ls 7 [(4, .int (iI (i : Nat))), (3, .ref qo), (2, .ref b2), (1, .ref b1), (0, .ref b)]) (hcs : cells ≤ room_1.cells ∧ slots ≤ room_1.slots) (K : ∀ (wx wm : va_W) (H : Heap) (locs : List Loc), Rel E b1 b2 wx wm → xG s E (fun q => s.heap.size ≤ q) (((w0 E qo fo) ++ wm) ++ wx) H locs → W p l e room_1 s m #[Value.ref b] below meth c H locs (cells + 10) (slots + 83) Q (F0 m 1820 ls [])) : W p l e room_1 s m #[Value.ref b] below meth c H locs cells slots Q (F0 m 1320 ls []) := by
  obtain ⟨wx2, wm2, r, r2, k1, k2, he, hr2⟩ := s_rest (l := l) (l1 := (xs (i + 1))) hr
  refine lv_aload_n Cx.1.1 Cx.1.2.1 dL_law_1320 rfl (lv_at hl 3 rfl) ?_
  refine w_arg (j := 1) Cx hi (by omega) G hl dL_law_1321 dL_law_1322 dL_law_1324 rfl dL_law_1325 dL_law_1326 ?_
  refine lx_I (As := [.int (xs (i + 1))]) Cx G hr k1 mX10_rest kL_199 rfl (by decide) hl.1 rfl (by simp) hcs dL_law_1327 (fun H locs G => ?_)
  refine lv_aload_n Cx.1.1 Cx.1.2.1 dL_law_1330 rfl (lv_at hl 2 rfl) ?_
  refine w_arg (j := 1) Cx hi (by omega) G hl dL_law_1331 dL_law_1332 dL_law_1334 rfl dL_law_1335 dL_law_1336 ?_
  refine lm_I (As := [.int (xs (i + 1))]) Cx G hr k2 mX12_rest kL_202 rfl (by decide) hl.1 rfl (by simp [Value.category]) hcs dL_law_1337 (fun H locs G => ?_)
  refine lv_icmp_eq (tgt := 1820) Cx.1.1 Cx.1.2.1 dL_law_1340 (by decide) (fun _ => ?_) (fun h => absurd he h)
  refine W.widen (k := cells + 10) (n := slots + 83) (by omega) (by omega) ?_
  exact K _ _ _ _ hr2 G
set_option maxHeartbeats 4000000 in
set_option maxRecDepth 100000 in
theorem g_odds {p : Program} {l : Launch} {e : Env} {s : State} {m : MethodId} {below : List Frame} {meth : Method} {c : Code} {b L : Nat} {xs : Nat → Int32} {E : xE} {b1 b2 qo i : Nat} {fo : Nat → Int64} {wx wm : va_W} {H : Heap} {locs : List Loc} {ls : Array Slot} {cells slots : Nat} {Q : State → Prop} (Cx : lwC p s m meth c b L xs E) (hi : i + 6 ≤ L) (G : xG s E (fun q => s.heap.size ≤ q) (((w0 E qo fo) ++ wm) ++ wx) H locs) (hr : Rel E b1 b2 wx wm) (hl : lv_has ls 7 [(4, .int (iI (i : Nat))), (3, .ref qo), (2, .ref b2), (1, .ref b1), (0, .ref b)]) (hcs : cells ≤ room_1.cells ∧ slots ≤ room_1.slots) (K : ∀ (wx wm : va_W) (H : Heap) (locs : List Loc), Rel E b1 b2 wx wm → xG s E (fun q => s.heap.size ≤ q) (((w0 E qo fo) ++ wm) ++ wx) H locs → W p l e room_1 s m #[Value.ref b] below meth c H locs (cells + 10) (slots + 83) Q (F0 m 1820 ls [])) : W p l e room_1 s m #[Value.ref b] below meth c H locs cells slots Q (F0 m 1345 ls []) := by
  obtain ⟨wx2, wm2, r, r2, k1, k2, he, hr2⟩ := s_odds (l := l) (l1 := (xs (i + 1))) (l2 := (xs (i + 2))) (l3 := (if xs (i + 3) = 0 then (0 : Int32) else 1)) hr
  refine lv_aload_n Cx.1.1 Cx.1.2.1 dL_law_1345 rfl (lv_at hl 3 rfl) ?_
  refine w_arg (j := 1) Cx hi (by omega) G hl dL_law_1346 dL_law_1347 dL_law_1349 rfl dL_law_1350 dL_law_1351 ?_
  refine w_arg (j := 2) Cx hi (by omega) G hl dL_law_1352 dL_law_1353 dL_law_1355 rfl dL_law_1356 dL_law_1357 ?_
  refine w_arg (j := 3) Cx hi (by omega) G hl dL_law_1358 dL_law_1359 dL_law_1361 rfl dL_law_1362 dL_law_1363 ?_
  refine w_bool Cx dL_law_1364 dL_law_1367 dL_law_1368 dL_law_1371 ?_
  refine lx_L (As := [.int (xs (i + 1)), .int (xs (i + 2)), .int (if xs (i + 3) = 0 then (0 : Int32) else 1)]) Cx G hr k1 mX10_odds kL_203 rfl (by decide) hl.1 rfl (by simp) hcs dL_law_1372 (fun H locs G => ?_)
  refine lv_aload_n Cx.1.1 Cx.1.2.1 dL_law_1375 rfl (lv_at hl 2 rfl) ?_
  refine w_arg (j := 1) Cx hi (by omega) G hl dL_law_1376 dL_law_1377 dL_law_1379 rfl dL_law_1380 dL_law_1381 ?_
  refine w_arg (j := 2) Cx hi (by omega) G hl dL_law_1382 dL_law_1383 dL_law_1385 rfl dL_law_1386 dL_law_1387 ?_
  refine w_arg (j := 3) Cx hi (by omega) G hl dL_law_1388 dL_law_1389 dL_law_1391 rfl dL_law_1392 dL_law_1393 ?_
  refine w_bool Cx dL_law_1394 dL_law_1397 dL_law_1398 dL_law_1401 ?_
  refine lm_L (As := [.int (xs (i + 1)), .int (xs (i + 2)), .int (if xs (i + 3) = 0 then (0 : Int32) else 1)]) Cx G hr k2 mX12_odds kL_207 rfl (by decide) hl.1 rfl (by simp [Value.category]) hcs dL_law_1402 (fun H locs G => ?_)
  refine W.lcmp Cx.1.1 Cx.1.2.1 dL_law_1405 ?_
  refine lv_if_eq (tgt := 1820) Cx.1.1 Cx.1.2.1 dL_law_1406 (by decide) (fun _ => ?_) (fun h => absurd (by rw [he]; exact lg_cmp0) h)
  refine W.widen (k := cells + 10) (n := slots + 83) (by omega) (by omega) ?_
  exact K _ _ _ _ hr2 G
set_option maxHeartbeats 4000000 in
set_option maxRecDepth 100000 in
theorem g_mean {p : Program} {l : Launch} {e : Env} {s : State} {m : MethodId} {below : List Frame} {meth : Method} {c : Code} {b L : Nat} {xs : Nat → Int32} {E : xE} {b1 b2 qo i : Nat} {fo : Nat → Int64} {wx wm : va_W} {H : Heap} {locs : List Loc} {ls : Array Slot} {cells slots : Nat} {Q : State → Prop} (Cx : lwC p s m meth c b L xs E) (hi : i + 6 ≤ L) (G : xG s E (fun q => s.heap.size ≤ q) (((w0 E qo fo) ++ wm) ++ wx) H locs) (hr : Rel E b1 b2 wx wm) (hl : lv_has ls 7 [(4, .int (iI (i : Nat))), (3, .ref qo), (2, .ref b2), (1, .ref b1), (0, .ref b)]) (hcs : cells ≤ room_1.cells ∧ slots ≤ room_1.slots) (K : ∀ (wx wm : va_W) (H : Heap) (locs : List Loc), Rel E b1 b2 wx wm → xG s E (fun q => s.heap.size ≤ q) (((w0 E qo fo) ++ wm) ++ wx) H locs → W p l e room_1 s m #[Value.ref b] below meth c H locs (cells + 10) (slots + 83) Q (F0 m 1820 ls [])) : W p l e room_1 s m #[Value.ref b] below meth c H locs cells slots Q (F0 m 1411 ls []) := by
  obtain ⟨wx2, wm2, r, r2, k1, k2, he, hr2⟩ := s_mean (l := l) (l1 := (xs (i + 1))) (l2 := (xs (i + 2))) (l3 := (if xs (i + 3) = 0 then (0 : Int32) else 1)) hr
  refine lv_aload_n Cx.1.1 Cx.1.2.1 dL_law_1411 rfl (lv_at hl 3 rfl) ?_
  refine w_arg (j := 1) Cx hi (by omega) G hl dL_law_1412 dL_law_1413 dL_law_1415 rfl dL_law_1416 dL_law_1417 ?_
  refine w_arg (j := 2) Cx hi (by omega) G hl dL_law_1418 dL_law_1419 dL_law_1421 rfl dL_law_1422 dL_law_1423 ?_
  refine w_arg (j := 3) Cx hi (by omega) G hl dL_law_1424 dL_law_1425 dL_law_1427 rfl dL_law_1428 dL_law_1429 ?_
  refine w_bool Cx dL_law_1430 dL_law_1433 dL_law_1434 dL_law_1437 ?_
  refine lx_L (As := [.int (xs (i + 1)), .int (xs (i + 2)), .int (if xs (i + 3) = 0 then (0 : Int32) else 1)]) Cx G hr k1 mX10_mean kL_208 rfl (by decide) hl.1 rfl (by simp) hcs dL_law_1438 (fun H locs G => ?_)
  refine lv_aload_n Cx.1.1 Cx.1.2.1 dL_law_1441 rfl (lv_at hl 2 rfl) ?_
  refine w_arg (j := 1) Cx hi (by omega) G hl dL_law_1442 dL_law_1443 dL_law_1445 rfl dL_law_1446 dL_law_1447 ?_
  refine w_arg (j := 2) Cx hi (by omega) G hl dL_law_1448 dL_law_1449 dL_law_1451 rfl dL_law_1452 dL_law_1453 ?_
  refine w_arg (j := 3) Cx hi (by omega) G hl dL_law_1454 dL_law_1455 dL_law_1457 rfl dL_law_1458 dL_law_1459 ?_
  refine w_bool Cx dL_law_1460 dL_law_1463 dL_law_1464 dL_law_1467 ?_
  refine lm_L (As := [.int (xs (i + 1)), .int (xs (i + 2)), .int (if xs (i + 3) = 0 then (0 : Int32) else 1)]) Cx G hr k2 mX12_mean kL_211 rfl (by decide) hl.1 rfl (by simp [Value.category]) hcs dL_law_1468 (fun H locs G => ?_)
  refine W.lcmp Cx.1.1 Cx.1.2.1 dL_law_1471 ?_
  refine lv_if_eq (tgt := 1820) Cx.1.1 Cx.1.2.1 dL_law_1472 (by decide) (fun _ => ?_) (fun h => absurd (by rw [he]; exact lg_cmp0) h)
  refine W.widen (k := cells + 10) (n := slots + 83) (by omega) (by omega) ?_
  exact K _ _ _ _ hr2 G
set_option maxHeartbeats 4000000 in
set_option maxRecDepth 100000 in
theorem g_drawnHandle {p : Program} {l : Launch} {e : Env} {s : State} {m : MethodId} {below : List Frame} {meth : Method} {c : Code} {b L : Nat} {xs : Nat → Int32} {E : xE} {b1 b2 qo i : Nat} {fo : Nat → Int64} {wx wm : va_W} {H : Heap} {locs : List Loc} {ls : Array Slot} {cells slots : Nat} {Q : State → Prop} (Cx : lwC p s m meth c b L xs E) (hi : i + 6 ≤ L) (G : xG s E (fun q => s.heap.size ≤ q) (((w0 E qo fo) ++ wm) ++ wx) H locs) (hr : Rel E b1 b2 wx wm) (hl : lv_has ls 7 [(4, .int (iI (i : Nat))), (3, .ref qo), (2, .ref b2), (1, .ref b1), (0, .ref b)]) (hcs : cells ≤ room_1.cells ∧ slots ≤ room_1.slots) (K : ∀ (wx wm : va_W) (H : Heap) (locs : List Loc), Rel E b1 b2 wx wm → xG s E (fun q => s.heap.size ≤ q) (((w0 E qo fo) ++ wm) ++ wx) H locs → W p l e room_1 s m #[Value.ref b] below meth c H locs (cells + 10) (slots + 83) Q (F0 m 1820 ls [])) : W p l e room_1 s m #[Value.ref b] below meth c H locs cells slots Q (F0 m 1477 ls []) := by
  obtain ⟨wx2, wm2, r, r2, k1, k2, he, hr2⟩ := s_drawnHandle (l := l) (l1 := (xs (i + 1))) (l2 := (xs (i + 2))) (l3 := (xs (i + 3))) hr
  refine lv_aload_n Cx.1.1 Cx.1.2.1 dL_law_1477 rfl (lv_at hl 3 rfl) ?_
  refine w_arg (j := 1) Cx hi (by omega) G hl dL_law_1478 dL_law_1479 dL_law_1481 rfl dL_law_1482 dL_law_1483 ?_
  refine w_arg (j := 2) Cx hi (by omega) G hl dL_law_1484 dL_law_1485 dL_law_1487 rfl dL_law_1488 dL_law_1489 ?_
  refine w_arg (j := 3) Cx hi (by omega) G hl dL_law_1490 dL_law_1491 dL_law_1493 rfl dL_law_1494 dL_law_1495 ?_
  refine lx_I (As := [.int (xs (i + 1)), .int (xs (i + 2)), .int (xs (i + 3))]) Cx G hr k1 mX10_drawnHandle kL_212 rfl (by decide) hl.1 rfl (by simp) hcs dL_law_1496 (fun H locs G => ?_)
  refine lv_aload_n Cx.1.1 Cx.1.2.1 dL_law_1499 rfl (lv_at hl 2 rfl) ?_
  refine w_arg (j := 1) Cx hi (by omega) G hl dL_law_1500 dL_law_1501 dL_law_1503 rfl dL_law_1504 dL_law_1505 ?_
  refine w_arg (j := 2) Cx hi (by omega) G hl dL_law_1506 dL_law_1507 dL_law_1509 rfl dL_law_1510 dL_law_1511 ?_
  refine w_arg (j := 3) Cx hi (by omega) G hl dL_law_1512 dL_law_1513 dL_law_1515 rfl dL_law_1516 dL_law_1517 ?_
  refine lm_I (As := [.int (xs (i + 1)), .int (xs (i + 2)), .int (xs (i + 3))]) Cx G hr k2 mX12_drawnHandle kL_216 rfl (by decide) hl.1 rfl (by simp [Value.category]) hcs dL_law_1518 (fun H locs G => ?_)
  refine lv_icmp_eq (tgt := 1820) Cx.1.1 Cx.1.2.1 dL_law_1521 (by decide) (fun _ => ?_) (fun h => absurd he h)
  refine W.widen (k := cells + 10) (n := slots + 83) (by omega) (by omega) ?_
  exact K _ _ _ _ hr2 G
set_option maxHeartbeats 4000000 in
set_option maxRecDepth 100000 in
theorem g_drawnFed {p : Program} {l : Launch} {e : Env} {s : State} {m : MethodId} {below : List Frame} {meth : Method} {c : Code} {b L : Nat} {xs : Nat → Int32} {E : xE} {b1 b2 qo i : Nat} {fo : Nat → Int64} {wx wm : va_W} {H : Heap} {locs : List Loc} {ls : Array Slot} {cells slots : Nat} {Q : State → Prop} (Cx : lwC p s m meth c b L xs E) (hi : i + 6 ≤ L) (G : xG s E (fun q => s.heap.size ≤ q) (((w0 E qo fo) ++ wm) ++ wx) H locs) (hr : Rel E b1 b2 wx wm) (hl : lv_has ls 7 [(4, .int (iI (i : Nat))), (3, .ref qo), (2, .ref b2), (1, .ref b1), (0, .ref b)]) (hcs : cells ≤ room_1.cells ∧ slots ≤ room_1.slots) (K : ∀ (wx wm : va_W) (H : Heap) (locs : List Loc), Rel E b1 b2 wx wm → xG s E (fun q => s.heap.size ≤ q) (((w0 E qo fo) ++ wm) ++ wx) H locs → W p l e room_1 s m #[Value.ref b] below meth c H locs (cells + 10) (slots + 83) Q (F0 m 1820 ls [])) : W p l e room_1 s m #[Value.ref b] below meth c H locs cells slots Q (F0 m 1526 ls []) := by
  obtain ⟨wx2, wm2, r, r2, k1, k2, he, hr2⟩ := s_drawnFed (l := l) (l1 := (xs (i + 1))) (l2 := (xs (i + 2))) hr
  refine lv_aload_n Cx.1.1 Cx.1.2.1 dL_law_1526 rfl (lv_at hl 3 rfl) ?_
  refine w_arg (j := 1) Cx hi (by omega) G hl dL_law_1527 dL_law_1528 dL_law_1530 rfl dL_law_1531 dL_law_1532 ?_
  refine w_arg (j := 2) Cx hi (by omega) G hl dL_law_1533 dL_law_1534 dL_law_1536 rfl dL_law_1537 dL_law_1538 ?_
  refine lx_I (As := [.int (xs (i + 1)), .int (xs (i + 2))]) Cx G hr k1 mX10_drawnFed kL_217 rfl (by decide) hl.1 rfl (by simp) hcs dL_law_1539 (fun H locs G => ?_)
  refine lv_aload_n Cx.1.1 Cx.1.2.1 dL_law_1542 rfl (lv_at hl 2 rfl) ?_
  refine w_arg (j := 1) Cx hi (by omega) G hl dL_law_1543 dL_law_1544 dL_law_1546 rfl dL_law_1547 dL_law_1548 ?_
  refine w_arg (j := 2) Cx hi (by omega) G hl dL_law_1549 dL_law_1550 dL_law_1552 rfl dL_law_1553 dL_law_1554 ?_
  refine lm_I (As := [.int (xs (i + 1)), .int (xs (i + 2))]) Cx G hr k2 mX12_drawnFed kL_220 rfl (by decide) hl.1 rfl (by simp [Value.category]) hcs dL_law_1555 (fun H locs G => ?_)
  refine lv_icmp_eq (tgt := 1820) Cx.1.1 Cx.1.2.1 dL_law_1558 (by decide) (fun _ => ?_) (fun h => absurd he h)
  refine W.widen (k := cells + 10) (n := slots + 83) (by omega) (by omega) ?_
  exact K _ _ _ _ hr2 G
set_option maxHeartbeats 4000000 in
set_option maxRecDepth 100000 in
theorem g_year {p : Program} {l : Launch} {e : Env} {s : State} {m : MethodId} {below : List Frame} {meth : Method} {c : Code} {b L : Nat} {xs : Nat → Int32} {E : xE} {b1 b2 qo i : Nat} {fo : Nat → Int64} {wx wm : va_W} {H : Heap} {locs : List Loc} {ls : Array Slot} {cells slots : Nat} {Q : State → Prop} (Cx : lwC p s m meth c b L xs E) (hi : i + 6 ≤ L) (G : xG s E (fun q => s.heap.size ≤ q) (((w0 E qo fo) ++ wm) ++ wx) H locs) (hr : Rel E b1 b2 wx wm) (hl : lv_has ls 7 [(4, .int (iI (i : Nat))), (3, .ref qo), (2, .ref b2), (1, .ref b1), (0, .ref b)]) (hcs : cells ≤ room_1.cells ∧ slots ≤ room_1.slots) (K : ∀ (wx wm : va_W) (H : Heap) (locs : List Loc), Rel E b1 b2 wx wm → xG s E (fun q => s.heap.size ≤ q) (((w0 E qo fo) ++ wm) ++ wx) H locs → W p l e room_1 s m #[Value.ref b] below meth c H locs (cells + 10) (slots + 83) Q (F0 m 1820 ls [])) : W p l e room_1 s m #[Value.ref b] below meth c H locs cells slots Q (F0 m 1563 ls []) := by
  obtain ⟨wx2, wm2, r, r2, k1, k2, he, hr2⟩ := s_year (l := l) hr
  refine lv_aload_n Cx.1.1 Cx.1.2.1 dL_law_1563 rfl (lv_at hl 3 rfl) ?_
  refine lx_I (As := []) Cx G hr k1 mX10_year kL_221 rfl (by decide) hl.1 rfl (by simp) hcs dL_law_1564 (fun H locs G => ?_)
  refine lv_aload_n Cx.1.1 Cx.1.2.1 dL_law_1567 rfl (lv_at hl 2 rfl) ?_
  refine lm_I (As := []) Cx G hr k2 mX12_year kL_224 rfl (by decide) hl.1 rfl (by simp [Value.category]) hcs dL_law_1568 (fun H locs G => ?_)
  refine lv_icmp_eq (tgt := 1820) Cx.1.1 Cx.1.2.1 dL_law_1571 (by decide) (fun _ => ?_) (fun h => absurd he h)
  refine W.widen (k := cells + 10) (n := slots + 83) (by omega) (by omega) ?_
  exact K _ _ _ _ hr2 G
set_option maxHeartbeats 4000000 in
set_option maxRecDepth 100000 in
theorem g_quarrel {p : Program} {l : Launch} {e : Env} {s : State} {m : MethodId} {below : List Frame} {meth : Method} {c : Code} {b L : Nat} {xs : Nat → Int32} {E : xE} {b1 b2 qo i : Nat} {fo : Nat → Int64} {wx wm : va_W} {H : Heap} {locs : List Loc} {ls : Array Slot} {cells slots : Nat} {Q : State → Prop} (Cx : lwC p s m meth c b L xs E) (hi : i + 6 ≤ L) (G : xG s E (fun q => s.heap.size ≤ q) (((w0 E qo fo) ++ wm) ++ wx) H locs) (hr : Rel E b1 b2 wx wm) (hl : lv_has ls 7 [(4, .int (iI (i : Nat))), (3, .ref qo), (2, .ref b2), (1, .ref b1), (0, .ref b)]) (hcs : cells ≤ room_1.cells ∧ slots ≤ room_1.slots) (K : ∀ (wx wm : va_W) (H : Heap) (locs : List Loc), Rel E b1 b2 wx wm → xG s E (fun q => s.heap.size ≤ q) (((w0 E qo fo) ++ wm) ++ wx) H locs → W p l e room_1 s m #[Value.ref b] below meth c H locs (cells + 10) (slots + 83) Q (F0 m 1820 ls [])) : W p l e room_1 s m #[Value.ref b] below meth c H locs cells slots Q (F0 m 1576 ls []) := by
  obtain ⟨wx2, wm2, r, r2, k1, k2, he, hr2⟩ := s_quarrel (l := l) (l1 := (xs (i + 1))) hr
  refine lv_aload_n Cx.1.1 Cx.1.2.1 dL_law_1576 rfl (lv_at hl 3 rfl) ?_
  refine w_arg (j := 1) Cx hi (by omega) G hl dL_law_1577 dL_law_1578 dL_law_1580 rfl dL_law_1581 dL_law_1582 ?_
  refine lx_I (As := [.int (xs (i + 1))]) Cx G hr k1 mX10_quarrel kL_225 rfl (by decide) hl.1 rfl (by simp) hcs dL_law_1583 (fun H locs G => ?_)
  refine lv_aload_n Cx.1.1 Cx.1.2.1 dL_law_1586 rfl (lv_at hl 2 rfl) ?_
  refine w_arg (j := 1) Cx hi (by omega) G hl dL_law_1587 dL_law_1588 dL_law_1590 rfl dL_law_1591 dL_law_1592 ?_
  refine lm_I (As := [.int (xs (i + 1))]) Cx G hr k2 mX12_quarrel kL_228 rfl (by decide) hl.1 rfl (by simp [Value.category]) hcs dL_law_1593 (fun H locs G => ?_)
  refine lv_icmp_eq (tgt := 1820) Cx.1.1 Cx.1.2.1 dL_law_1596 (by decide) (fun _ => ?_) (fun h => absurd he h)
  refine W.widen (k := cells + 10) (n := slots + 83) (by omega) (by omega) ?_
  exact K _ _ _ _ hr2 G
set_option maxHeartbeats 4000000 in
set_option maxRecDepth 100000 in
theorem g_sit {p : Program} {l : Launch} {e : Env} {s : State} {m : MethodId} {below : List Frame} {meth : Method} {c : Code} {b L : Nat} {xs : Nat → Int32} {E : xE} {b1 b2 qo i : Nat} {fo : Nat → Int64} {wx wm : va_W} {H : Heap} {locs : List Loc} {ls : Array Slot} {cells slots : Nat} {Q : State → Prop} (Cx : lwC p s m meth c b L xs E) (hi : i + 6 ≤ L) (G : xG s E (fun q => s.heap.size ≤ q) (((w0 E qo fo) ++ wm) ++ wx) H locs) (hr : Rel E b1 b2 wx wm) (hl : lv_has ls 7 [(4, .int (iI (i : Nat))), (3, .ref qo), (2, .ref b2), (1, .ref b1), (0, .ref b)]) (hcs : cells ≤ room_1.cells ∧ slots ≤ room_1.slots) (K : ∀ (wx wm : va_W) (H : Heap) (locs : List Loc), Rel E b1 b2 wx wm → xG s E (fun q => s.heap.size ≤ q) (((w0 E qo fo) ++ wm) ++ wx) H locs → W p l e room_1 s m #[Value.ref b] below meth c H locs (cells + 10) (slots + 83) Q (F0 m 1820 ls [])) : W p l e room_1 s m #[Value.ref b] below meth c H locs cells slots Q (F0 m 1601 ls []) := by
  obtain ⟨wx2, wm2, r, r2, k1, k2, he, hr2⟩ := s_sit (l := l) (l1 := (xs (i + 1))) (l2 := (xs (i + 2))) hr
  refine lv_aload_n Cx.1.1 Cx.1.2.1 dL_law_1601 rfl (lv_at hl 3 rfl) ?_
  refine w_arg (j := 1) Cx hi (by omega) G hl dL_law_1602 dL_law_1603 dL_law_1605 rfl dL_law_1606 dL_law_1607 ?_
  refine w_arg (j := 2) Cx hi (by omega) G hl dL_law_1608 dL_law_1609 dL_law_1611 rfl dL_law_1612 dL_law_1613 ?_
  refine lx_I (As := [.int (xs (i + 1)), .int (xs (i + 2))]) Cx G hr k1 mX10_sit kL_229 rfl (by decide) hl.1 rfl (by simp) hcs dL_law_1614 (fun H locs G => ?_)
  refine lv_aload_n Cx.1.1 Cx.1.2.1 dL_law_1617 rfl (lv_at hl 2 rfl) ?_
  refine w_arg (j := 1) Cx hi (by omega) G hl dL_law_1618 dL_law_1619 dL_law_1621 rfl dL_law_1622 dL_law_1623 ?_
  refine w_arg (j := 2) Cx hi (by omega) G hl dL_law_1624 dL_law_1625 dL_law_1627 rfl dL_law_1628 dL_law_1629 ?_
  refine lm_I (As := [.int (xs (i + 1)), .int (xs (i + 2))]) Cx G hr k2 mX12_sit kL_232 rfl (by decide) hl.1 rfl (by simp [Value.category]) hcs dL_law_1630 (fun H locs G => ?_)
  refine lv_icmp_eq (tgt := 1820) Cx.1.1 Cx.1.2.1 dL_law_1633 (by decide) (fun _ => ?_) (fun h => absurd he h)
  refine W.widen (k := cells + 10) (n := slots + 83) (by omega) (by omega) ?_
  exact K _ _ _ _ hr2 G
set_option maxHeartbeats 4000000 in
set_option maxRecDepth 100000 in
theorem g_know {p : Program} {l : Launch} {e : Env} {s : State} {m : MethodId} {below : List Frame} {meth : Method} {c : Code} {b L : Nat} {xs : Nat → Int32} {E : xE} {b1 b2 qo i : Nat} {fo : Nat → Int64} {wx wm : va_W} {H : Heap} {locs : List Loc} {ls : Array Slot} {cells slots : Nat} {Q : State → Prop} (Cx : lwC p s m meth c b L xs E) (hi : i + 6 ≤ L) (G : xG s E (fun q => s.heap.size ≤ q) (((w0 E qo fo) ++ wm) ++ wx) H locs) (hr : Rel E b1 b2 wx wm) (hl : lv_has ls 7 [(4, .int (iI (i : Nat))), (3, .ref qo), (2, .ref b2), (1, .ref b1), (0, .ref b)]) (hcs : cells ≤ room_1.cells ∧ slots ≤ room_1.slots) (K : ∀ (wx wm : va_W) (H : Heap) (locs : List Loc), Rel E b1 b2 wx wm → xG s E (fun q => s.heap.size ≤ q) (((w0 E qo fo) ++ wm) ++ wx) H locs → W p l e room_1 s m #[Value.ref b] below meth c H locs (cells + 10) (slots + 83) Q (F0 m 1820 ls [])) : W p l e room_1 s m #[Value.ref b] below meth c H locs cells slots Q (F0 m 1638 ls []) := by
  obtain ⟨wx2, wm2, r, r2, k1, k2, he, hr2⟩ := s_know (l := l) (l1 := (xs (i + 1))) (l2 := (xs (i + 2))) hr
  refine lv_aload_n Cx.1.1 Cx.1.2.1 dL_law_1638 rfl (lv_at hl 3 rfl) ?_
  refine w_arg (j := 1) Cx hi (by omega) G hl dL_law_1639 dL_law_1640 dL_law_1642 rfl dL_law_1643 dL_law_1644 ?_
  refine w_arg (j := 2) Cx hi (by omega) G hl dL_law_1645 dL_law_1646 dL_law_1648 rfl dL_law_1649 dL_law_1650 ?_
  refine lx_I (As := [.int (xs (i + 1)), .int (xs (i + 2))]) Cx G hr k1 mX10_know kL_233 rfl (by decide) hl.1 rfl (by simp) hcs dL_law_1651 (fun H locs G => ?_)
  refine lv_aload_n Cx.1.1 Cx.1.2.1 dL_law_1654 rfl (lv_at hl 2 rfl) ?_
  refine w_arg (j := 1) Cx hi (by omega) G hl dL_law_1655 dL_law_1656 dL_law_1658 rfl dL_law_1659 dL_law_1660 ?_
  refine w_arg (j := 2) Cx hi (by omega) G hl dL_law_1661 dL_law_1662 dL_law_1664 rfl dL_law_1665 dL_law_1666 ?_
  refine lm_I (As := [.int (xs (i + 1)), .int (xs (i + 2))]) Cx G hr k2 mX12_know kL_236 rfl (by decide) hl.1 rfl (by simp [Value.category]) hcs dL_law_1667 (fun H locs G => ?_)
  refine lv_icmp_eq (tgt := 1820) Cx.1.1 Cx.1.2.1 dL_law_1670 (by decide) (fun _ => ?_) (fun h => absurd he h)
  refine W.widen (k := cells + 10) (n := slots + 83) (by omega) (by omega) ?_
  exact K _ _ _ _ hr2 G
set_option maxHeartbeats 4000000 in
set_option maxRecDepth 100000 in
theorem g_undo {p : Program} {l : Launch} {e : Env} {s : State} {m : MethodId} {below : List Frame} {meth : Method} {c : Code} {b L : Nat} {xs : Nat → Int32} {E : xE} {b1 b2 qo i : Nat} {fo : Nat → Int64} {wx wm : va_W} {H : Heap} {locs : List Loc} {ls : Array Slot} {cells slots : Nat} {Q : State → Prop} (Cx : lwC p s m meth c b L xs E) (hi : i + 6 ≤ L) (G : xG s E (fun q => s.heap.size ≤ q) (((w0 E qo fo) ++ wm) ++ wx) H locs) (hr : Rel E b1 b2 wx wm) (hl : lv_has ls 7 [(4, .int (iI (i : Nat))), (3, .ref qo), (2, .ref b2), (1, .ref b1), (0, .ref b)]) (hcs : cells ≤ room_1.cells ∧ slots ≤ room_1.slots) (K : ∀ (wx wm : va_W) (H : Heap) (locs : List Loc), Rel E b1 b2 wx wm → xG s E (fun q => s.heap.size ≤ q) (((w0 E qo fo) ++ wm) ++ wx) H locs → W p l e room_1 s m #[Value.ref b] below meth c H locs (cells + 10) (slots + 83) Q (F0 m 1820 ls [])) : W p l e room_1 s m #[Value.ref b] below meth c H locs cells slots Q (F0 m 1675 ls []) := by
  obtain ⟨wx2, wm2, r, r2, k1, k2, he, hr2⟩ := s_undo (l := l) hr
  refine lv_aload_n Cx.1.1 Cx.1.2.1 dL_law_1675 rfl (lv_at hl 3 rfl) ?_
  refine lx_I (As := []) Cx G hr k1 mX10_undo kL_237 rfl (by decide) hl.1 rfl (by simp) hcs dL_law_1676 (fun H locs G => ?_)
  refine lv_aload_n Cx.1.1 Cx.1.2.1 dL_law_1679 rfl (lv_at hl 2 rfl) ?_
  refine lm_I (As := []) Cx G hr k2 mX12_undo kL_241 rfl (by decide) hl.1 rfl (by simp [Value.category]) hcs dL_law_1680 (fun H locs G => ?_)
  refine lv_icmp_eq (tgt := 1820) Cx.1.1 Cx.1.2.1 dL_law_1683 (by decide) (fun _ => ?_) (fun h => absurd he h)
  refine W.widen (k := cells + 10) (n := slots + 83) (by omega) (by omega) ?_
  exact K _ _ _ _ hr2 G
set_option maxHeartbeats 4000000 in
set_option maxRecDepth 100000 in
theorem g_image {p : Program} {l : Launch} {e : Env} {s : State} {m : MethodId} {below : List Frame} {meth : Method} {c : Code} {b L : Nat} {xs : Nat → Int32} {E : xE} {b1 b2 qo i : Nat} {fo : Nat → Int64} {wx wm : va_W} {H : Heap} {locs : List Loc} {ls : Array Slot} {cells slots : Nat} {Q : State → Prop} (Cx : lwC p s m meth c b L xs E) (hi : i + 6 ≤ L) (G : xG s E (fun q => s.heap.size ≤ q) (((w0 E qo fo) ++ wm) ++ wx) H locs) (hr : Rel E b1 b2 wx wm) (hl : lv_has ls 7 [(4, .int (iI (i : Nat))), (3, .ref qo), (2, .ref b2), (1, .ref b1), (0, .ref b)]) (hcs : cells ≤ room_1.cells ∧ slots ≤ room_1.slots) (K : ∀ (wx wm : va_W) (H : Heap) (locs : List Loc), Rel E b1 b2 wx wm → xG s E (fun q => s.heap.size ≤ q) (((w0 E qo fo) ++ wm) ++ wx) H locs → W p l e room_1 s m #[Value.ref b] below meth c H locs (cells + 10) (slots + 83) Q (F0 m 1820 ls [])) : W p l e room_1 s m #[Value.ref b] below meth c H locs cells slots Q (F0 m 1688 ls []) := by
  obtain ⟨wx2, wm2, r, r2, k1, k2, he, hr2⟩ := s_image (l := l) hr
  refine lv_aload_n Cx.1.1 Cx.1.2.1 dL_law_1688 rfl (lv_at hl 3 rfl) ?_
  refine lx_I (As := []) Cx G hr k1 mX10_image kL_242 rfl (by decide) hl.1 rfl (by simp) hcs dL_law_1689 (fun H locs G => ?_)
  refine lv_aload_n Cx.1.1 Cx.1.2.1 dL_law_1692 rfl (lv_at hl 2 rfl) ?_
  refine lm_I (As := []) Cx G hr k2 mX12_image kL_245 rfl (by decide) hl.1 rfl (by simp [Value.category]) hcs dL_law_1693 (fun H locs G => ?_)
  refine lv_icmp_eq (tgt := 1820) Cx.1.1 Cx.1.2.1 dL_law_1696 (by decide) (fun _ => ?_) (fun h => absurd he h)
  refine W.widen (k := cells + 10) (n := slots + 83) (by omega) (by omega) ?_
  exact K _ _ _ _ hr2 G
set_option maxHeartbeats 4000000 in
set_option maxRecDepth 100000 in
theorem g_back {p : Program} {l : Launch} {e : Env} {s : State} {m : MethodId} {below : List Frame} {meth : Method} {c : Code} {b L : Nat} {xs : Nat → Int32} {E : xE} {b1 b2 qo i : Nat} {fo : Nat → Int64} {wx wm : va_W} {H : Heap} {locs : List Loc} {ls : Array Slot} {cells slots : Nat} {Q : State → Prop} (Cx : lwC p s m meth c b L xs E) (hi : i + 6 ≤ L) (G : xG s E (fun q => s.heap.size ≤ q) (((w0 E qo fo) ++ wm) ++ wx) H locs) (hr : Rel E b1 b2 wx wm) (hl : lv_has ls 7 [(4, .int (iI (i : Nat))), (3, .ref qo), (2, .ref b2), (1, .ref b1), (0, .ref b)]) (hcs : cells ≤ room_1.cells ∧ slots ≤ room_1.slots) (K : ∀ (wx wm : va_W) (H : Heap) (locs : List Loc), Rel E b1 b2 wx wm → xG s E (fun q => s.heap.size ≤ q) (((w0 E qo fo) ++ wm) ++ wx) H locs → W p l e room_1 s m #[Value.ref b] below meth c H locs (cells + 10) (slots + 83) Q (F0 m 1820 ls [])) : W p l e room_1 s m #[Value.ref b] below meth c H locs cells slots Q (F0 m 1701 ls []) := by
  obtain ⟨wx2, wm2, r, r2, k1, k2, he, hr2⟩ := s_back (l := l) (l1 := (xs (i + 1))) hr
  refine lv_aload_n Cx.1.1 Cx.1.2.1 dL_law_1701 rfl (lv_at hl 3 rfl) ?_
  refine w_arg (j := 1) Cx hi (by omega) G hl dL_law_1702 dL_law_1703 dL_law_1705 rfl dL_law_1706 dL_law_1707 ?_
  refine lx_I (As := [.int (xs (i + 1))]) Cx G hr k1 mX10_back kL_246 rfl (by decide) hl.1 rfl (by simp) hcs dL_law_1708 (fun H locs G => ?_)
  refine lv_aload_n Cx.1.1 Cx.1.2.1 dL_law_1711 rfl (lv_at hl 2 rfl) ?_
  refine w_arg (j := 1) Cx hi (by omega) G hl dL_law_1712 dL_law_1713 dL_law_1715 rfl dL_law_1716 dL_law_1717 ?_
  refine lm_I (As := [.int (xs (i + 1))]) Cx G hr k2 mX12_back kL_250 rfl (by decide) hl.1 rfl (by simp [Value.category]) hcs dL_law_1718 (fun H locs G => ?_)
  refine lv_icmp_eq (tgt := 1820) Cx.1.1 Cx.1.2.1 dL_law_1721 (by decide) (fun _ => ?_) (fun h => absurd he h)
  refine W.widen (k := cells + 10) (n := slots + 83) (by omega) (by omega) ?_
  exact K _ _ _ _ hr2 G
set_option maxHeartbeats 4000000 in
set_option maxRecDepth 100000 in
theorem g_size {p : Program} {l : Launch} {e : Env} {s : State} {m : MethodId} {below : List Frame} {meth : Method} {c : Code} {b L : Nat} {xs : Nat → Int32} {E : xE} {b1 b2 qo i : Nat} {fo : Nat → Int64} {wx wm : va_W} {H : Heap} {locs : List Loc} {ls : Array Slot} {cells slots : Nat} {Q : State → Prop} (Cx : lwC p s m meth c b L xs E) (hi : i + 6 ≤ L) (G : xG s E (fun q => s.heap.size ≤ q) (((w0 E qo fo) ++ wm) ++ wx) H locs) (hr : Rel E b1 b2 wx wm) (hl : lv_has ls 7 [(4, .int (iI (i : Nat))), (3, .ref qo), (2, .ref b2), (1, .ref b1), (0, .ref b)]) (hcs : cells ≤ room_1.cells ∧ slots ≤ room_1.slots) (K : ∀ (wx wm : va_W) (H : Heap) (locs : List Loc), Rel E b1 b2 wx wm → xG s E (fun q => s.heap.size ≤ q) (((w0 E qo fo) ++ wm) ++ wx) H locs → W p l e room_1 s m #[Value.ref b] below meth c H locs (cells + 10) (slots + 83) Q (F0 m 1820 ls [])) : W p l e room_1 s m #[Value.ref b] below meth c H locs cells slots Q (F0 m 1782 ls []) := by
  obtain ⟨wx2, wm2, r, r2, k1, k2, he, hr2⟩ := s_size (l := l) (l1 := (xs (i + 1))) hr
  refine lv_aload_n Cx.1.1 Cx.1.2.1 dL_law_1782 rfl (lv_at hl 3 rfl) ?_
  refine w_arg (j := 1) Cx hi (by omega) G hl dL_law_1783 dL_law_1784 dL_law_1786 rfl dL_law_1787 dL_law_1788 ?_
  refine lx_I (As := [.int (xs (i + 1))]) Cx G hr k1 mX10_size kL_260 rfl (by decide) hl.1 rfl (by simp) hcs dL_law_1789 (fun H locs G => ?_)
  refine lv_aload_n Cx.1.1 Cx.1.2.1 dL_law_1792 rfl (lv_at hl 2 rfl) ?_
  refine w_arg (j := 1) Cx hi (by omega) G hl dL_law_1793 dL_law_1794 dL_law_1796 rfl dL_law_1797 dL_law_1798 ?_
  refine lm_I (As := [.int (xs (i + 1))]) Cx G hr k2 mX12_size kL_263 rfl (by decide) hl.1 rfl (by simp [Value.category]) hcs dL_law_1799 (fun H locs G => ?_)
  refine lv_icmp_eq (tgt := 1820) Cx.1.1 Cx.1.2.1 dL_law_1802 (by decide) (fun _ => ?_) (fun h => absurd he h)
  refine W.widen (k := cells + 10) (n := slots + 83) (by omega) (by omega) ?_
  exact K _ _ _ _ hr2 G
set_option maxHeartbeats 4000000 in
set_option maxRecDepth 100000 in
theorem g_trouble {p : Program} {l : Launch} {e : Env} {s : State} {m : MethodId} {below : List Frame} {meth : Method} {c : Code} {b L : Nat} {xs : Nat → Int32} {E : xE} {b1 b2 qo i : Nat} {fo : Nat → Int64} {wx wm : va_W} {H : Heap} {locs : List Loc} {ls : Array Slot} {cells slots : Nat} {Q : State → Prop} (Cx : lwC p s m meth c b L xs E) (hi : i + 6 ≤ L) (G : xG s E (fun q => s.heap.size ≤ q) (((w0 E qo fo) ++ wm) ++ wx) H locs) (hr : Rel E b1 b2 wx wm) (hl : lv_has ls 7 [(4, .int (iI (i : Nat))), (3, .ref qo), (2, .ref b2), (1, .ref b1), (0, .ref b)]) (hcs : cells ≤ room_1.cells ∧ slots ≤ room_1.slots) (K : ∀ (wx wm : va_W) (H : Heap) (locs : List Loc), Rel E b1 b2 wx wm → xG s E (fun q => s.heap.size ≤ q) (((w0 E qo fo) ++ wm) ++ wx) H locs → W p l e room_1 s m #[Value.ref b] below meth c H locs (cells + 10) (slots + 83) Q (F0 m 1820 ls [])) : W p l e room_1 s m #[Value.ref b] below meth c H locs cells slots Q (F0 m 1807 ls []) := by
  obtain ⟨wx2, wm2, r, r2, k1, k2, he, hr2⟩ := s_trouble (l := l) hr
  refine lv_aload_n Cx.1.1 Cx.1.2.1 dL_law_1807 rfl (lv_at hl 3 rfl) ?_
  refine lx_I (As := []) Cx G hr k1 mX10_trouble kL_264 rfl (by decide) hl.1 rfl (by simp) hcs dL_law_1808 (fun H locs G => ?_)
  refine lv_aload_n Cx.1.1 Cx.1.2.1 dL_law_1811 rfl (lv_at hl 2 rfl) ?_
  refine lm_I (As := []) Cx G hr k2 mX12_trouble kL_267 rfl (by decide) hl.1 rfl (by simp [Value.category]) hcs dL_law_1812 (fun H locs G => ?_)
  refine lv_icmp_eq (tgt := 1820) Cx.1.1 Cx.1.2.1 dL_law_1815 (by decide) (fun _ => ?_) (fun h => absurd he h)
  refine W.widen (k := cells + 10) (n := slots + 83) (by omega) (by omega) ?_
  exact K _ _ _ _ hr2 G
