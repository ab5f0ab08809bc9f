theorem mJ0_length : xM yJ0_length_8abf5 RJ0 cJ0_length_8abf5 1 (some .int) 0 := ⟨tG_of 1608 (by decide +kernel) rfl, tG_of 1609 (by decide +kernel) rfl, tG_of 151 (by decide +kernel) rfl, tG_of 1610 (by decide +kernel) rfl, rfl, by decide +kernel, by decide +kernel, by decide +kernel⟩
theorem mJ0_coder : xM yJ0_coder_7d493 RJ0 cJ0_coder_7d493 1 (some .byte) 0 := ⟨tG_of 1612 (by decide +kernel) rfl, tG_of 1613 (by decide +kernel) rfl, tG_of 151 (by decide +kernel) rfl, tG_of 1614 (by decide +kernel) rfl, rfl, by decide +kernel, by decide +kernel, by decide +kernel⟩
theorem mJ0_charAt : xM yJ0_charAt_5068e RJ0 cJ0_charAt_5068e 2 (some .char) 1 := ⟨tG_of 1618 (by decide +kernel) rfl, tG_of 1619 (by decide +kernel) rfl, tG_of 151 (by decide +kernel) rfl, tG_of 1620 (by decide +kernel) rfl, rfl, by decide +kernel, by decide +kernel, by decide +kernel⟩
theorem mJ0_isLatin1 : xM yJ0_isLatin1_aae02 RJ0 cJ0_isLatin1_aae02 1 (some .boolean) 0 := ⟨tG_of 1622 (by decide +kernel) rfl, tG_of 1623 (by decide +kernel) rfl, tG_of 151 (by decide +kernel) rfl, tG_of 1624 (by decide +kernel) rfl, rfl, by decide +kernel, by decide +kernel, by decide +kernel⟩
theorem mJ1_charAt : xMS yJ1_charAt_3b067 cJ1_charAt_3b067 2 (some .char) 2 := ⟨tG_of 1626 (by decide +kernel) rfl, tG_of 152 (by decide +kernel) rfl, tG_of 1627 (by decide +kernel) rfl, by decide +kernel, by decide +kernel, by decide +kernel⟩
theorem mJ0_checkIndex : xMS yJ0_checkIndex_df160 cJ0_checkIndex_df160 2 none 2 := ⟨tG_of 1629 (by decide +kernel) rfl, tG_of 151 (by decide +kernel) rfl, tG_of 1630 (by decide +kernel) rfl, by decide +kernel, by decide +kernel, by decide +kernel⟩
theorem mJ3_checkIndex : xMS yJ3_checkIndex_8e157 cJ3_checkIndex_8e157 3 (some .int) 3 := ⟨tG_of 1634 (by decide +kernel) rfl, tG_of 153 (by decide +kernel) rfl, tG_of 1635 (by decide +kernel) rfl, by decide +kernel, by decide +kernel, by decide +kernel⟩
theorem kJ0_335 : xLk RJ0 335 yJ0_coder_7d493 := Or.inl (tG_of 1611 (by decide +kernel) rfl)
theorem kJ0_492 : xLk RJ0 492 yJ0_isLatin1_aae02 := Or.inl (tG_of 1621 (by decide +kernel) rfl)
theorem kJ0_495 : xLk RJ0 495 yJ1_charAt_3b067 := Or.inl (tG_of 1625 (by decide +kernel) rfl)
theorem kJ1_9 : xLk RJ1 9 yJ0_checkIndex_df160 := Or.inl (tG_of 1628 (by decide +kernel) rfl)
theorem kJ0_1059 : xLk RJ0 1059 yJ3_checkIndex_8e157 := Or.inl (tG_of 1633 (by decide +kernel) rfl)
theorem kX12_59 : xLk RX12 59 yJ0_length_8abf5 := Or.inl (tG_of 1607 (by decide +kernel) rfl)
theorem kX12_67 : xLk RX12 67 yJ0_charAt_5068e := Or.inl (tG_of 1617 (by decide +kernel) rfl)
theorem qJ0_38 : Cond.fieldLink RJ0 38 "java/lang/String" "COMPACT_STRINGS" "Z" ∈ tG := tG_of 1615 (by decide +kernel) rfl
theorem qJ0_1053 : Cond.fieldLink RJ0 1053 "jdk/internal/util/Preconditions" "SIOOBE_FORMATTER" "Ljava/util/function/BiFunction;" ∈ tG := tG_of 1631 (by decide +kernel) rfl
theorem qJ0_9 : Cond.fieldLink RJ0 9 "java/lang/String" "value" "[B" ∈ tG := tG_of 2251 (by decide +kernel) rfl
theorem qJ0_15 : Cond.fieldLink RJ0 15 "java/lang/String" "coder" "B" ∈ tG := tG_of 2252 (by decide +kernel) rfl
/-! String constants: what the JDK's own members answer of them; packed -/
theorem x_ldcSW {p : Program} {l : Launch} {e : Env} {R : Room} {s : State} {m : MethodId} {args : Array Value} {below : List Frame} {meth : Method} {c : Code} {H : Heap} {locs : List Loc} {cells slots : Nat} {Q : State → Prop} {cc : ByteArray} {pc : Nat} {ls : Array Slot} {rest : List Value} (hexec : p.tables.exec = Jvm.exec) (hb : c.code = cc) {own tx : String} {index q : Nat} (hown : s.vm.findClass own = some m.cls) (hZ : vk_R own index tx q s) (hdg : decode cc pc = .ok (.ldc_w index, 3))
    (k : W p l e R s m args below meth c H locs cells slots Q (F0 m (pc + 3) ls (.ref q :: rest))) : W p l e R s m args below meth c H locs cells slots Q (F0 m pc ls rest) := by
  intro T hT X
  obtain ⟨t, a1, b1⟩ := k T hT X
  exact ⟨t, X.ldcStringW hexec hown (text := tx) (a := q) hZ.1 hZ.2 (g := F0 m pc ls rest) rfl (by rw [hb]; exact hdg) t a1, b1⟩
section XStr
variable {l : Launch} {E : xE} {ws : va_W} {i : Nat}
theorem c_S_coder (hi : i < 17) : xI l E yJ0_coder_7d493 cJ0_coder_7d493 1 (some .byte) 0 0 [.ref (E.2.2.1 i)] ws ws 0 := by
  refine xI_of (by decide) (Nat.le_of_ble_eq_true rfl) (fun p e s m args below meth c A C ls hl G => ?_)
  have hx := C.1
  have hb := C.2.1
  have hl : lv_has ls 1 [(0, .ref (E.2.2.1 i))] := hl
  obtain ⟨z1, z2, z3, z4, z5⟩ := C.2.2.2.2.2.2.2.2.2.2
  refine va_gets (ref := "java/lang/String") hx hb z3 G.2.2 C.2.2.2.1 (C.2.2.2.2.1 _ qJ0_38) (fun _ h => h) dJ0_coder_7d493_0 ?_
  refine lv_if_eq (tgt := 13) hx hb dJ0_coder_7d493_3 (by decide) (fun h => absurd h (by decide)) (fun _ => ?_)
  refine lv_aload_n hx hb dJ0_coder_7d493_6 rfl (lv_at hl 0 rfl) ?_
  refine vk_getf (o := "java/lang/String") (ref := "java/lang/String") hx hb (z2.1 i hi).2.1 G.2.2 C.2.2.2.1 (C.2.2.2.2.1 _ qJ0_15) (fun _ h => h) dJ0_coder_7d493_7 ?_
  refine lv_goto (tgt := 14) hx hb dJ0_coder_7d493_10 (by decide) ?_
  exact xI_ret C G rfl dJ0_coder_7d493_14
theorem c_S_isLatin1 (hi : i < 17) : xI l E yJ0_isLatin1_aae02 cJ0_isLatin1_aae02 1 (some .boolean) 0 0 [.ref (E.2.2.1 i)] ws ws 1 := by
  refine xI_of (by decide) (Nat.le_of_ble_eq_true rfl) (fun p e s m args below meth c A C ls hl G => ?_)
  have hx := C.1
  have hb := C.2.1
  have hl : lv_has ls 1 [(0, .ref (E.2.2.1 i))] := hl
  obtain ⟨z1, z2, z3, z4, z5⟩ := C.2.2.2.2.2.2.2.2.2.2
  refine va_gets (ref := "java/lang/String") hx hb z3 G.2.2 C.2.2.2.1 (C.2.2.2.2.1 _ qJ0_38) (fun _ h => h) dJ0_isLatin1_aae02_0 ?_
  refine lv_if_eq (tgt := 17) hx hb dJ0_isLatin1_aae02_3 (by decide) (fun h => absurd h (by decide)) (fun _ => ?_)
  refine lv_aload_n hx hb dJ0_isLatin1_aae02_6 rfl (lv_at hl 0 rfl) ?_
  refine vk_getf (o := "java/lang/String") (ref := "java/lang/String") hx hb (z2.1 i hi).2.1 G.2.2 C.2.2.2.1 (C.2.2.2.2.1 _ qJ0_15) (fun _ h => h) dJ0_isLatin1_aae02_7 ?_
  refine lv_if_ne (tgt := 17) hx hb dJ0_isLatin1_aae02_10 (by decide) (fun h => absurd rfl h) (fun _ => ?_)
  refine lv_iconst (v := 1) hx hb dJ0_isLatin1_aae02_13 (by decide) ?_
  refine lv_goto (tgt := 18) hx hb dJ0_isLatin1_aae02_14 (by decide) ?_
  exact xI_ret C G rfl dJ0_isLatin1_aae02_18
theorem c_S_length (hi : i < 17) : xI l E yJ0_length_8abf5 cJ0_length_8abf5 1 (some .int) 1 20 [.ref (E.2.2.1 i)] ws ws (Int32.ofNat (lenJS.getD i 0) >>> ((0 : Int32) &&& 31)) := by
  refine xI_of (by decide) (Nat.le_of_ble_eq_true rfl) (fun p e s m args below meth c A C ls hl G => ?_)
  have hx := C.1
  have hb := C.2.1
  have hl : lv_has ls 1 [(0, .ref (E.2.2.1 i))] := hl
  obtain ⟨z1, z2, z3, z4, z5⟩ := C.2.2.2.2.2.2.2.2.2.2
  refine lv_aload_n hx hb dJ0_length_8abf5_0 rfl (lv_at hl 0 rfl) ?_
  refine vk_getf (o := "java/lang/String") (ref := "java/lang/String") hx hb (z2.1 i hi).2.2.1 G.2.2 C.2.2.2.1 (C.2.2.2.2.1 _ qJ0_9) (fun _ h => h) dJ0_length_8abf5_1 ?_
  refine va_tlen hx hb (z2.1 i hi).2.2.2 G.2.2 rfl dJ0_length_8abf5_4 ?_
  refine lv_aload_n hx hb dJ0_length_8abf5_5 rfl (lv_at hl 0 rfl) ?_
  refine xI_go C G (xrunVr C G (c_S_coder hi _) mJ0_coder kJ0_335 (vk_recv z2 hi G.2.2) ⟨Nat.le_of_ble_eq_true rfl, Nat.le_of_ble_eq_true rfl⟩ rfl hl.1 rfl (Nat.le_of_ble_eq_true rfl) ⟨Nat.le_refl _, Nat.le_refl _⟩ dJ0_length_8abf5_6) (fun hz H locs G => ?_)
  refine lv_ishr hx hb dJ0_length_8abf5_9 ?_
  exact xI_ret C G rfl dJ0_length_8abf5_10
theorem c_S_pcheck {k n : Int32} (v : Value) (hv : v = .null ∨ ∃ t, v = .ref t) (h0 : ¬ k < 0) (h1 : k < n) : xI l E yJ3_checkIndex_8e157 cJ3_checkIndex_8e157 3 (some .int) 0 0 [.int k, .int n, v] ws ws k := by
  rcases hv with rfl | ⟨t, rfl⟩
  · refine xI_of (by decide) (Nat.le_of_ble_eq_true rfl) (fun p e s m args below meth c A C ls hl G => ?_)
    have hx := C.1
    have hb := C.2.1
    have hl : lv_has ls 3 [(0, .int k), (1, .int n), (2, .null)] := hl
    refine lv_iload_n hx hb dJ3_checkIndex_8e157_0 rfl (lv_at hl 0 rfl) ?_
    refine lv_if_lt (tgt := 9) hx hb dJ3_checkIndex_8e157_1 (by decide) (fun h => absurd h h0) (fun _ => ?_)
    refine lv_iload_n hx hb dJ3_checkIndex_8e157_4 rfl (lv_at hl 0 rfl) ?_
    refine lv_iload_n hx hb dJ3_checkIndex_8e157_5 rfl (lv_at hl 1 rfl) ?_
    refine lv_icmp_lt (tgt := 16) hx hb dJ3_checkIndex_8e157_6 (by decide) (fun _ => ?_) (fun h => absurd h1 h)
    refine lv_iload_n hx hb dJ3_checkIndex_8e157_16 rfl (lv_at hl 0 rfl) ?_
    exact xI_ret C G rfl dJ3_checkIndex_8e157_17
  · refine xI_of (by decide) (Nat.le_of_ble_eq_true rfl) (fun p e s m args below meth c A C ls hl G => ?_)
    have hx := C.1
    have hb := C.2.1
    have hl : lv_has ls 3 [(0, .int k), (1, .int n), (2, .ref t)] := hl
    refine lv_iload_n hx hb dJ3_checkIndex_8e157_0 rfl (lv_at hl 0 rfl) ?_
    refine lv_if_lt (tgt := 9) hx hb dJ3_checkIndex_8e157_1 (by decide) (fun h => absurd h h0) (fun _ => ?_)
    refine lv_iload_n hx hb dJ3_checkIndex_8e157_4 rfl (lv_at hl 0 rfl) ?_
    refine lv_iload_n hx hb dJ3_checkIndex_8e157_5 rfl (lv_at hl 1 rfl) ?_
    refine lv_icmp_lt (tgt := 16) hx hb dJ3_checkIndex_8e157_6 (by decide) (fun _ => ?_) (fun h => absurd h1 h)
    refine lv_iload_n hx hb dJ3_checkIndex_8e157_16 rfl (lv_at hl 0 rfl) ?_
    exact xI_ret C G rfl dJ3_checkIndex_8e157_17
theorem c_S_check {k n : Int32} (h0 : ¬ k < 0) (h1 : k < n) : xV l E yJ0_checkIndex_df160 cJ0_checkIndex_df160 2 none 1 22 [.int k, .int n] ws ws := by
  refine xV_of (by decide) (Nat.le_of_ble_eq_true rfl) (fun p e s m args below meth c A C ls hl G => ?_)
  have hx := C.1
  have hb := C.2.1
  have hl : lv_has ls 2 [(0, .int k), (1, .int n)] := hl
  obtain ⟨z1, z2, z3, z4, z5⟩ := C.2.2.2.2.2.2.2.2.2.2
  refine lv_iload_n hx hb dJ0_checkIndex_df160_0 rfl (lv_at hl 0 rfl) ?_
  refine lv_iload_n hx hb dJ0_checkIndex_df160_1 rfl (lv_at hl 1 rfl) ?_
  rcases z4 with z4 | ⟨t, z4⟩
  · refine va_gets (ref := "jdk/internal/util/Preconditions") hx hb z4 G.2.2 C.2.2.2.1 (C.2.2.2.2.1 _ qJ0_1053) (fun _ h => h) dJ0_checkIndex_df160_2 ?_
    refine xI_S C G (c_S_pcheck .null (Or.inl rfl) h0 h1) mJ3_checkIndex kJ0_1059 ⟨Nat.le_of_ble_eq_true rfl, Nat.le_of_ble_eq_true rfl⟩ rfl hl.1 rfl (Nat.le_of_ble_eq_true rfl) ⟨Nat.le_refl _, Nat.le_refl _⟩ dJ0_checkIndex_df160_5 (fun hz H locs G => ?_)
    refine lv_pop hx hb dJ0_checkIndex_df160_8 rfl ?_
    exact xV_ret C G dJ0_checkIndex_df160_9
  · refine va_gets (ref := "jdk/internal/util/Preconditions") hx hb z4 G.2.2 C.2.2.2.1 (C.2.2.2.2.1 _ qJ0_1053) (fun _ h => h) dJ0_checkIndex_df160_2 ?_
    refine xI_S C G (c_S_pcheck (.ref t) (Or.inr ⟨t, rfl⟩) h0 h1) mJ3_checkIndex kJ0_1059 ⟨Nat.le_of_ble_eq_true rfl, Nat.le_of_ble_eq_true rfl⟩ rfl hl.1 rfl (Nat.le_of_ble_eq_true rfl) ⟨Nat.le_refl _, Nat.le_refl _⟩ dJ0_checkIndex_df160_5 (fun hz H locs G => ?_)
    refine lv_pop hx hb dJ0_checkIndex_df160_8 rfl ?_
    exact xV_ret C G dJ0_checkIndex_df160_9
def chS (i k : Nat) : Int32 := (((bytJS.getD i []).getD k 0 &&& 255).toUInt32 % 65536).toInt32
theorem c_S_lat {k : Nat} (hi : i < 17) (hk : k < lenJS.getD i 0) (hL : lenJS.getD i 0 < 2 ^ 31) : xI l E yJ1_charAt_3b067 cJ1_charAt_3b067 2 (some .char) 2 43 [.ref (E.2.2.2 i), .int (nI k)] ws ws (chS i k) := by
  refine xI_of (by decide) (Nat.le_of_ble_eq_true rfl) (fun p e s m args below meth c A C ls hl G => ?_)
  have hx := C.1
  have hb := C.2.1
  have hl : lv_has ls 2 [(0, .ref (E.2.2.2 i)), (1, .int (nI k))] := hl
  obtain ⟨z1, z2, z3, z4, z5⟩ := C.2.2.2.2.2.2.2.2.2.2
  refine lv_iload_n hx hb dJ1_charAt_3b067_0 rfl (lv_at hl 1 rfl) ?_
  refine lv_aload_n hx hb dJ1_charAt_3b067_1 rfl (lv_at hl 0 rfl) ?_
  refine va_tlen hx hb (z2.1 i hi).2.2.2 G.2.2 (v := nI (lenJS.getD i 0)) rfl dJ1_charAt_3b067_2 ?_
  refine xV_go C G (xrunS C G (c_S_check (nI_pos (by omega)) (nI_lt hk hL) _) mJ0_checkIndex kJ1_9 ⟨Nat.le_of_ble_eq_true rfl, Nat.le_of_ble_eq_true rfl⟩ rfl hl.1 rfl (Nat.le_of_ble_eq_true rfl) ⟨Nat.le_refl _, Nat.le_refl _⟩ dJ1_charAt_3b067_3) (fun H locs G => ?_)
  refine lv_aload_n hx hb dJ1_charAt_3b067_6 rfl (lv_at hl 0 rfl) ?_
  refine lv_iload_n hx hb dJ1_charAt_3b067_7 rfl (lv_at hl 1 rfl) ?_
  refine va_tb hx hb (z2.1 i hi).2.2.2 G.2.2 (vp_in_nI hk hL) (v := .int ((bytJS.getD i []).getD k 0)) (by rw [nI_clamp (by omega)]) dJ1_charAt_3b067_8 ?_
  refine lv_sipush (v := 255) hx hb dJ1_charAt_3b067_9 (by decide) ?_
  refine lv_iand hx hb dJ1_charAt_3b067_12 ?_
  refine lv_i2c (v := chS i k) hx hb dJ1_charAt_3b067_13 rfl ?_
  exact xI_ret C G (pk_nc _) dJ1_charAt_3b067_14
theorem c_S_charAt {k : Nat} (hi : i < 17) (hk : k < lenJS.getD i 0) (hL : lenJS.getD i 0 < 2 ^ 31) : xI l E yJ0_charAt_5068e cJ0_charAt_5068e 2 (some .char) 3 64 [.ref (E.2.2.1 i), .int (nI k)] ws ws (chS i k) := by
  refine xI_of (by decide) (Nat.le_of_ble_eq_true rfl) (fun p e s m args below meth c A C ls hl G => ?_)
  have hx := C.1
  have hb := C.2.1
  have hl : lv_has ls 2 [(0, .ref (E.2.2.1 i)), (1, .int (nI k))] := hl
  obtain ⟨z1, z2, z3, z4, z5⟩ := C.2.2.2.2.2.2.2.2.2.2
  refine lv_aload_n hx hb dJ0_charAt_5068e_0 rfl (lv_at hl 0 rfl) ?_
  refine xI_go C G (xrunVr C G (c_S_isLatin1 hi _) mJ0_isLatin1 kJ0_492 (vk_recv z2 hi G.2.2) ⟨Nat.le_of_ble_eq_true rfl, Nat.le_of_ble_eq_true rfl⟩ rfl hl.1 rfl (Nat.le_of_ble_eq_true rfl) ⟨Nat.le_refl _, Nat.le_refl _⟩ dJ0_charAt_5068e_1) (fun hz H locs G => ?_)
  refine lv_if_eq (tgt := 16) hx hb dJ0_charAt_5068e_4 (by decide) (fun h => absurd h (by decide)) (fun _ => ?_)
  refine lv_aload_n hx hb dJ0_charAt_5068e_7 rfl (lv_at hl 0 rfl) ?_
  refine vk_getf (o := "java/lang/String") (ref := "java/lang/String") hx hb (z2.1 i hi).2.2.1 G.2.2 C.2.2.2.1 (C.2.2.2.2.1 _ qJ0_9) (fun _ h => h) dJ0_charAt_5068e_8 ?_
  refine lv_iload_n hx hb dJ0_charAt_5068e_11 rfl (lv_at hl 1 rfl) ?_
  refine xI_S C G (c_S_lat hi hk hL) mJ1_charAt kJ0_495 ⟨Nat.le_of_ble_eq_true rfl, Nat.le_of_ble_eq_true rfl⟩ rfl hl.1 rfl (Nat.le_of_ble_eq_true rfl) ⟨Nat.le_refl _, Nat.le_refl _⟩ dJ0_charAt_5068e_12 (fun hz H locs G => ?_)
  exact xI_ret C G (hz _ rfl) dJ0_charAt_5068e_15
def pkA (i : Nat) : Nat → Int64
  | 0 => 0
  | k + 1 => 32 * pkA i k + ((chS i k - 97) + 1).toInt64
set_option maxRecDepth 100000 in
theorem c_M_packed (i : Nat) (hi : i < 17) (v : Int64) (hv : pkA i (lenJS.getD i 0) = v) : xL l E yX12_packed cX12_packed 4 (some .long) 5 120 [.ref (E.2.2.1 i)] ws ws v := by
  have hL : lenJS.getD i 0 < 2 ^ 31 := (by decide +kernel : ∀ i, i < 17 → lenJS.getD i 0 < 2 ^ 31) i hi
  refine xL_of (by decide) (Nat.le_of_ble_eq_true rfl) (fun p e s m args below meth c A C ls hl G => ?_)
  have hx := C.1
  have hb := C.2.1
  have hl : lv_has ls 4 [(0, .ref (E.2.2.1 i))] := hl
  obtain ⟨z1, z2, z3, z4, z5⟩ := C.2.2.2.2.2.2.2.2.2.2
  have loop : ∀ (n k : Nat) (l1 : Int64) (l3 : Int32) (H : Heap) (locs : List Loc) (ls : Array Slot), k + n = lenJS.getD i 0 → l1 = pkA i k → l3 = nI k → xG s E A ws H locs → lv_has ls 4 [(0, .ref (E.2.2.1 i)), (1, .long l1), (3, .int l3)] → W p l e (xR 5 120) s m args below meth c H locs 0 0 (MQ below (xqL E A ws v) args s 0 0 A) (F0 m 4 ls []) := by
    intro n
    induction n with
    | zero =>
      intro k l1 l3 H locs ls hk e1 e3 G hl
      refine lv_iload_n hx hb dX12_packed_4 rfl (lv_at hl 2 rfl) ?_
      refine lv_aload_n hx hb dX12_packed_5 rfl (lv_at hl 0 rfl) ?_
      refine xI_go C G (xrunVr C G (c_S_length hi _) mJ0_length kX12_59 (vk_recv z2 hi G.2.2) ⟨Nat.le_of_ble_eq_true rfl, Nat.le_of_ble_eq_true rfl⟩ rfl hl.1 rfl (Nat.le_of_ble_eq_true rfl) ⟨Nat.le_refl _, Nat.le_refl _⟩ dX12_packed_6) (fun hz H locs G => ?_)
      refine lv_icmp_ge (tgt := 36) hx hb dX12_packed_9 (by decide) (fun _ => ?_) (fun h => absurd (by rw [e3, show Int32.ofNat (lenJS.getD i 0) = nI (lenJS.getD i 0) from rfl, sc_shr0 hL]; exact nI_le (by omega) (by omega)) h)
      refine lv_lload_n hx hb dX12_packed_36 rfl (lv_at hl 1 rfl) ?_
      have e : l1 = v := by rw [e1, ← hv, show k = lenJS.getD i 0 by omega]
      rw [e]
      exact xL_ret C G dX12_packed_37
    | succ n ih =>
      intro k l1 l3 H locs ls hk e1 e3 G hl
      refine lv_iload_n hx hb dX12_packed_4 rfl (lv_at hl 2 rfl) ?_
      refine lv_aload_n hx hb dX12_packed_5 rfl (lv_at hl 0 rfl) ?_
      refine xI_go C G (xrunVr C G (c_S_length hi _) mJ0_length kX12_59 (vk_recv z2 hi G.2.2) ⟨Nat.le_of_ble_eq_true rfl, Nat.le_of_ble_eq_true rfl⟩ rfl hl.1 rfl (Nat.le_of_ble_eq_true rfl) ⟨Nat.le_refl _, Nat.le_refl _⟩ dX12_packed_6) (fun hz H locs G => ?_)
      refine lv_icmp_ge (tgt := 36) hx hb dX12_packed_9 (by decide) (fun h => absurd h (by rw [e3, show Int32.ofNat (lenJS.getD i 0) = nI (lenJS.getD i 0) from rfl, sc_shr0 hL]; exact nI_ge (by omega) (by omega))) (fun _ => ?_)
      refine lv_ldc2 hx hb C.2.2.2.1 (C.2.2.2.2.1 _ qX12_65) dX12_packed_12 ?_
      refine lv_lload_n hx hb dX12_packed_15 rfl (lv_at hl 1 rfl) ?_
      refine lv_lmul hx hb dX12_packed_16 ?_
      refine lv_aload_n hx hb dX12_packed_17 rfl (lv_at hl 0 rfl) ?_
      refine lv_iload_n hx hb dX12_packed_18 rfl (lv_at hl 2 rfl) ?_
      subst e3
      refine xI_go C G (xrunVr C G (c_S_charAt hi (k := k) (by omega) hL _) mJ0_charAt kX12_67 (vk_recv z2 hi G.2.2) ⟨Nat.le_of_ble_eq_true rfl, Nat.le_of_ble_eq_true rfl⟩ rfl hl.1 rfl (Nat.le_of_ble_eq_true rfl) ⟨Nat.le_refl _, Nat.le_refl _⟩ dX12_packed_19) (fun hz H locs G => ?_)
      refine lv_bipush (v := 97) hx hb dX12_packed_22 (by decide) ?_
      refine lv_isub hx hb dX12_packed_24 ?_
      refine lv_iconst (v := 1) hx hb dX12_packed_25 (by decide) ?_
      refine lv_iadd hx hb dX12_packed_26 ?_
      refine lv_i2l hx hb dX12_packed_27 rfl ?_
      refine lv_ladd hx hb dX12_packed_28 ?_
      refine lv_topl (fun x1 ex1 => ?_)
      refine lv_lstore_n (lv' := [(1, .long x1), (0, .ref (E.2.2.1 i)), (3, .int (nI k))]) hx hb dX12_packed_29 rfl hl (by decide) rfl (fun ls hl => ?_)
      refine lv_iinc (v := nI (k + 1)) (lv' := [(3, .int (nI (k + 1))), (1, .long x1), (0, .ref (E.2.2.1 i))]) hx hb dX12_packed_30 hl (k := 2) rfl (nI_1 k) (by decide) rfl (fun ls hl => ?_)
      refine lv_goto (tgt := 4) hx hb dX12_packed_33 (by decide) ?_
      exact ih (k + 1) x1 (nI (k + 1)) _ _ ls (by omega) (by rw [ex1, e1]; rfl) rfl G (lv_sub hl [2, 1, 0] rfl)
  refine lv_lconst (v := 0) hx hb dX12_packed_0 (by decide) ?_
  refine lv_lstore_n (lv' := [(1, .long 0), (0, .ref (E.2.2.1 i))]) hx hb dX12_packed_1 rfl hl (by decide) rfl (fun ls hl => ?_)
  refine lv_iconst (v := 0) hx hb dX12_packed_2 (by decide) ?_
  refine lv_istore_n (lv' := [(3, .int 0), (1, .long 0), (0, .ref (E.2.2.1 i))]) hx hb dX12_packed_3 rfl hl (by decide) rfl (fun ls hl => ?_)
  exact loop (lenJS.getD i 0) 0 0 0 _ _ ls (by omega) rfl rfl G (lv_sub hl [2, 1, 0] rfl)
end XStr
