/-! words: letters and their two packings -/
theorem jL_bv (n : Nat) : (jL (n : Int)).toBitVec = BitVec.ofNat 64 n := by
  unfold jL
  rw [Int64.ofInt_eq_ofNat, Int64.toBitVec_ofNat']
theorem jL_app {w x : Nat} (hw : w < 36028797018963968) (hx : x < 256) : (jL (w : Nat) <<< ((8 : Int32).toInt64 &&& 63)) ||| jL (x : Nat) = jL ((w * 256 + x : Nat) : Int) := by
  apply Int64.toBitVec_inj.mp
  have e : (((8 : Int32).toInt64 &&& 63).toBitVec.smod 64) = 8#64 := by decide
  rw [Int64.toBitVec_or, Int64.toBitVec_shiftLeft, e, jL_bv, jL_bv, jL_bv]
  apply BitVec.eq_of_toNat_eq
  rw [BitVec.toNat_or, BitVec.shiftLeft_eq', BitVec.toNat_shiftLeft, BitVec.toNat_ofNat, BitVec.toNat_ofNat, BitVec.toNat_ofNat, BitVec.toNat_ofNat]
  rw [Nat.mod_eq_of_lt (show w < 2 ^ 64 by omega), Nat.mod_eq_of_lt (show x < 2 ^ 64 by omega), Nat.mod_eq_of_lt (show w * 256 + x < 2 ^ 64 by omega), Nat.mod_eq_of_lt (show 8 < 2 ^ 64 by omega)]
  have h1 : w <<< 8 = w * 256 := by rw [Nat.shiftLeft_eq]
  rw [Nat.mod_eq_of_lt (show w <<< 8 < 2 ^ 64 by omega), ← Nat.shiftLeft_add_eq_or_of_lt (show x < 2 ^ 8 by omega), h1]
def cvW : List Nat → Nat
  | [] => 0
  | x :: l => cvW l * 256 + x
def mvW : List Nat → Nat
  | [] => 0
  | x :: l => mvW l * 32 + (x - 96)
def lwO (l : List Nat) : Prop := ∀ x, x ∈ l → 97 ≤ x ∧ x ≤ 122
theorem lwO_c {x : Nat} {l : List Nat} (h : lwO (x :: l)) : (97 ≤ x ∧ x ≤ 122) ∧ lwO l := ⟨h x (List.mem_cons_self ..), fun y hy => h y (List.mem_cons_of_mem _ hy)⟩
theorem cvW_lt : ∀ l, lwO l → 2 * cvW l < 256 ^ l.length := by
  intro l
  induction l with
  | nil => intro _; decide
  | cons x l ih =>
    intro h
    obtain ⟨h1, h2⟩ := lwO_c h
    have h3 := ih h2
    show 2 * (cvW l * 256 + x) < 256 ^ (l.length + 1)
    rw [Nat.pow_succ]
    omega
theorem mvW_lt : ∀ l, lwO l → mvW l < 32 ^ l.length := by
  intro l
  induction l with
  | nil => intro _; decide
  | cons x l ih =>
    intro h
    obtain ⟨h1, h2⟩ := lwO_c h
    have h3 := ih h2
    show mvW l * 32 + (x - 96) < 32 ^ (l.length + 1)
    rw [Nat.pow_succ]
    omega
theorem cm_inj : ∀ l l', lwO l → lwO l' → (cvW l = cvW l' ↔ l = l') ∧ (mvW l = mvW l' ↔ l = l') := by
  intro l
  induction l with
  | nil =>
    intro l' _ h'
    cases l' with
    | nil => exact ⟨⟨fun _ => rfl, fun _ => rfl⟩, ⟨fun _ => rfl, fun _ => rfl⟩⟩
    | cons y l' =>
      obtain ⟨h1, h2⟩ := lwO_c h'
      refine ⟨⟨fun h => ?_, fun h => by cases h⟩, ⟨fun h => ?_, fun h => by cases h⟩⟩
      · have : 0 = cvW l' * 256 + y := h
        omega
      · have : 0 = mvW l' * 32 + (y - 96) := h
        omega
  | cons x l ih =>
    intro l' h h'
    obtain ⟨h1, h2⟩ := lwO_c h
    cases l' with
    | nil =>
      refine ⟨⟨fun h => ?_, fun h => by cases h⟩, ⟨fun h => ?_, fun h => by cases h⟩⟩
      · have : cvW l * 256 + x = 0 := h
        omega
      · have : mvW l * 32 + (x - 96) = 0 := h
        omega
    | cons y l' =>
      obtain ⟨h3, h4⟩ := lwO_c h'
      obtain ⟨i1, i2⟩ := ih l' h2 h4
      refine ⟨⟨fun h => ?_, fun h => by rw [h]⟩, ⟨fun h => ?_, fun h => by rw [h]⟩⟩
      · have g : cvW l * 256 + x = cvW l' * 256 + y := h
        have e1 : x = y := by omega
        have e2 : l = l' := i1.mp (by omega)
        rw [e1, e2]
      · have g : mvW l * 32 + (x - 96) = mvW l' * 32 + (y - 96) := h
        have e1 : x = y := by omega
        have e2 : l = l' := i2.mp (by omega)
        rw [e1, e2]
/-- the same word, as the class packs it and as the reference does -/
def WR (c m : Int64) : Prop := ∃ l, lwO l ∧ l.length ≤ 8 ∧ l ≠ [] ∧ c = jL (cvW l : Nat) ∧ m = jL (mvW l : Nat)
theorem cvW_b {l : List Nat} (h : lwO l) (h8 : l.length ≤ 8) : cvW l < 9223372036854775808 ∧ mvW l < 9223372036854775808 := by
  have h1 := cvW_lt l h
  have h2 := mvW_lt l h
  have h3 : 256 ^ l.length ≤ 256 ^ 8 := Nat.pow_le_pow_right (by omega) h8
  have h4 : 32 ^ l.length ≤ 32 ^ 8 := Nat.pow_le_pow_right (by omega) h8
  have e1 : 256 ^ 8 = 18446744073709551616 := by decide
  have e2 : 32 ^ 8 = 1099511627776 := by decide
  omega
theorem WR_eq {c m c' m' : Int64} (h : WR c m) (h' : WR c' m') : c = c' ↔ m = m' := by
  obtain ⟨l, a1, a2, -, rfl, rfl⟩ := h
  obtain ⟨l', b1, b2, -, rfl, rfl⟩ := h'
  have c1 := cvW_b a1 a2
  have c2 := cvW_b b1 b2
  obtain ⟨i1, i2⟩ := cm_inj l l' a1 b1
  rw [jL_eq (by omega) (by omega) (by omega) (by omega), jL_eq (by omega) (by omega) (by omega) (by omega), Int.ofNat_inj, Int.ofNat_inj, i1, i2]
theorem WR_0 {c m : Int64} (h : WR c m) : ¬ c = 0 := by
  obtain ⟨l, a1, a2, a3, rfl, rfl⟩ := h
  have c1 := cvW_b a1 a2
  rw [show (0 : Int64) = jL 0 from rfl, jL_eq (by omega) (by omega) (by omega) (by omega)]
  cases l with
  | nil => exact absurd rfl a3
  | cons x l =>
    have h1 := (lwO_c a1).1
    show ¬ ((cvW l * 256 + x : Nat) : Int) = 0
    omega
theorem lg0 (a b : Int64) : (lg_cmp a b = 0) ↔ a = b := by
  unfold lg_cmp
  by_cases c : a = b
  · subst c
    rw [if_neg (Int64.lt_irrefl (a := a)), if_pos rfl]
    exact ⟨fun _ => rfl, fun _ => rfl⟩
  · rw [if_neg c]
    refine ⟨fun h => ?_, fun h => absurd h c⟩
    split at h
    · exact absurd h (by decide)
    · exact absurd h (by decide)
theorem kwO (l : List Nat) (h : l.all (fun x => decide (97 ≤ x) && decide (x ≤ 122)) = true) : lwO l := by
  intro x hx
  have := List.all_eq_true.mp h x hx
  simp only [Bool.and_eq_true, decide_eq_true_eq] at this
  exact this
theorem kw_table : WR 499850046565 21006725 := ⟨[101, 108, 98, 97, 116], kwO _ rfl, by decide, by decide, by decide, by decide⟩
theorem kw_person : WR 123581014175598 542723566 := ⟨[110, 111, 115, 114, 101, 112], kwO _ rfl, by decide, by decide, by decide, by decide⟩
theorem kw_fork : WR 1718579819 212555 := ⟨[107, 114, 111, 102], kwO _ rfl, by decide, by decide, by decide, by decide⟩
theorem kw_known : WR 461414299502 12009198 := ⟨[110, 119, 111, 110, 107], kwO _ rfl, by decide, by decide, by decide, by decide⟩
theorem kw_unsure : WR 129117243929189 719967813 := ⟨[101, 114, 117, 115, 110, 117], kwO _ rfl, by decide, by decide, by decide, by decide⟩
theorem kw_tried : WR 500135716196 21570724 := ⟨[100, 101, 105, 114, 116], kwO _ rfl, by decide, by decide, by decide, by decide⟩
theorem kw_seats : WR 495622124659 20088467 := ⟨[115, 116, 97, 101, 115], kwO _ rfl, by decide, by decide, by decide, by decide⟩
theorem kw_slack : WR 495739560811 20317291 := ⟨[107, 99, 97, 108, 115], kwO _ rfl, by decide, by decide, by decide, by decide⟩
theorem kw_saw : WR 7561591 19511 := ⟨[119, 97, 115], kwO _ rfl, by decide, by decide, by decide, by decide⟩
theorem kw_quarrel : WR 31935733760681324 18959911084 := ⟨[108, 101, 114, 114, 97, 117, 113], kwO _ rfl, by decide, by decide, by decide, by decide⟩
theorem kw_at : WR 24948 52 := ⟨[116, 97], kwO _ rfl, by decide, by decide, by decide, by decide⟩
theorem kw_years : WR 521391927923 26379859 := ⟨[115, 114, 97, 101, 121], kwO _ rfl, by decide, by decide, by decide, by decide⟩
theorem kw_plain : WR 482854660462 17171758 := ⟨[110, 105, 97, 108, 112], kwO _ rfl, by decide, by decide, by decide, by decide⟩
theorem kw_hinged : WR 114802033124708 278338724 := ⟨[100, 101, 103, 110, 105, 104], kwO _ rfl, by decide, by decide, by decide, by decide⟩
theorem kw_ringed : WR 125797149402468 613883044 := ⟨[100, 101, 103, 110, 105, 114], kwO _ rfl, by decide, by decide, by decide, by decide⟩
theorem kw_fed : WR 6710628 6308 := ⟨[100, 101, 102], kwO _ rfl, by decide, by decide, by decide, by decide⟩
theorem kw_starved : WR 32497584202736996 21073844388 := ⟨[100, 101, 118, 114, 97, 116, 115], kwO _ rfl, by decide, by decide, by decide, by decide⟩
