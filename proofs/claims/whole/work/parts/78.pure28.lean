/-! saw or sit -/
theorem prd (l : Int32) : (∃ t : Nat, t ≤ 9 ∧ l = iI t ∧ f_X_within l 9 = some 1 ∧ f_M_refusesPride l = some 0) ∨ (f_X_within l 9 = some 0 ∧ f_M_refusesPride l = some 2) := by
  obtain ⟨z, z1, z2, rfl⟩ := i_any l
  unfold f_X_within f_M_refusesPride f_M_in
  simp (disch := omega) only [i_9, i_0, iI_lt]
  by_cases c1 : z < 0
  · right; simp only [if_pos c1]; exact ⟨rfl, rfl⟩
  · simp only [if_neg c1]
    by_cases c2 : (9 : Int) < z
    · right; simp only [if_pos c2]; exact ⟨rfl, rfl⟩
    · left; simp only [if_neg c2]
      exact ⟨z.toNat, by omega, by congr 1; omega, rfl, rfl⟩
theorem gets_eq (a b c : Int32) : f_M_gets a b c = f_X_shareOf a b c := rfl
theorem share_some (a b c : Int32) : ∃ r, f_X_shareOf a b c = some r := by
  unfold f_X_shareOf
  split <;> split <;> exact ⟨_, rfl⟩
theorem e_saw {p : Nat} (hp0 : 0 < p) (hp : p ≤ 5) (l1 l2 l3 l4 : Int32) : ∃ R R', f_X_saw l1 l2 l3 l4 (iI p) = some R ∧ f_M_saw l1 l2 l3 l4 = some R' ∧ qz R.1 R.2 R'.1 R'.2.2.1 R'.2.2.2 := by
  unfold f_X_saw f_M_saw
  rw [q_noTable hp0 hp]
  simp only [bd_some, eq_self, if_true]
  rcases prd l1 with ⟨t, ht, rfl, e1, e2⟩ | ⟨e1, e2⟩
  · obtain ⟨r1, h1⟩ := share_some (iI t) l2 l3
    obtain ⟨r2, h2⟩ := share_some (iI t) l3 l2
    rw [e1, e2]
    simp only [bd_some, z10, if_false]
    rw [if_pos (show (0 : Int32) ≤ 0 by decide), gets_eq, gets_eq, h1, h2]
    by_cases c : l4 = 0
    · rw [if_pos c, if_pos c]; exact ⟨_, _, rfl, rfl, qz_0 rfl⟩
    · rw [if_neg c, if_neg c]; exact ⟨_, _, rfl, rfl, qz_0 rfl⟩
  · rw [e1, e2]
    exact ⟨_, _, rfl, rfl, rfl, rfl, by decide, rfl⟩
theorem rest_tab : ∀ t : Nat, t < 10 → ∀ j : Nat, j < 4 → f_X_isRest (iI (t : Int)) (b01 (j.testBit 1)) (b01 (j.testBit 0)) = f_M_isRest (iI (t : Int)) (iI (j : Int)) ∧ (f_M_isRest (iI (t : Int)) (iI (j : Int)) = some 0 ∨ f_M_isRest (iI (t : Int)) (iI (j : Int)) = some 1) := by decide +kernel
theorem rest_num : ∀ j : Nat, j < 4 → (if b01 (j.testBit 1) = 0 then (0 : Int32) else 10) + (if b01 (j.testBit 0) = 0 then (0 : Int32) else 1) = (10 : Int32) * (iI (j : Int) / 2) + (iI (j : Int) - iI (j : Int) / 2 * 2) := by decide +kernel
theorem e_rests {p : Nat} (hp0 : 0 < p) (hp : p ≤ 5) (l1 : Int32) : ∃ R R', f_X_rests l1 (iI p) = some R ∧ f_M_rests l1 = some R' ∧ qz R.1 R.2 R'.1 R'.2.2.1 R'.2.2.2 := by
  unfold f_X_rests f_M_rests
  rw [q_noTable hp0 hp]
  simp only [bd_some, eq_self, if_true]
  rcases prd l1 with ⟨t, ht, rfl, e1, e2⟩ | ⟨e1, e2⟩
  · rw [e1, e2]
    simp only [bd_some, z10, if_false]
    rw [if_pos (by decide)]
    refine lq (L := fun f j (st : Int32) => f_X_rests_L28 (iI t) f st (iI (j : Int))) (L' := fun f j (st : Int32) => f_M_rests_L26 (iI t) f st (iI (j : Int))) (n := 4) (I := fun _ a b => a = b) ?_ ?_ fu 0 (0 : Int32) (0 : Int32) (by omega) (by have := fu_big; omega) rfl
    · intro f f' j st st' hj hst
      subst hst
      obtain ⟨g1, g2⟩ := rest_tab t (by omega) j hj
      have h1 : f_X_has (iI j) (1 : Int32) = some (b01 (j.testBit 1)) := q_has (x := j) (n := 1) (by omega) (by omega)
      have h0 : f_X_has (iI j) (0 : Int32) = some (b01 (j.testBit 0)) := q_has (x := j) (n := 0) (by omega) (by omega)
      simp only [f_X_rests_L28, f_M_rests_L26]
      simp (disch := omega) only [i_4, iI_le]
      rw [if_neg (by omega), if_neg (by omega), h1, h0]
      simp only [bd_some]
      rw [g1]
      left
      rcases g2 with g2 | g2
      · rw [g2]; exact ⟨st, st + 0, by simp, by simp only [bd_some, lt, eq_self, if_true, i_1, iI_add]; rfl, by simp only [bd_some, lt, eq_self, if_true, i_1, iI_add]; rfl⟩
      · rw [g2]; exact ⟨st + 1, st + 1, rfl, by simp only [bd_some, lt, z10, if_false]; rw [show iI (j : Int) + 1 = iI ((j + 1 : Nat) : Int) by rw [i_1, iI_add]; rfl], by simp only [bd_some, lt, z10, if_false]; rw [show iI (j : Int) + 1 = iI ((j + 1 : Nat) : Int) by rw [i_1, iI_add]; rfl]⟩
    · intro f f' st st' hst
      simp only [f_X_rests_L28, f_M_rests_L26]
      simp (disch := omega) only [i_4, iI_le]
      rw [if_pos (by omega), if_pos (by omega)]
      exact ⟨_, _, _, _, rfl, rfl, rfl, rfl, qz_0 hst⟩
  · rw [e1, e2]
    exact ⟨_, _, rfl, rfl, qz_2⟩
theorem e_rest {p : Nat} {mt mw : Int32} (hp0 : 0 < p) (hp : p ≤ 5) (l1 : Int32) : ∃ R R', f_X_rest l1 (iI p) = some R ∧ f_M_rest l1 mt mw = some R' ∧ qz R.1 R.2 R'.1 R'.2.2.1 R'.2.2.2 := by
  unfold f_X_rest f_M_rest
  rw [q_noTable hp0 hp]
  simp only [bd_some, eq_self, if_true]
  rcases prd l1 with ⟨t, ht, rfl, e1, e2⟩ | ⟨e1, e2⟩
  · rw [e1, e2]
    simp only [bd_some, z10, if_false]
    rw [if_pos (by decide)]
    refine lq (L := fun f j (_ : Unit) => f_X_rest_L26 (iI t) 0 f (iI (j : Int))) (L' := fun f j (_ : Unit) => f_M_rest_L23 (iI t) 0 mt mw f (iI (j : Int))) (n := 4) (I := fun _ _ _ => True) ?_ ?_ fu 0 () () (by omega) (by have := fu_big; omega) trivial
    · intro f f' j st st' hj _
      obtain ⟨g1, g2⟩ := rest_tab t (by omega) j hj
      have g3 := rest_num j hj
      have h1 : f_X_has (iI j) (1 : Int32) = some (b01 (j.testBit 1)) := q_has (x := j) (n := 1) (by omega) (by omega)
      have h0 : f_X_has (iI j) (0 : Int32) = some (b01 (j.testBit 0)) := q_has (x := j) (n := 0) (by omega) (by omega)
      simp only [f_X_rest_L26, f_M_rest_L23]
      simp (disch := omega) only [i_4, iI_le]
      rw [if_neg (by omega), if_neg (by omega), h1, h0]
      simp only [bd_some]
      rw [g1]
      rcases g2 with g2 | g2
      · left
        rw [g2]; exact ⟨(), (), trivial, by simp only [bd_some, lt, eq_self, if_true, i_1, iI_add]; rfl, by simp only [bd_some, lt, eq_self, if_true, i_1, iI_add]; rfl⟩
      · right
        rw [g2]
        simp only [bd_some, z10, if_false]
        rw [← g3]
        by_cases c1 : b01 (j.testBit 1) = 0
        · by_cases c0 : b01 (j.testBit 0) = 0
          · simp only [if_pos c1, if_pos c0, bd_some]
            exact ⟨_, _, _, _, rfl, rfl, rfl, rfl, qz_0 rfl⟩
          · simp only [if_pos c1, if_neg c0, bd_some]
            exact ⟨_, _, _, _, rfl, rfl, rfl, rfl, qz_0 rfl⟩
        · by_cases c0 : b01 (j.testBit 0) = 0
          · simp only [if_neg c1, if_pos c0, bd_some]
            exact ⟨_, _, _, _, rfl, rfl, rfl, rfl, qz_0 rfl⟩
          · simp only [if_neg c1, if_neg c0, bd_some]
            exact ⟨_, _, _, _, rfl, rfl, rfl, rfl, qz_0 rfl⟩
    · intro f f' st st' _
      simp only [f_X_rest_L26, f_M_rest_L23]
      simp (disch := omega) only [i_4, iI_le]
      rw [if_pos (by omega), if_pos (by omega)]
      exact ⟨_, _, _, _, rfl, rfl, rfl, rfl, qz_0 rfl⟩
  · rw [e1, e2]
    exact ⟨_, _, rfl, rfl, qz_2⟩
