/-! acts: undo -/
section
variable {so on ot ki ye sa v x past pa pw pm br : Nat → Int32} {pr go bw fr pn pc acts : Int32} {p fb ns sl sw : Nat}
theorem q_takeLatest {nx c : Nat} (hn : nx < 16) (h0 : 0 < c) : f_Past_takeLatest (iI (nx : Nat)) (iI (c : Nat)) = some (iI (((nx + 15) % 16 : Nat) : Int), iI (((nx + 15) % 16 : Nat) : Int), iI ((c - 1 : Nat) : Int)) := by
  unfold f_Past_takeLatest
  have e1 : iI (nx : Nat) + 16 - 1 = iI ((nx + 15 : Nat) : Int) := by rw [i_16, i_1, iI_add, iI_sub]; exact congrArg iI (by omega)
  have e2 : iI ((nx + 15 : Nat) : Int) - iI ((nx + 15 : Nat) : Int) / 16 * 16 = iI (((nx + 15) % 16 : Nat) : Int) := iI_mod (b := 16) (by omega) (by omega) (by omega)
  have e3 : iI (c : Nat) - 1 = iI ((c - 1 : Nat) : Int) := by rw [i_1, iI_sub]; exact congrArg iI (by omega)
  rw [e1, e2, lt_eq, e3, lt_eq]
theorem e_undo (h : stA p fb ns sl so on ot ki ye sa pr go br bw fr pa pw pm pn pc v past acts) : ∃ R R', f_X_undo so ye sa pr go fr pa pw pm pn pc = some R ∧ f_M_undo v past acts = some R' ∧ qz R.1 R.2.1 R'.1 R'.2.2.1 R'.2.2.2.1 ∧ stA p fb ns sl R.2.2.1 on ot ki R.2.2.2.1 R.2.2.2.2.1 R.2.2.2.2.2.1 R.2.2.2.2.2.2.1 br bw R.2.2.2.2.2.2.2.1 pa pw pm R.2.2.2.2.2.2.2.2.1 R.2.2.2.2.2.2.2.2.2 R'.2.2.2.2.1 past R'.2.2.2.2.2 := by
  obtain ⟨h, c, hc, hv, ho, hp, hse⟩ := h
  obtain ⟨c16, rfl, rfl, nx, hnx, rfl, hi⟩ := hp
  unfold f_X_undo f_M_undo
  by_cases c0 : c = 0
  · subst c0
    rw [if_pos (show iI ((0 : Nat) : Int) = 0 from rfl), if_pos (show iI ((0 : Nat) : Int) = 0 from rfl)]
    exact ⟨_, _, rfl, rfl, ⟨rfl, rfl, (show ¬ (6 : Int32) = 4 by decide), rfl⟩, h, 0, hc, hv, ho, ⟨c16, rfl, rfl, nx, hnx, rfl, hi⟩, hse⟩
  · have c0' : ¬ iI (c : Nat) = 0 := by rw [i_0, iI_eq] <;> omega
    obtain ⟨k1, k2, k3⟩ := hi 0 (by omega)
    rw [show (nx + 15 - 0) % 16 = (nx + 15) % 16 from rfl] at k3
    obtain ⟨R, t1, t2⟩ := q_takeBack (show (nx + 15) % 16 < 16 by omega) hc ho k3
    obtain ⟨v', r1, r2⟩ := r_undoL (v := v) (past := past) (a := c - 1) (by omega)
    have e3 : iI (c : Nat) - 1 = iI ((c - 1 : Nat) : Int) := by rw [i_1, iI_sub]; exact congrArg iI (by omega)
    rw [if_neg c0', if_neg c0', q_takeLatest hnx (by omega), bd_some, t1, bd_some, e3, lt_eq, r1, bd_some]
    refine ⟨_, _, rfl, rfl, qz_0 rfl, fun i => h (i + 1), c - 1, t2, xP_cp k1 k2 (fun j hj => ?_), k1, ⟨by omega, rfl, rfl, (nx + 15) % 16, by omega, rfl, fun i hi2 => ?_⟩, Or.inl rfl⟩
    · exact (r2 j hj).trans (by rw [Nat.sub_zero])
    · obtain ⟨q1, q2, q3⟩ := hi (i + 1) (by omega)
      have hs : ((nx + 15) % 16 + 15 - i) % 16 = (nx + 15 - (i + 1)) % 16 := by omega
      show okP (h (i + 1 + 1)) p fb ns sl ∧ xP (fun j => past (58 * (c - 1 - 1 - i) + j)) (h (i + 1 + 1)) p fb ∧ unD (pa (((nx + 15) % 16 + 15 - i) % 16)) (pw (((nx + 15) % 16 + 15 - i) % 16)) (pm (((nx + 15) % 16 + 15 - i) % 16)) (h (i + 1)) (h (i + 1 + 1)) p
      rw [hs, show c - 1 - 1 - i = c - 1 - (i + 1) by omega]
      exact ⟨q1, q2, q3⟩
end
