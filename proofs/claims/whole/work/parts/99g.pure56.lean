/-! sizes -/
section
variable {v : Nat → Int32} {ic ln acts qc un tr : Int32} {p fb ns sl sw n g : Nat}
theorem e_size (hfb : fb < 1024) (h55 : v 55 = iI (n : Nat)) (h57 : v 57 = iI (g : Nat)) (l1 : Int32) : ∃ R, f_X_size l1 ic ln (iI ns) (iI sl) (iI sw) qc (iI p) (iI fb) un tr (iI n) (iI g) acts = some R ∧ f_M_size l1 ln v acts ic (iI ns) (iI sl) (iI sw) qc (iI p) (iI fb) un tr = some (R, 0) := by
  unfold f_X_size f_M_size f_M_in
  obtain ⟨z, z1, z2, rfl⟩ := i_any l1
  by_cases c : 0 ≤ z ∧ z ≤ 12
  · obtain ⟨a, rfl⟩ := Int.eq_ofNat_of_zero_le c.1
    have ha : a ≤ 12 := by omega
    have h5 := q_bitCount_d fb hfb
    have h6 := r_bits fb hfb
    rw [h5, h6, ck55, ck57, cl55, cl57, h55, h57]
    clear h5 h6 c z1 z2
    rcases (show a = 0 ∨ a = 1 ∨ a = 2 ∨ a = 3 ∨ a = 4 ∨ a = 5 ∨ a = 6 ∨ a = 7 ∨ a = 8 ∨ a = 9 ∨ a = 10 ∨ a = 11 ∨ a = 12 by omega) with rfl | rfl | rfl | rfl | rfl | rfl | rfl | rfl | rfl | rfl | rfl | rfl | rfl <;> exact ⟨_, rfl, rfl⟩
  · have hne : ∀ k : Nat, k ≤ 12 → ¬ iI z = iI (k : Nat) := fun k hk => by rw [iI_eq] <;> omega
    rw [if_neg (show ¬ iI z = 0 from hne 0 (by omega)), if_neg (show ¬ iI z = 1 from hne 1 (by omega)), if_neg (show ¬ iI z = 2 from hne 2 (by omega)), if_neg (show ¬ iI z = 3 from hne 3 (by omega)), if_neg (show ¬ iI z = 4 from hne 4 (by omega)), if_neg (show ¬ iI z = 5 from hne 5 (by omega)), if_neg (show ¬ iI z = 6 from hne 6 (by omega)), if_neg (show ¬ iI z = 7 from hne 7 (by omega)), if_neg (show ¬ iI z = 8 from hne 8 (by omega)), if_neg (show ¬ iI z = 9 from hne 9 (by omega)), if_neg (show ¬ iI z = 10 from hne 10 (by omega)), if_neg (show ¬ iI z = 11 from hne 11 (by omega)), if_neg (show ¬ iI z = 12 from hne 12 (by omega)), if_neg (show ¬ iI z = 12 from hne 12 (by omega))]
    refine ⟨_, rfl, ?_⟩
    by_cases c1 : z < 0
    · rw [if_pos (show iI z < 0 by rw [i_0, iI_lt] <;> omega)]; rfl
    · rw [if_neg (show ¬ iI z < 0 by rw [i_0, iI_lt] <;> omega), if_pos (show (11 : Int32) < iI z by rw [show (11 : Int32) = iI 11 from rfl, iI_lt] <;> omega)]; rfl
end
