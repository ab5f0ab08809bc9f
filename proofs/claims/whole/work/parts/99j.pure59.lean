/-! led; sizes without a table -/
def ledN (F : Nat → Int32) (l : Int32) : Nat → Nat → Int32 → Option Nat
  | 0, _, _ => none
  | k + 1, q, c => if F q = 0 then if c = l then some q else ledN F l k (q + 1) (c + 1) else ledN F l k (q + 1) c
theorem r_ledL {F : Nat → Int32} {x : Nat → Int32} {l th sl : Int32} {p : Nat} (hp : p ≤ 5) (hF : ∀ q, q < p → f_M_feedersOf (iI (q : Nat)) x sl = some (F q)) : ∀ k f q c, q + k = p → k < f → f_M_led_L20 l th x sl (iI (p : Nat)) f c (iI (q : Nat)) = some (match ledN F l k q c with | some r => .inl (iI (r : Nat), th, x) | none => .inr ()) := by
  intro k
  induction k with
  | zero =>
    intro f q c h1 h2
    obtain ⟨f, rfl⟩ : ∃ g, f = g + 1 := ⟨f - 1, by omega⟩
    simp only [f_M_led_L20]
    rw [if_pos (show iI (p : Nat) ≤ iI (q : Nat) by rw [iI_le] <;> omega)]
    rfl
  | succ k ih =>
    intro f q c h1 h2
    obtain ⟨f, rfl⟩ : ∃ g, f = g + 1 := ⟨f - 1, by omega⟩
    simp only [f_M_led_L20, ledN]
    rw [if_neg (show ¬ iI (p : Nat) ≤ iI (q : Nat) by rw [iI_le] <;> omega), hF q (by omega), bd_some]
    by_cases c1 : F q = 0
    · rw [if_pos c1, if_pos c1]
      by_cases c2 : c = l
      · rw [if_pos c2, if_pos c2]
      · rw [if_neg c2, if_neg c2, lt_eq, lt_eq, sm1, ih f (q + 1) (c + 1) (by omega) (by omega)]
    · rw [if_neg c1, if_neg c1, lt_eq, sm1, ih f (q + 1) c (by omega) (by omega)]
theorem n_size (l1 rd_length : Int32) : ∃ a, f_X_size l1 0 rd_length 0 0 0 0 0 0 0 0 0 0 0 = some a ∧ f_M_size_N l1 rd_length = some (a, 0) := by
  unfold f_X_size f_M_size_N f_M_in
  obtain ⟨z, z1, z2, rfl⟩ := i_any l1
  by_cases c : 0 ≤ z ∧ z ≤ 12
  · obtain ⟨a, rfl⟩ := Int.eq_ofNat_of_zero_le c.1
    have ha : a ≤ 12 := by omega
    have h5 : f_JInt_bitCount (0 : Int32) = some 0 := q_bitCount_d 0 (by omega)
    rw [h5]
    clear h5 c z1 z2
    rcases (show a = 0 ∨ a = 1 ∨ a = 2 ∨ a = 3 ∨ a = 4 ∨ a = 5 ∨ a = 6 ∨ a = 7 ∨ a = 8 ∨ a = 9 ∨ a = 10 ∨ a = 11 ∨ a = 12 by omega) with rfl | rfl | rfl | rfl | rfl | rfl | rfl | rfl | rfl | rfl | rfl | rfl | rfl <;> exact ⟨_, rfl, rfl⟩
  · have hne : ∀ k : Nat, k ≤ 12 → ¬ iI z = iI (k : Nat) := fun k hk => by rw [iI_eq] <;> omega
    rw [if_neg (show ¬ iI z = 0 from hne 0 (by omega)), if_neg (show ¬ iI z = 1 from hne 1 (by omega)), if_neg (show ¬ iI z = 2 from hne 2 (by omega)), if_neg (show ¬ iI z = 3 from hne 3 (by omega)), if_neg (show ¬ iI z = 4 from hne 4 (by omega)), if_neg (show ¬ iI z = 5 from hne 5 (by omega)), if_neg (show ¬ iI z = 6 from hne 6 (by omega)), if_neg (show ¬ iI z = 7 from hne 7 (by omega)), if_neg (show ¬ iI z = 8 from hne 8 (by omega)), if_neg (show ¬ iI z = 9 from hne 9 (by omega)), if_neg (show ¬ iI z = 10 from hne 10 (by omega)), if_neg (show ¬ iI z = 11 from hne 11 (by omega)), if_neg (show ¬ iI z = 12 from hne 12 (by omega)), if_neg (show ¬ iI z = 12 from hne 12 (by omega))]
    refine ⟨_, rfl, ?_⟩
    by_cases c1 : z < 0
    · rw [if_pos (show iI z < 0 by rw [i_0, iI_lt] <;> omega)]; rfl
    · rw [if_neg (show ¬ iI z < 0 by rw [i_0, iI_lt] <;> omega), if_pos (show (11 : Int32) < iI z by rw [show (11 : Int32) = iI 11 from rfl, iI_lt] <;> omega)]; rfl
