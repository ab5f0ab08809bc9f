/-! tokens of the reference -/
def byOK (t : Nat → Int32) : Prop := ∀ j, ∃ n : Nat, n < 256 ∧ t j = iI ((n : Int) - 128)
theorem by_tab : ∀ n : Nat, n < 256 → (iI ((n : Int) - 128) &&& 255 = iI (if n < 128 then (n : Int) + 128 else (n : Int) - 128)) := by decide +kernel
theorem by_is {t : Nat → Int32} (h : byOK t) (j : Nat) {a : Int} (ha : 0 ≤ a) (ha2 : a < 128) : (t j &&& 255 = iI a) ↔ t j = iI a := by
  obtain ⟨n, hn, e⟩ := h j
  rw [e, by_tab n hn]
  split
  · rw [iI_eq, iI_eq] <;> omega
  · exact Iff.rfl
theorem by_in {t : Nat → Int32} (h : byOK t) (j : Nat) {a b : Int} (ha : 0 ≤ a) (hb : b < 128) (ha2 : a < 128) (hb2 : 0 ≤ b) : (iI a ≤ (t j &&& 255) ∧ (t j &&& 255) ≤ iI b ↔ iI a ≤ t j ∧ t j ≤ iI b) ∧ (iI a ≤ t j → t j &&& 255 = t j) := by
  obtain ⟨n, hn, e⟩ := h j
  rw [e, by_tab n hn]
  refine ⟨?_, fun hh => ?_⟩
  · split
    · rw [iI_le, iI_le, iI_le, iI_le] <;> omega
    · exact Iff.rfl
  · rw [iI_le (by omega) (by omega) (by omega) (by omega)] at hh
    rw [if_neg (by omega)]
theorem r_byteAt {t : Nat → Int32} {e a : Nat} (he : e ≤ 800) (ha : a ≤ 800) : f_M_byteAt (iI (a : Nat)) t (iI (e : Nat)) = some (if e ≤ a then -1 else t a &&& 255) := by
  unfold f_M_byteAt
  by_cases c : e ≤ a
  · rw [if_pos (show iI (e : Nat) ≤ iI (a : Nat) by rw [iI_le] <;> omega), if_pos c]
  · rw [if_neg (show ¬ iI (e : Nat) ≤ iI (a : Nat) by rw [iI_le] <;> omega), iI_ck (show a < 800 by omega) (by omega), iI_cl (by omega), if_neg c]
theorem r_spaces {t : Nat → Int32} {e : Nat} (ht : byOK t) (he : e ≤ 800) : ∀ k f a, e ≤ a + k → k < f → a ≤ 800 → f_M_goesOn_L9 t (iI (e : Nat)) f (iI (a : Nat)) = some (iI ((skN (fun j => decide ((32 : Int32) ≤ t j ∧ t j ≤ 32)) e k a : Nat) : Int)) := by
  intro k
  induction k with
  | zero =>
    intro f a h1 h2 h3
    obtain ⟨f, rfl⟩ : ∃ g, f = g + 1 := ⟨f - 1, by omega⟩
    simp only [f_M_goesOn_L9]
    rw [r_byteAt he h3, if_pos (show e ≤ a by omega), bd_some, if_neg (show ¬ (-1 : Int32) = 32 by decide)]
    rfl
  | succ k ih =>
    intro f a h1 h2 h3
    obtain ⟨f, rfl⟩ : ∃ g, f = g + 1 := ⟨f - 1, by omega⟩
    simp only [f_M_goesOn_L9, skN]
    rw [r_byteAt he h3, bd_some]
    by_cases c : e ≤ a
    · rw [if_pos c, if_pos c, if_neg (show ¬ (-1 : Int32) = 32 by decide)]
    · rw [if_neg c, if_neg c]
      have h32 := by_is ht a (a := 32) (by omega) (by omega)
      by_cases d : t a = 32
      · rw [if_pos (show t a &&& 255 = 32 from h32.mpr d), if_pos (by rw [decide_eq_true_iff, d]; decide), lt_eq, sm1]
        exact ih f (a + 1) (by omega) (by omega) (by omega)
      · rw [if_neg (show ¬ t a &&& 255 = 32 from fun hh => d (h32.mp hh)), if_neg (by rw [decide_eq_true_iff]; exact fun hh => d (Int32.le_antisymm hh.2 hh.1))]
