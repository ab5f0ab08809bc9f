/-! digits of the reference -/
theorem r_isDigit (x : Int32) : f_M_isDigit x = some (if (48 : Int32) ≤ x ∧ x ≤ 57 then 1 else 0) := by
  unfold f_M_isDigit
  by_cases c : x < 48
  · rw [if_pos c, bd_some, if_pos rfl, if_neg (fun hh => absurd c (Int32.not_lt.mpr hh.1))]
  · by_cases d : (57 : Int32) < x
    · rw [if_neg c, if_pos d, bd_some, if_pos rfl, if_neg (fun hh => absurd d (Int32.not_lt.mpr hh.2))]
    · rw [if_neg c, if_neg d, bd_some, if_neg Bool.false_ne_true, if_pos ⟨Int32.not_lt.mp c, Int32.not_lt.mp d⟩]
theorem r_digits {t : Nat → Int32} {e : Nat} (ht : byOK t) (he : e ≤ 800) : ∀ k f a c w, e ≤ a + k → k < f → a ≤ 800 → c ≤ a → ∃ W, f_M_goesOn_L173 t (iI (e : Nat)) f (iI (c : Nat)) (iI (a : Nat)) w = some (iI ((c + (skN (fun j => decide ((48 : Int32) ≤ t j ∧ t j ≤ 57)) e k a - a) : Nat) : Int), iI ((skN (fun j => decide ((48 : Int32) ≤ t j ∧ t j ≤ 57)) e k a : Nat) : Int), W) ∧ (c + (skN (fun j => decide ((48 : Int32) ≤ t j ∧ t j ≤ 57)) e k a - a) ≤ 3 → W = pkN t (skN (fun j => decide ((48 : Int32) ≤ t j ∧ t j ≤ 57)) e k a - a) a w) := by
  intro k
  induction k with
  | zero =>
    intro f a c w h1 h2 h3 h4
    obtain ⟨f, rfl⟩ : ∃ g, f = g + 1 := ⟨f - 1, by omega⟩
    simp only [f_M_goesOn_L173, skN]
    rw [r_byteAt he h3, if_pos (show e ≤ a by omega), bd_some, r_isDigit, if_neg (show ¬ ((48 : Int32) ≤ -1 ∧ (-1 : Int32) ≤ 57) by decide), bd_some, if_pos rfl, Nat.sub_self]
    exact ⟨_, rfl, fun _ => rfl⟩
  | succ k ih =>
    intro f a c w h1 h2 h3 h4
    obtain ⟨f, rfl⟩ : ∃ g, f = g + 1 := ⟨f - 1, by omega⟩
    simp only [f_M_goesOn_L173, skN]
    rw [r_byteAt he h3, bd_some]
    by_cases c0 : e ≤ a
    · rw [if_pos c0, if_pos c0, r_isDigit, if_neg (show ¬ ((48 : Int32) ≤ -1 ∧ (-1 : Int32) ≤ 57) by decide), bd_some, if_pos rfl, Nat.sub_self]
      exact ⟨_, rfl, fun _ => rfl⟩
    · rw [if_neg c0, if_neg c0, r_isDigit]
      obtain ⟨b1, b2⟩ := by_in ht a (a := 48) (b := 57) (by omega) (by omega) (by omega) (by omega)
      by_cases d : (48 : Int32) ≤ t a ∧ t a ≤ 57
      · have b3 : t a &&& 255 = t a := b2 d.1
        have hge := (skN_le (P := fun j => decide ((48 : Int32) ≤ t j ∧ t j ≤ 57)) (e := e) k (a + 1)).1
        rw [b3, if_pos d, bd_some, if_neg (show ¬ (1 : Int32) = 0 by decide), if_pos (show decide ((48 : Int32) ≤ t a ∧ t a ≤ 57) = true from decide_eq_true d), bd_some]
        by_cases c8 : 3 ≤ c
        · rw [if_pos (show (3 : Int32) ≤ iI (c : Nat) by rw [show (3 : Int32) = iI 3 from rfl, iI_le] <;> omega), bd_some, lt_eq, lt_eq, sm1, sm1]
          obtain ⟨W, w1, w2⟩ := ih f (a + 1) (c + 1) w (by omega) (by omega) (by omega) (by omega)
          refine ⟨W, ?_, fun hh => by omega⟩
          rw [w1]
          generalize skN (fun j => decide ((48 : Int32) ≤ t j ∧ t j ≤ 57)) e k (a + 1) = m at *
          rw [show c + 1 + (m - (a + 1)) = c + (m - a) by omega]
        · rw [if_neg (show ¬ (3 : Int32) ≤ iI (c : Nat) by rw [show (3 : Int32) = iI 3 from rfl, iI_le] <;> omega), lt_eq, bd_some, lt_eq, lt_eq, sm1, sm1, show (10 : Int32) * w + t a - 48 = w * 10 + (t a - 48) by rw [Int32.mul_comm, Int32.sub_eq_add_neg, Int32.add_assoc, ← Int32.sub_eq_add_neg]]
          obtain ⟨W, w1, w2⟩ := ih f (a + 1) (c + 1) (w * 10 + (t a - 48)) (by omega) (by omega) (by omega) (by omega)
          refine ⟨W, ?_, fun hh => ?_⟩
          · rw [w1]
            generalize skN (fun j => decide ((48 : Int32) ≤ t j ∧ t j ≤ 57)) e k (a + 1) = m at *
            rw [show c + 1 + (m - (a + 1)) = c + (m - a) by omega]
          · rw [w2 (by omega)]
            generalize skN (fun j => decide ((48 : Int32) ≤ t j ∧ t j ≤ 57)) e k (a + 1) = m at *
            rw [show m - a = (m - (a + 1)) + 1 by omega]
            rfl
      · rw [if_neg (show ¬ ((48 : Int32) ≤ t a &&& 255 ∧ t a &&& 255 ≤ 57) from fun hh => d (b1.mp hh)), bd_some, if_pos rfl, if_neg (show ¬ decide ((48 : Int32) ≤ t a ∧ t a ≤ 57) = true from fun hh => d (of_decide_eq_true hh)), Nat.sub_self]
        exact ⟨_, rfl, fun _ => rfl⟩
