/-! tokens -/
/-- the first place from a on, up to e, where P fails -/
def skN (P : Nat → Bool) (e : Nat) : Nat → Nat → Nat
  | 0, a => a
  | k + 1, a => if e ≤ a then a else if P a then skN P e k (a + 1) else a
theorem q_skipL {t : Nat → Int32} {l2 l3 : Int32} {e : Nat} (he : e ≤ 800) : ∀ k f a, e ≤ a + k → k < f → a ≤ 800 → f_Reader_skip_L3 l2 l3 t (iI (e : Nat)) f (iI (a : Nat)) = some (iI ((skN (fun j => decide (l2 ≤ t j ∧ t j ≤ l3)) e k a : Nat) : Int)) := by
  intro k
  induction k with
  | zero =>
    intro f a h1 h2 h3
    obtain ⟨f, rfl⟩ : ∃ g, f = g + 1 := ⟨f - 1, by omega⟩
    simp only [f_Reader_skip_L3]
    rw [if_pos (show iI (e : Nat) ≤ iI (a : Nat) by rw [iI_le] <;> omega), bd_some, if_pos rfl]
    rfl
  | succ k ih =>
    intro f a h1 h2 h3
    obtain ⟨f, rfl⟩ : ∃ g, f = g + 1 := ⟨f - 1, by omega⟩
    simp only [f_Reader_skip_L3, skN]
    by_cases c : e ≤ a
    · rw [if_pos (show iI (e : Nat) ≤ iI (a : Nat) by rw [iI_le] <;> omega), bd_some, if_pos rfl, if_pos c]
    · rw [if_neg (show ¬ iI (e : Nat) ≤ iI (a : Nat) by rw [iI_le] <;> omega), iI_ck (show a < 800 by omega) (by omega), iI_ck (show a < 800 by omega) (by omega), iI_cl (by omega), if_neg c]
      by_cases c1 : t a < l2
      · rw [if_pos c1, bd_some, if_pos rfl, if_neg (by rw [decide_eq_true_iff]; exact fun hh => absurd c1 (Int32.not_lt.mpr hh.1))]
      · by_cases c2 : l3 < t a
        · rw [if_neg c1, if_pos c2, bd_some, if_pos rfl, if_neg (by rw [decide_eq_true_iff]; exact fun hh => absurd c2 (Int32.not_lt.mpr hh.2))]
        · rw [if_neg c1, if_neg c2, bd_some, if_neg Bool.false_ne_true, lt_eq, sm1, if_pos (by rw [decide_eq_true_iff]; exact ⟨Int32.not_lt.mp c1, Int32.not_lt.mp c2⟩)]
          exact ih f (a + 1) (by omega) (by omega) (by omega)
theorem q_skip {t : Nat → Int32} {l2 l3 : Int32} {e a : Nat} (he : e ≤ 800) (ha : a ≤ 800) : f_Reader_skip (iI (a : Nat)) l2 l3 t (iI (e : Nat)) = some (iI ((skN (fun j => decide (l2 ≤ t j ∧ t j ≤ l3)) e (e - a) a : Nat) : Int)) := by
  unfold f_Reader_skip
  rw [q_skipL he (e - a) fu a (by omega) (by have := fu_big; omega) ha, bd_some]
theorem skN_le {P : Nat → Bool} {e : Nat} : ∀ k a, a ≤ skN P e k a ∧ skN P e k a ≤ max a e := by
  intro k
  induction k with
  | zero => intro a; unfold skN; omega
  | succ k ih =>
    intro a
    unfold skN
    by_cases c : e ≤ a
    · rw [if_pos c]; omega
    · rw [if_neg c]
      by_cases d : P a = true
      · rw [if_pos d]; have := ih (a + 1); omega
      · rw [if_neg d]; omega
