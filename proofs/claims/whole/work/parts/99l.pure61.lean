/-! tokens of the class: words and wholes -/
def pkC (t : Nat → Int32) : Nat → Nat → Int64 → Int64
  | 0, _, w => w
  | k + 1, a, w => pkC t k (a + 1) ((w <<< ((8 : Int32).toInt64 &&& 63)) ||| (t a).toInt64)
def pkN (t : Nat → Int32) : Nat → Nat → Int32 → Int32
  | 0, _, w => w
  | k + 1, a, w => pkN t k (a + 1) (w * 10 + (t a - 48))
theorem q_takeWordL {t : Nat → Int32} {nx : Nat} (hx : nx ≤ 800) : ∀ k f a w, a + k = nx → k < f → f_Reader_takeWord_L28 t (iI (nx : Nat)) (1 : Int32) f (iI (a : Nat)) w = some (pkC t k a w) := by
  intro k
  induction k with
  | zero =>
    intro f a w h1 h2
    obtain ⟨f, rfl⟩ : ∃ g, f = g + 1 := ⟨f - 1, by omega⟩
    simp only [f_Reader_takeWord_L28]
    rw [if_pos (show iI (nx : Nat) ≤ iI (a : Nat) by rw [iI_le] <;> omega), bd_some, if_pos rfl]
    rfl
  | succ k ih =>
    intro f a w h1 h2
    obtain ⟨f, rfl⟩ : ∃ g, f = g + 1 := ⟨f - 1, by omega⟩
    simp only [f_Reader_takeWord_L28, pkC]
    rw [if_neg (show ¬ iI (nx : Nat) ≤ iI (a : Nat) by rw [iI_le] <;> omega), if_pos True.intro, bd_some, if_neg Bool.false_ne_true, iI_ck (show a < 800 by omega) (by omega), lt_eq, lt_eq, sm1, iI_cl (by omega)]
    exact ih f (a + 1) _ (by omega) (by omega)
theorem q_takeWord {t : Nat → Int32} {nx s : Nat} {w : Int64} (hx : nx ≤ 800) (hs : s ≤ nx) : f_Reader_takeWord t (iI (nx : Nat)) (iI (s : Nat)) w = some (if nx - s ≤ 8 then (1, pkC t (nx - s) s w) else (4, w)) := by
  unfold f_Reader_takeWord
  rw [iI_sub]
  by_cases c : nx - s ≤ 8
  · rw [if_neg (show ¬ (8 : Int32) < iI ((nx : Int) - (s : Int)) by rw [show (8 : Int32) = iI 8 from rfl, iI_lt] <;> omega), bd_some, q_takeWordL hx (nx - s) fu s w (by omega) (by have := fu_big; omega), bd_some, if_pos c]
  · obtain ⟨f, hf⟩ : ∃ g, fu = g + 1 := ⟨fu - 1, by have := fu_big; omega⟩
    have e : f_Reader_takeWord_L28 t (iI (nx : Nat)) (4 : Int32) fu (iI (s : Nat)) w = some w := by
      rw [hf]
      simp only [f_Reader_takeWord_L28]
      rw [if_neg (show ¬ iI (nx : Nat) ≤ iI (s : Nat) by rw [iI_le] <;> omega), if_neg (show ¬ (4 : Int32) = 1 by decide), bd_some, if_pos rfl]
    rw [if_pos (show (8 : Int32) < iI ((nx : Int) - (s : Int)) by rw [show (8 : Int32) = iI 8 from rfl, iI_lt] <;> omega), bd_some, e, bd_some, if_neg c]
theorem q_takeWholeL {t : Nat → Int32} {nx : Nat} (hx : nx ≤ 800) : ∀ k f a w, a + k = nx → k < f → f_Reader_takeWhole_L27 t (iI (nx : Nat)) (2 : Int32) f (iI (a : Nat)) w = some (pkN t k a w) := by
  intro k
  induction k with
  | zero =>
    intro f a w h1 h2
    obtain ⟨f, rfl⟩ : ∃ g, f = g + 1 := ⟨f - 1, by omega⟩
    simp only [f_Reader_takeWhole_L27]
    rw [if_pos (show iI (nx : Nat) ≤ iI (a : Nat) by rw [iI_le] <;> omega), bd_some, if_pos rfl]
    rfl
  | succ k ih =>
    intro f a w h1 h2
    obtain ⟨f, rfl⟩ : ∃ g, f = g + 1 := ⟨f - 1, by omega⟩
    simp only [f_Reader_takeWhole_L27, pkN]
    rw [if_neg (show ¬ iI (nx : Nat) ≤ iI (a : Nat) by rw [iI_le] <;> omega), if_pos True.intro, bd_some, if_neg Bool.false_ne_true, iI_ck (show a < 800 by omega) (by omega), lt_eq, lt_eq, sm1, iI_cl (by omega)]
    exact ih f (a + 1) _ (by omega) (by omega)
theorem q_takeWhole {t : Nat → Int32} {nx s : Nat} {w : Int32} (hx : nx ≤ 800) (hs : s ≤ nx) : f_Reader_takeWhole t (iI (nx : Nat)) (iI (s : Nat)) w = some (if nx - s ≤ 3 then (2, pkN t (nx - s) s w) else (4, w)) := by
  unfold f_Reader_takeWhole
  rw [iI_sub]
  by_cases c : nx - s ≤ 3
  · rw [if_neg (show ¬ (3 : Int32) < iI ((nx : Int) - (s : Int)) by rw [show (3 : Int32) = iI 3 from rfl, iI_lt] <;> omega), bd_some, q_takeWholeL hx (nx - s) fu s w (by omega) (by have := fu_big; omega), bd_some, if_pos c]
  · obtain ⟨f, hf⟩ : ∃ g, fu = g + 1 := ⟨fu - 1, by have := fu_big; omega⟩
    have e : f_Reader_takeWhole_L27 t (iI (nx : Nat)) (4 : Int32) fu (iI (s : Nat)) w = some w := by
      rw [hf]
      simp only [f_Reader_takeWhole_L27]
      rw [if_neg (show ¬ iI (nx : Nat) ≤ iI (s : Nat) by rw [iI_le] <;> omega), if_neg (show ¬ (4 : Int32) = 2 by decide), bd_some, if_pos rfl]
    rw [if_pos (show (3 : Int32) < iI ((nx : Int) - (s : Int)) by rw [show (3 : Int32) = iI 3 from rfl, iI_lt] <;> omega), bd_some, e, bd_some, if_neg c]
