/-! seats for all: what sets of people are worth -/
def mq (f g : Nat → Nat) (s : Nat) : Nat → Nat
  | 0 => f s
  | q + 1 => if s.testBit q && decide (0 < g q) then max (mq f g s q) (f (s ^^^ 2 ^ q) + g q) else mq f g s q
def Mw (g : Nat → Nat → Nat) : Nat → Nat → Nat
  | 0, _ => 0
  | d + 1, s => if s.testBit d then mq (Mw g d) (fun q => g q d) s d else Mw g d s
theorem mq_ge0 {f g : Nat → Nat} {s : Nat} : ∀ m, f s ≤ mq f g s m := by
  intro m
  induction m with
  | zero => exact Nat.le_refl _
  | succ m ih => rw [mq]; split <;> omega
theorem mq_ge {f g : Nat → Nat} {s : Nat} : ∀ m q, q < m → s.testBit q = true → 0 < g q → f (s ^^^ 2 ^ q) + g q ≤ mq f g s m := by
  intro m
  induction m with
  | zero => intro q hq; omega
  | succ m ih =>
    intro q hq h1 h2
    rw [mq]
    by_cases c : q = m
    · subst c
      rw [if_pos (by simp [h1, h2])]
      omega
    · have := ih q (by omega) h1 h2
      split <;> omega
theorem mq_cases {f g : Nat → Nat} {s : Nat} : ∀ m, mq f g s m = f s ∨ ∃ q, q < m ∧ s.testBit q = true ∧ 0 < g q ∧ mq f g s m = f (s ^^^ 2 ^ q) + g q := by
  intro m
  induction m with
  | zero => exact Or.inl rfl
  | succ m ih =>
    rw [mq]
    have low : mq f g s m = f s ∨ ∃ q, q < m + 1 ∧ s.testBit q = true ∧ 0 < g q ∧ mq f g s m = f (s ^^^ 2 ^ q) + g q := by
      rcases ih with h | ⟨q, h1, h2⟩
      · exact Or.inl h
      · exact Or.inr ⟨q, by omega, h2⟩
    split
    · rename_i c
      simp only [Bool.and_eq_true, decide_eq_true_eq] at c
      rcases Nat.le_total (mq f g s m) (f (s ^^^ 2 ^ m) + g m) with h | h
      · rw [Nat.max_eq_right h]; exact Or.inr ⟨m, by omega, c.1, c.2, rfl⟩
      · rw [Nat.max_eq_left h]; exact low
    · exact low
theorem mq_mono {f f' g g' : Nat → Nat} {s : Nat} (hf : ∀ x, f x ≤ f' x) : ∀ m, (∀ q, q < m → g q ≤ g' q) → mq f g s m ≤ mq f' g' s m := by
  intro m
  induction m with
  | zero => intro _; exact hf s
  | succ m ih =>
    intro hg
    have h1 := ih (fun q hq => hg q (by omega))
    have h2 := hg m (by omega)
    have h3 := hf (s ^^^ 2 ^ m)
    rw [mq, mq]
    by_cases c : (s.testBit m && decide (0 < g m)) = true
    · simp only [Bool.and_eq_true, decide_eq_true_eq] at c
      rw [if_pos (by simp [c.1, c.2]), if_pos (by simp [c.1]; omega)]
      omega
    · rw [if_neg c]
      split <;> omega
theorem xor_tb {s q i : Nat} : (s ^^^ 2 ^ q).testBit i = (s.testBit i != decide (q = i)) := by
  rw [Nat.testBit_xor, Nat.testBit_two_pow]
theorem mq_low {f f' g g' : Nat → Nat} {s s' d : Nat} (hb : ∀ i, i < d → s.testBit i = s'.testBit i) (hf : ∀ x x', (∀ i, i < d → x.testBit i = x'.testBit i) → f x = f' x') (hg : ∀ q, q < d → g q = g' q) : ∀ m, m ≤ d → mq f g s m = mq f' g' s' m := by
  intro m
  induction m with
  | zero => intro _; exact hf s s' hb
  | succ m ih =>
    intro hm
    rw [mq, mq, ih (by omega), hb m (by omega), hg m (by omega), hf (s ^^^ 2 ^ m) (s' ^^^ 2 ^ m) (fun i hi => by rw [xor_tb, xor_tb, hb i hi])]
theorem Mw_low {g g' : Nat → Nat → Nat} : ∀ d s s', (∀ i, i < d → s.testBit i = s'.testBit i) → (∀ q p, q < p → p < d → g q p = g' q p) → Mw g d s = Mw g' d s' := by
  intro d
  induction d with
  | zero => intro s s' _ _; rfl
  | succ d ih =>
    intro s s' hb hg
    rw [Mw, Mw, hb d (by omega)]
    have h1 : ∀ x x', (∀ i, i < d → x.testBit i = x'.testBit i) → Mw g d x = Mw g' d x' := fun x x' h => ih x x' h (fun q p h1 h2 => hg q p h1 (by omega))
    rw [mq_low (f' := Mw g' d) (g' := fun q => g' q d) (s' := s') (d := d) (fun i hi => hb i (by omega)) h1 (fun q hq => hg q d hq (by omega)) d (Nat.le_refl _), h1 s s' (fun i hi => hb i (by omega))]
theorem Mw_mono {g g' : Nat → Nat → Nat} : ∀ d, (∀ q p, q < p → p < d → g q p ≤ g' q p) → ∀ s, Mw g d s ≤ Mw g' d s := by
  intro d
  induction d with
  | zero => intro _ s; exact Nat.le_refl _
  | succ d ih =>
    intro h s
    have h1 := ih (fun q p a b => h q p a (by omega))
    rw [Mw, Mw]
    split
    · exact mq_mono h1 d (fun q hq => h q d hq (by omega))
    · exact h1 s
theorem Mw_1 {g : Nat → Nat → Nat} : ∀ d s q p, q < p → p < d → s.testBit q = true → s.testBit p = true → g q p ≤ Mw g d s := by
  intro d
  induction d with
  | zero => intro s q p _ h; omega
  | succ d ih =>
    intro s q p h1 h2 h3 h4
    rw [Mw]
    by_cases c : p = d
    · subst c
      rw [if_pos h4]
      by_cases e : 0 < g q p
      · have := mq_ge (f := Mw g p) (g := fun q => g q p) p q h1 h3 e
        omega
      · omega
    · have := ih s q p h1 (by omega) h3 h4
      split
      · exact Nat.le_trans this (mq_ge0 d)
      · exact this
theorem Mw_2 {g : Nat → Nat → Nat} : ∀ d s q p q' p', q < p → p < d → q' < p' → p' < p → q ≠ q' → q ≠ p' → s.testBit q = true → s.testBit p = true → s.testBit q' = true → s.testBit p' = true → g q p + g q' p' ≤ Mw g d s := by
  intro d
  induction d with
  | zero => intro s q p q' p' _ h; omega
  | succ d ih =>
    intro s q p q' p' h1 h2 h3 h4 h5 h6 b1 b2 b3 b4
    rw [Mw]
    by_cases c : p = d
    · subst c
      rw [if_pos b2]
      by_cases e : 0 < g q p
      · have h7 := mq_ge (f := Mw g p) (g := fun q => g q p) p q h1 b1 e
        have h8 := Mw_1 (g := g) p (s ^^^ 2 ^ q) q' p' h3 h4 (by rw [xor_tb, b3]; simp [h5]) (by rw [xor_tb, b4]; simp [h6])
        omega
      · have h8 := Mw_1 (g := g) p s q' p' h3 h4 b3 b4
        have h9 := mq_ge0 (f := Mw g p) (g := fun q => g q p) (s := s) p
        omega
    · have := ih s q p q' p' h1 (by omega) h3 h4 h5 h6 b1 b2 b3 b4
      split
      · exact Nat.le_trans this (mq_ge0 d)
      · exact this
theorem Mw_cases {g : Nat → Nat → Nat} : ∀ d, d ≤ 5 → ∀ s, Mw g d s = 0 ∨ (∃ q p, q < p ∧ p < d ∧ s.testBit q = true ∧ s.testBit p = true ∧ 0 < g q p ∧ Mw g d s = g q p) ∨ ∃ q p q' p', q < p ∧ p < d ∧ q' < p' ∧ p' < p ∧ q ≠ q' ∧ q ≠ p' ∧ s.testBit q = true ∧ s.testBit p = true ∧ s.testBit q' = true ∧ s.testBit p' = true ∧ 0 < g q p ∧ 0 < g q' p' ∧ Mw g d s = g q p + g q' p' := by
  intro d
  induction d with
  | zero => intro _ s; exact Or.inl rfl
  | succ d ih =>
    intro hd s
    have up : ∀ v, Mw g d s = v → (v = 0 ∨ (∃ q p, q < p ∧ p < d + 1 ∧ s.testBit q = true ∧ s.testBit p = true ∧ 0 < g q p ∧ v = g q p) ∨ ∃ q p q' p', q < p ∧ p < d + 1 ∧ q' < p' ∧ p' < p ∧ q ≠ q' ∧ q ≠ p' ∧ s.testBit q = true ∧ s.testBit p = true ∧ s.testBit q' = true ∧ s.testBit p' = true ∧ 0 < g q p ∧ 0 < g q' p' ∧ v = g q p + g q' p') := by
      intro v hv
      subst hv
      rcases ih (by omega) s with h | ⟨q, p, h1, h2, h3⟩ | ⟨q, p, q', p', h1, h2, h3⟩
      · exact Or.inl h
      · exact Or.inr (Or.inl ⟨q, p, h1, by omega, h3⟩)
      · exact Or.inr (Or.inr ⟨q, p, q', p', h1, by omega, h3⟩)
    rw [Mw]
    split
    · rename_i hb
      rcases mq_cases (f := Mw g d) (g := fun q => g q d) (s := s) d with h | ⟨q, h1, h2, h3, h4⟩
      · exact up _ h.symm
      · rw [h4]
        have hx : ∀ i, (s ^^^ 2 ^ q).testBit i = true → i < d → s.testBit i = true ∧ i ≠ q := by
          intro i hi hid
          rw [xor_tb] at hi
          by_cases c : q = i
          · subst c; rw [h2] at hi; simp at hi
          · refine ⟨?_, fun e => c e.symm⟩
            simpa [c] using hi
        rcases ih (by omega) (s ^^^ 2 ^ q) with h | ⟨a, b, g1, g2, g3, g4, g5, g6⟩ | ⟨a, b, a', b', g1, g2, g3, g4, g5, g6, g7, g8, g9, g10, -⟩
        · rw [h]
          exact Or.inr (Or.inl ⟨q, d, h1, by omega, h2, hb, h3, by omega⟩)
        · obtain ⟨u1, u2⟩ := hx a g3 (by omega)
          obtain ⟨w1, w2⟩ := hx b g4 g2
          rw [g6]
          exact Or.inr (Or.inr ⟨q, d, a, b, h1, by omega, g1, g2, fun e => u2 e.symm, fun e => w2 e.symm, h2, hb, u1, w1, h3, g5, by omega⟩)
        · obtain ⟨u1, u2⟩ := hx a g7 (by omega)
          obtain ⟨w1, w2⟩ := hx b g8 g2
          obtain ⟨u3, u4⟩ := hx a' g9 (by omega)
          obtain ⟨w3, w4⟩ := hx b' g10 (by omega)
          omega
    · exact up _ rfl
