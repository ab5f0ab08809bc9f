/-! both find the same best match: more pairs, then fewer slops, then fewer bits -/
def leK (SL : Nat → Nat) (a b : Nat) : Prop := pc10 b < pc10 a ∨ (pc10 a = pc10 b ∧ (sumN a SL 10 < sumN b SL 10 ∨ (sumN a SL 10 = sumN b SL 10 ∧ a ≤ b)))
theorem leK_rfl (SL : Nat → Nat) (a : Nat) : leK SL a a := Or.inr ⟨rfl, Or.inr ⟨rfl, Nat.le_refl _⟩⟩
theorem leK_anti {SL : Nat → Nat} {a b : Nat} (h1 : leK SL a b) (h2 : leK SL b a) : a = b := by
  unfold leK at h1 h2
  omega
theorem leK_trans {SL : Nat → Nat} {a b c : Nat} (h1 : leK SL a b) (h2 : leK SL b c) : leK SL a c := by
  unfold leK at *
  omega
/-- the reference's fold -/
theorem Fm_best {SL : Nat → Nat} : ∀ (l : List Nat), (Fm SL l).2 = sumN (Fm SL l).1 SL 10 ∧ ((Fm SL l).1 = 0 ∨ (Fm SL l).1 ∈ l) ∧ leK SL (Fm SL l).1 0 ∧ ∀ b ∈ l, leK SL (Fm SL l).1 b := by
  have s0 : ∀ n, sumN 0 SL n = 0 := by
    intro n
    induction n with
    | zero => rfl
    | succ n ih => rw [sumN, ih]; simp
  intro l
  suffices h : ∀ (l : List Nat) (st : Nat × Nat), st.2 = sumN st.1 SL 10 → (l.foldl (fun st b => trM st b (sumN b SL 10)) st).2 = sumN (l.foldl (fun st b => trM st b (sumN b SL 10)) st).1 SL 10 ∧ ((l.foldl (fun st b => trM st b (sumN b SL 10)) st).1 = st.1 ∨ (l.foldl (fun st b => trM st b (sumN b SL 10)) st).1 ∈ l) ∧ leK SL (l.foldl (fun st b => trM st b (sumN b SL 10)) st).1 st.1 ∧ ∀ b ∈ l, leK SL (l.foldl (fun st b => trM st b (sumN b SL 10)) st).1 b from h l (0, 0) (s0 10).symm
  intro l
  induction l with
  | nil => intro st h; exact ⟨h, Or.inl rfl, leK_rfl _ _, fun b hb => by cases hb⟩
  | cons a l ih =>
    intro st h
    have h2 : (trM st a (sumN a SL 10)).2 = sumN (trM st a (sumN a SL 10)).1 SL 10 := by
      unfold trM; split
      · exact h
      · rfl
    have h3 : leK SL (trM st a (sumN a SL 10)).1 st.1 ∧ leK SL (trM st a (sumN a SL 10)).1 a ∧ ((trM st a (sumN a SL 10)).1 = st.1 ∨ (trM st a (sumN a SL 10)).1 = a) := by
      unfold trM; split
      · rename_i c
        refine ⟨leK_rfl _ _, ?_, Or.inl rfl⟩
        rw [h] at c
        unfold leK
        omega
      · rename_i c
        refine ⟨?_, leK_rfl _ _, Or.inr rfl⟩
        rw [h] at c
        unfold leK
        simp only
        omega
    obtain ⟨i1, i2, i3, i4⟩ := ih (trM st a (sumN a SL 10)) h2
    refine ⟨i1, ?_, leK_trans i3 h3.1, fun b hb => ?_⟩
    · rcases i2 with i2 | i2
      · rcases h3.2.2 with h4 | h4
        · exact Or.inl (i2.trans h4)
        · exact Or.inr (by rw [List.foldl_cons, i2, h4]; simp)
      · exact Or.inr (List.mem_cons_of_mem _ i2)
    · rcases List.mem_cons.mp hb with hb | hb
      · subst hb; exact leK_trans i3 h3.2.1
      · exact i4 b hb
