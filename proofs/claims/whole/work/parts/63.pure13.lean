/-! both lists of matches hold the same; at most 26 -/
theorem or_add {k h : Nat} (hk : k < h) : 2 ^ h ||| 2 ^ k = 2 ^ h + 2 ^ k := by
  have := Nat.two_pow_add_eq_or_of_lt (i := h) (b := 2 ^ k) (Nat.pow_lt_pow_right (by omega) hk) 1
  simpa using this.symm
theorem mlB_up {can : Nat → Bool} {dj : Nat → Nat → Bool} {h : Nat} : ∀ l, l ≤ h → (mlB can dj h l).Pairwise (· < ·) := by
  intro l
  induction l with
  | zero => intro _; exact List.Pairwise.nil
  | succ l ih =>
    intro hl
    rw [mlB, List.pairwise_append]
    refine ⟨ih (by omega), ?_, ?_⟩
    · split <;> simp
    · intro a ha b hb
      obtain ⟨k, hk, -, -, e⟩ := (mlB_mem l a).mp ha
      split at hb
      · simp at hb
        subst hb e
        have e1 := or_add (show k < h by omega)
        have e2 := or_add (show l < h by omega)
        rw [e1, e2]
        have := Nat.pow_lt_pow_right (a := 2) (by omega) hk
        omega
      · cases hb
theorem ml_up {can : Nat → Bool} {dj : Nat → Nat → Bool} : ∀ n, (ml can dj n).Pairwise (· < ·) := by
  intro n
  induction n with
  | zero => simp [ml]
  | succ n ih =>
    rw [ml, List.pairwise_append]
    refine ⟨ih, ?_, ?_⟩
    · split
      · rw [List.pairwise_cons]
        refine ⟨fun b hb => ?_, mlB_up n (Nat.le_refl _)⟩
        obtain ⟨k, hk, -, -, e⟩ := (mlB_mem n b).mp hb
        subst e
        rw [or_add hk]
        have := Nat.two_pow_pos k
        omega
      · exact List.Pairwise.nil
    · intro a ha b hb
      have h1 := ml_lt ha
      split at hb
      · rcases List.mem_cons.mp hb with hb | hb
        · omega
        · obtain ⟨k, hk, -, -, e⟩ := (mlB_mem n b).mp hb
          subst e
          rw [or_add hk]
          have := Nat.two_pow_pos k
          omega
      · cases hb
theorem lmI_mem {can : Nat → Bool} {dj : Nat → Nat → Bool} {k : Nat} : ∀ l b, b ∈ lmI can dj k l ↔ ∃ j, k < j ∧ j < l ∧ can j = true ∧ dj k j = true ∧ b = 2 ^ k ||| 2 ^ j := by
  intro l
  induction l with
  | zero => intro b; simp [lmI]
  | succ l ih =>
    intro b
    rw [lmI, List.mem_append, ih b]
    constructor
    · rintro (⟨j, h0, h1, h2⟩ | h1)
      · exact ⟨j, h0, by omega, h2⟩
      · split at h1
        · rename_i c
          simp at h1 c
          exact ⟨l, c.1, by omega, c.2.1, c.2.2, h1⟩
        · cases h1
    · rintro ⟨j, h0, h1, h2, h3, h4⟩
      by_cases c : j = l
      · subst c
        right
        rw [if_pos (by rw [h2, h3]; simp; exact h0)]
        simp [h4]
      · exact Or.inl ⟨j, h0, by omega, h2, h3, h4⟩
theorem lm_mem {can : Nat → Bool} {dj : Nat → Nat → Bool} {n : Nat} : ∀ m b, b ∈ lm can dj n m ↔ (∃ h, h < m ∧ can h = true ∧ b = 2 ^ h) ∨ ∃ k h, k < m ∧ k < h ∧ h < n ∧ can h = true ∧ can k = true ∧ dj k h = true ∧ b = 2 ^ k ||| 2 ^ h := by
  intro m
  induction m with
  | zero => intro b; simp [lm]
  | succ m ih =>
    intro b
    rw [lm, List.mem_append, ih b]
    constructor
    · rintro ((⟨h, h1, h2⟩ | ⟨k, h, h1, h2⟩) | h1)
      · exact Or.inl ⟨h, by omega, h2⟩
      · exact Or.inr ⟨k, h, by omega, h2⟩
      · split at h1
        · rename_i c
          rw [List.mem_cons, lmI_mem] at h1
          rcases h1 with h1 | ⟨j, h2, h3, h4, h5, h6⟩
          · exact Or.inl ⟨m, by omega, c, h1⟩
          · exact Or.inr ⟨m, j, by omega, h2, h3, h4, c, h5, h6⟩
        · cases h1
    · rintro (⟨h, h1, h2, h3⟩ | ⟨k, h, h1, h2, h3, h4, h5, h6, h7⟩)
      · by_cases c : h = m
        · subst c; right; rw [if_pos h2]; simp [h3]
        · exact Or.inl (Or.inl ⟨h, by omega, h2, h3⟩)
      · by_cases c : k = m
        · subst c; right; rw [if_pos h5, List.mem_cons, lmI_mem]; exact Or.inr ⟨h, h2, h3, h4, h6, h7⟩
        · exact Or.inl (Or.inr ⟨k, h, by omega, h2, h3, h4, h5, h6, h7⟩)
theorem lm_ml {can can' : Nat → Bool} {dj : Nat → Nat → Bool} {n : Nat} (hc : ∀ k, k < n → can' k = can k) (b : Nat) : b ∈ ml can' dj n ↔ b ∈ (0 :: lm can dj n n) := by
  rw [ml_mem, List.mem_cons, lm_mem]
  constructor
  · rintro (h | ⟨h, h1, h2, h3⟩ | ⟨h, k, h1, h2, h3, h4, h5, h6⟩)
    · exact Or.inl h
    · exact Or.inr (Or.inl ⟨h, h1, by rw [← hc h h1]; exact h2, h3⟩)
    · exact Or.inr (Or.inr ⟨k, h, by omega, h1, h2, by rw [← hc h h2]; exact h3, by rw [← hc k (by omega)]; exact h4, h5, by rw [h6, Nat.or_comm]⟩)
  · rintro (h | ⟨h, h1, h2, h3⟩ | ⟨k, h, h0, h1, h2, h3, h4, h5, h6⟩)
    · exact Or.inl h
    · exact Or.inr (Or.inl ⟨h, h1, by rw [hc h h1]; exact h2, h3⟩)
    · exact Or.inr (Or.inr ⟨h, k, h1, h2, by rw [hc h h2]; exact h3, by rw [hc k (by omega)]; exact h4, h5, by rw [h6, Nat.or_comm]⟩)
/-- the class's fold over a list that goes up -/
theorem bst_best {SL : Nat → Nat} : ∀ (l : List Nat), l.Pairwise (· < ·) → (bst SL l).1 = pc10 (bst SL l).2.1 ∧ (bst SL l).2.2 = sumN (bst SL l).2.1 SL 10 ∧ ((bst SL l).2.1 = 0 ∨ (bst SL l).2.1 ∈ l) ∧ leK SL (bst SL l).2.1 0 ∧ ∀ b ∈ l, leK SL (bst SL l).2.1 b := by
  have s0 : ∀ n, sumN 0 SL n = 0 := by
    intro n
    induction n with
    | zero => rfl
    | succ n ih => rw [sumN, ih]; simp
  intro l hl
  suffices h : ∀ (l : List Nat) (st : Nat × Nat × Nat), l.Pairwise (· < ·) → (∀ b ∈ l, st.2.1 ≤ b) → st.1 = pc10 st.2.1 → st.2.2 = sumN st.2.1 SL 10 → (l.foldl (stp SL) st).1 = pc10 (l.foldl (stp SL) st).2.1 ∧ (l.foldl (stp SL) st).2.2 = sumN (l.foldl (stp SL) st).2.1 SL 10 ∧ ((l.foldl (stp SL) st).2.1 = st.2.1 ∨ (l.foldl (stp SL) st).2.1 ∈ l) ∧ leK SL (l.foldl (stp SL) st).2.1 st.2.1 ∧ ∀ b ∈ l, leK SL (l.foldl (stp SL) st).2.1 b from h l (0, 0, 0) hl (fun b _ => Nat.zero_le _) (by decide) (s0 10).symm
  intro l
  induction l with
  | nil => intro st _ _ h1 h2; exact ⟨h1, h2, Or.inl rfl, leK_rfl _ _, fun b hb => by cases hb⟩
  | cons a l ih =>
    intro st hp hb h1 h2
    rw [List.pairwise_cons] at hp
    have ha := hb a (by simp)
    have h3 : (stp SL st a).1 = pc10 (stp SL st a).2.1 ∧ (stp SL st a).2.2 = sumN (stp SL st a).2.1 SL 10 := by
      unfold stp; split
      · exact ⟨h1, h2⟩
      · split
        · exact ⟨rfl, rfl⟩
        · exact ⟨h1, h2⟩
    have h4 : leK SL (stp SL st a).2.1 st.2.1 ∧ leK SL (stp SL st a).2.1 a ∧ ((stp SL st a).2.1 = st.2.1 ∨ (stp SL st a).2.1 = a) := by
      unfold stp; split
      · rename_i c
        refine ⟨leK_rfl _ _, ?_, Or.inl rfl⟩
        rw [h1] at c
        exact Or.inl c
      · rename_i c
        rw [h1] at c
        split
        · rename_i d
          rw [h1, h2] at d
          refine ⟨?_, leK_rfl _ _, Or.inr rfl⟩
          unfold leK
          simp only
          omega
        · rename_i d
          rw [h1, h2] at d
          refine ⟨leK_rfl _ _, ?_, Or.inl rfl⟩
          unfold leK
          omega
    have h5 : ∀ b ∈ l, (stp SL st a).2.1 ≤ b := by
      intro b hbl
      have := hp.1 b hbl
      rcases h4.2.2 with q | q <;> rw [q] <;> omega
    obtain ⟨i1, i2, i3, i4, i5⟩ := ih (stp SL st a) hp.2 h5 h3.1 h3.2
    refine ⟨i1, i2, ?_, leK_trans i4 h4.1, fun b hb => ?_⟩
    · rcases i3 with i3 | i3
      · rcases h4.2.2 with q | q
        · exact Or.inl (i3.trans q)
        · exact Or.inr (by rw [List.foldl_cons, i3, q]; simp)
      · exact Or.inr (List.mem_cons_of_mem _ i3)
    · rcases List.mem_cons.mp hb with hb | hb
      · subst hb; exact leK_trans i4 h4.2.1
      · exact i5 b hb
theorem bst_Fm {SL : Nat → Nat} {l l' : List Nat} (hl : l.Pairwise (· < ·)) (hm : ∀ b, b ∈ l ↔ b ∈ (0 :: l')) : (bst SL l).2 = Fm SL l' := by
  obtain ⟨-, a2, a3, a4, a5⟩ := bst_best (SL := SL) l hl
  obtain ⟨b1, b2, b3, b4⟩ := Fm_best (SL := SL) l'
  have e : (bst SL l).2.1 = (Fm SL l').1 := by
    apply leK_anti (SL := SL)
    · rcases b2 with q | q
      · rw [q]; exact a4
      · exact a5 _ ((hm _).mpr (List.mem_cons_of_mem _ q))
    · rcases a3 with q | q
      · rw [q]; exact b3
      · rcases List.mem_cons.mp ((hm _).mp q) with q | q
        · rw [q]; exact b3
        · exact b4 _ q
  exact Prod.ext e (by rw [a2, b1, e])
/-- at most as many, if each has one of its own -/
theorem len_rel {α β : Type} [BEq β] [LawfulBEq β] {P : α → β → Prop} : ∀ (l : List α) (m : List β), l.Nodup → (∀ a ∈ l, ∃ c ∈ m, P a c) → (∀ a a' c, P a c → P a' c → a = a') → l.length ≤ m.length := by
  intro l
  induction l with
  | nil => intro m _ _ _; exact Nat.zero_le _
  | cons a l ih =>
    intro m hn hp hi
    obtain ⟨c, hc, hac⟩ := hp a (by simp)
    rw [List.nodup_cons] at hn
    have := ih (m.erase c) hn.2 (fun a' ha' => by
      obtain ⟨c', hc', hp'⟩ := hp a' (List.mem_cons_of_mem _ ha')
      refine ⟨c', ?_, hp'⟩
      rw [List.mem_erase_of_ne]
      · exact hc'
      · intro e
        subst e
        have := hi _ _ _ hac hp'
        subst this
        exact hn.1 ha') hi
    rw [List.length_erase_of_mem hc] at this
    have : 0 < m.length := List.length_pos_of_mem hc
    simp only [List.length_cons]
    omega
