/-! the reference's best match -/
def lmI (can : Nat → Bool) (dj : Nat → Nat → Bool) (k : Nat) : Nat → List Nat
  | 0 => []
  | j + 1 => lmI can dj k j ++ (if k < j && (can j && dj k j) then [2 ^ k ||| 2 ^ j] else [])
def lm (can : Nat → Bool) (dj : Nat → Nat → Bool) (n : Nat) : Nat → List Nat
  | 0 => []
  | k + 1 => lm can dj n k ++ (if can k then 2 ^ k :: lmI can dj k n else [])
theorem lmI_0 (can : Nat → Bool) (dj : Nat → Nat → Bool) (k : Nat) : ∀ j, j ≤ k + 1 → lmI can dj k j = [] := by
  intro j
  induction j with
  | zero => intro _; rfl
  | succ j ih =>
    intro h
    rw [lmI, ih (by omega), show (decide (k < j)) = false by simp; omega]
    rfl
def Fm (SL : Nat → Nat) (l : List Nat) : Nat × Nat := l.foldl (fun st b => trM st b (sumN b SL 10)) (0, 0)
theorem Fm_ok {SL : Nat → Nat} : ∀ l : List Nat, (∀ b ∈ l, b < 1024 ∧ sumN b SL 10 < 100000) → (Fm SL l).1 < 1024 ∧ (Fm SL l).2 < 100000 := by
  intro l
  suffices h : ∀ st : Nat × Nat, st.1 < 1024 → st.2 < 100000 → (∀ b ∈ l, b < 1024 ∧ sumN b SL 10 < 100000) → (l.foldl (fun st b => trM st b (sumN b SL 10)) st).1 < 1024 ∧ (l.foldl (fun st b => trM st b (sumN b SL 10)) st).2 < 100000 from h (0, 0) (by decide) (by decide)
  induction l with
  | nil => intro st h1 h2 _; exact ⟨h1, h2⟩
  | cons a l ih =>
    intro st h1 h2 hb
    have ha := hb a (by simp)
    refine ih (trM st a (sumN a SL 10)) ?_ ?_ (fun b h => hb b (by simp [h]))
    · unfold trM; split
      · exact h1
      · exact ha.1
    · unfold trM; split
      · exact h2
      · exact ha.2
theorem Fm_add (SL : Nat → Nat) (l : List Nat) (b : Nat) : Fm SL (l ++ [b]) = trM (Fm SL l) b (sumN b SL 10) := by
  unfold Fm; rw [List.foldl_append]; rfl
theorem sumN_two {SL : Nat → Nat} {k : Nat} : ∀ n, sumN (2 ^ k) SL n = if k < n then SL k else 0 := by
  intro n
  induction n with
  | zero => simp [sumN]
  | succ n ih =>
    rw [sumN, ih, Nat.testBit_two_pow]
    by_cases c : k = n
    · subst c; simp
    · by_cases c2 : k < n
      · simp [c, c2, show k < n + 1 by omega]
      · simp [c, c2, show ¬ k < n + 1 by omega]
theorem sumN_or {SL : Nat → Nat} {k j : Nat} (h : k ≠ j) : ∀ n, sumN (2 ^ k ||| 2 ^ j) SL n = sumN (2 ^ k) SL n + sumN (2 ^ j) SL n := by
  intro n
  induction n with
  | zero => simp [sumN]
  | succ n ih =>
    rw [sumN, sumN, sumN, ih, Nat.testBit_or, Nat.testBit_two_pow, Nat.testBit_two_pow]
    by_cases c1 : k = n <;> by_cases c2 : j = n
    · omega
    · simp [c1, c2]; omega
    · simp [c1, c2]; omega
    · simp [c1, c2]
theorem or_lt {k j : Nat} (hk : k < 10) (hj : j < 10) : 2 ^ k ||| 2 ^ j < 1024 := Nat.lt_of_lt_of_le (Nat.or_lt_two_pow (Nat.pow_lt_pow_right (by omega) hk) (Nat.pow_lt_pow_right (by omega) hj)) (by decide)
theorem p_lt {k : Nat} (hk : k < 10) : 2 ^ k < 1024 := Nat.lt_of_lt_of_le (Nat.pow_lt_pow_right (a := 2) (by omega) hk) (by decide)
theorem lmI_ok {can : Nat → Bool} {dj : Nat → Nat → Bool} {SL : Nat → Nat} {k n : Nat} (hn : n ≤ 10) (hk : k < n) (hs : ∀ i, i < n → SL i < 1000) : ∀ j, j ≤ n → (∀ b ∈ lmI can dj k j, b < 1024 ∧ sumN b SL 10 < 100000) ∧ (lmI can dj k j).length ≤ j := by
  intro j
  induction j with
  | zero => intro _; simp [lmI]
  | succ j ih =>
    intro hj
    obtain ⟨i1, i2⟩ := ih (by omega)
    rw [lmI]
    split
    · rename_i c
      rw [Bool.and_eq_true] at c
      have c1 : k < j := by simpa using c.1
      refine ⟨fun b hb => ?_, by simp; omega⟩
      rw [List.mem_append] at hb
      rcases hb with hb | hb
      · exact i1 b hb
      · simp at hb
        subst hb
        refine ⟨or_lt (by omega) (by omega), ?_⟩
        have e1 := hs k hk
        have e2 := hs j (by omega)
        rw [sumN_or (by omega), sumN_two, sumN_two, if_pos (by omega), if_pos (by omega)]
        omega
    · exact ⟨fun b hb => i1 b (by simpa using hb), by simp; omega⟩
theorem lm_ok {can : Nat → Bool} {dj : Nat → Nat → Bool} {SL : Nat → Nat} {n : Nat} (hn : n ≤ 10) (hs : ∀ i, i < n → SL i < 1000) : ∀ k, k ≤ n → (∀ b ∈ lm can dj n k, b < 1024 ∧ sumN b SL 10 < 100000) ∧ (lm can dj n k).length ≤ k * 11 := by
  intro k
  induction k with
  | zero => intro _; simp [lm]
  | succ k ih =>
    intro hk
    obtain ⟨i1, i2⟩ := ih (by omega)
    obtain ⟨j1, j2⟩ := lmI_ok (can := can) (dj := dj) hn (show k < n by omega) hs n (by omega)
    rw [lm]
    split
    · refine ⟨fun b hb => ?_, by simp; omega⟩
      rw [List.mem_append, List.mem_cons] at hb
      rcases hb with hb | hb | hb
      · exact i1 b hb
      · subst hb
        refine ⟨p_lt (by omega), ?_⟩
        have e1 := hs k (by omega)
        rw [sumN_two, if_pos (by omega)]
        omega
      · exact j1 b hb
    · exact ⟨fun b hb => i1 b (by simpa using hb), by simp; omega⟩
theorem r_mL17 {x sp : Nat → Int32} {S O T K Y Z : Nat → Nat} {p n fb ns sl : Nat} (hx : xv x S O T K Y Z p n fb) (ho : xok S O T K Y Z p n fb ns) (hs : sl < 10) : ∃ sp', f_M_matching_L17 x (iI (ns : Nat)) (iI (sl : Nat)) fu (0 : Int32) sp = some sp' ∧ ∀ k, k < n → sp' k = if canP S O T K (H0 K Y Z) sl k then iI (slopP S O T fb k : Nat) else iI (-1) := by
  have n10 := ho.2.1
  have key := lp (L := fun f j (st : Nat → Int32) => f_M_matching_L17 x (iI (ns : Nat)) (iI (sl : Nat)) f (iI (j : Int)) st) (n := n) (I := fun j st => ∀ k, k < j → st k = if canP S O T K (H0 K Y Z) sl k then iI (slopP S O T fb k : Nat) else iI (-1)) (Post := fun r => ∀ k, k < n → r k = if canP S O T K (H0 K Y Z) sl k then iI (slopP S O T fb k : Nat) else iI (-1)) (fun f j st hj hst => ?_) (fun f st hst => ?_) fu 0 sp (by omega) (by have := fu_big; omega) (fun k hk => by omega)
  · obtain ⟨r, hr, he⟩ := key
    exact ⟨r, he, hr⟩
  · refine Or.inl ⟨upd st j (if canP S O T K (H0 K Y Z) sl j then iI (slopP S O T fb j : Nat) else iI (-1)), fun k hk => ?_, ?_⟩
    · by_cases c : k = j
      · subst c; exact upd_s _ _ _
      · rw [upd_n c]; exact hst k (by omega)
    · simp only [f_M_matching_L17, lt]
      simp (disch := omega) only [ck55, cl55, hx.2.2.1, iI_le]
      rw [if_neg (by omega), r_isFeeding hx ho hj hs, r_slopsOf hx ho hj]
      simp only [bd, b01_eq0]
      simp (disch := omega) only [iI_ck, iI_cl, i_1, iI_add]
      cases canP S O T K (H0 K Y Z) sl j
      · simp; rfl
      · simp
  · refine ⟨st, hst, ?_⟩
    simp only [f_M_matching_L17]
    simp (disch := omega) only [ck55, cl55, hx.2.2.1, iI_le]
    rw [if_pos (by omega)]
