/-! at most 26 matches; class and reference find the same best -/
def mxs : List Nat := [3, 5, 6, 9, 10, 12, 17, 18, 20, 24]
def mx26 : List (Nat × Nat) := (0, 0) :: mxs.map (fun a => (a, 0)) ++ ((mxs.flatMap (fun a => mxs.map (fun b => (a, b)))).filter (fun q => q.2 < q.1 && (q.1 &&& q.2 == 0)))
theorem mx26_len : mx26.length = 26 := by decide +kernel
theorem mxs_in : ∀ a : Nat, a < 5 → ∀ b : Nat, b < 5 → a ≠ b → 2 ^ a ||| 2 ^ b ∈ mxs := by decide +kernel
theorem mx1_in : ∀ a ∈ mxs, (a, 0) ∈ mx26 := by decide +kernel
theorem mx2_in : ∀ a ∈ mxs, ∀ b ∈ mxs, a &&& b = 0 → (max a b, min a b) ∈ mx26 := by decide +kernel
theorem mxs_pos : ∀ a ∈ mxs, 0 < a := by decide
theorem ml_len26 {can : Nat → Bool} {B : Nat → Nat} {n : Nat} (hB : ∀ k, k < n → B k ∈ mxs) (hi : ∀ j k, j < n → k < n → B j = B k → j = k) : (ml can (djP B) n).length ≤ 26 := by
  rw [← mx26_len]
  refine len_rel (P := fun b (c : Nat × Nat) => (b = 0 ∧ c = (0, 0)) ∨ (∃ h, h < n ∧ b = 2 ^ h ∧ c = (B h, 0)) ∨ ∃ h k, k < h ∧ h < n ∧ b = 2 ^ h ||| 2 ^ k ∧ c = (max (B h) (B k), min (B h) (B k))) _ _ ?_ ?_ ?_
  · exact (ml_up n).imp (fun h => Nat.ne_of_lt h)
  · intro b hb
    rcases (ml_mem n b).mp hb with h | ⟨h, h1, -, h2⟩ | ⟨h, k, h1, h2, -, -, h3, h4⟩
    · exact ⟨(0, 0), by decide +kernel, Or.inl ⟨h, rfl⟩⟩
    · exact ⟨_, mx1_in _ (hB h h1), Or.inr (Or.inl ⟨h, h1, h2, rfl⟩)⟩
    · refine ⟨_, mx2_in _ (hB h h2) _ (hB k (by omega)) ?_, Or.inr (Or.inr ⟨h, k, h1, h2, h4, rfl⟩)⟩
      unfold djP at h3
      rw [beq_iff_eq] at h3
      rw [Nat.and_comm]; exact h3
  · intro b b' c h1 h2
    rcases h1 with ⟨h1, e1⟩ | ⟨h, h1, h2', e1⟩ | ⟨h, k, h1, h2', h3, e1⟩ <;> rcases h2 with ⟨g1, e2⟩ | ⟨g, g1, g2, e2⟩ | ⟨g, j, g1, g2, g3, e2⟩ <;> rw [e1] at e2 <;> simp only [Prod.mk.injEq] at e2
    · rw [h1, g1]
    · have := mxs_pos _ (hB g g1); omega
    · have := mxs_pos _ (hB g g2); omega
    · have := mxs_pos _ (hB h h1); omega
    · rw [h2', g2, hi _ _ h1 g1 e2.1]
    · have := mxs_pos _ (hB g g2); have := mxs_pos _ (hB j (by omega)); omega
    · have := mxs_pos _ (hB h h2'); omega
    · have := mxs_pos _ (hB h h2'); have := mxs_pos _ (hB k (by omega)); omega
    · have q : (B h = B g ∧ B k = B j) ∨ (B h = B j ∧ B k = B g) := by omega
      rcases q with ⟨q1, q2⟩ | ⟨q1, q2⟩
      · rw [h3, g3, hi _ _ h2' g2 q1, hi _ _ (by omega) (by omega) q2]
      · have w1 := hi _ _ h2' (by omega) q1
        have w2 := hi _ _ (by omega) g2 q2
        omega
/-- pairs of different people, no two alike -/
def pok (O T : Nat → Nat) (p n : Nat) : Prop := (∀ k, k < n → O k < p ∧ T k < p ∧ O k ≠ T k) ∧ ∀ j k, j < n → k < n → bothP O T j = bothP O T k → j = k
theorem mlS_len {S O T K H : Nat → Nat} {sl p n : Nat} (hp : p ≤ 5) (ho : pok O T p n) : (mlS S O T K H sl n).length ≤ 26 :=
  ml_len26 (fun k hk => by have := ho.1 k hk; exact mxs_in _ (by omega) _ (by omega) this.2.2) ho.2
theorem mlS_mem {S O T K H : Nat → Nat} {sl n : Nat} (b : Nat) : b ∈ mlS S O T K H sl n ↔ b ∈ (0 :: lmS S O T K H sl n) :=
  lm_ml (fun k hk => by rw [bitsN_tb]; simp [hk]) b
theorem lmI_nd {can : Nat → Bool} {dj : Nat → Nat → Bool} {k : Nat} : ∀ l, (lmI can dj k l).Pairwise (· < ·) := by
  intro l
  induction l with
  | zero => exact List.Pairwise.nil
  | succ l ih =>
    rw [lmI, List.pairwise_append]
    refine ⟨ih, ?_, ?_⟩
    · split <;> simp
    · intro a ha b hb
      obtain ⟨j, h0, h1, -, -, e⟩ := (lmI_mem l a).mp ha
      split at hb
      · rename_i c
        simp at hb c
        subst hb e
        rw [Nat.or_comm, or_add h0, Nat.or_comm, or_add c.1]
        have := Nat.pow_lt_pow_right (a := 2) (by omega) h1
        omega
      · cases hb
theorem two_uniq {k h : Nat} (hk : k < h) {b : Nat} (e : b = 2 ^ k ||| 2 ^ h) : ∀ i, b.testBit i = true ↔ (i = k ∨ i = h) := by
  intro i
  rw [e, Nat.testBit_or, Nat.testBit_two_pow, Nat.testBit_two_pow]
  simp
  omega
theorem one_uniq {h : Nat} {b : Nat} (e : b = 2 ^ h) : ∀ i, b.testBit i = true ↔ i = h := by
  intro i
  rw [e, Nat.testBit_two_pow]
  simp
  omega
theorem lm_nd {can : Nat → Bool} {dj : Nat → Nat → Bool} {n : Nat} : ∀ m, (lm can dj n m).Nodup := by
  intro m
  induction m with
  | zero => exact List.Pairwise.nil
  | succ m ih =>
    rw [lm]
    refine List.nodup_append.mpr ⟨ih, ?_, ?_⟩
    · split
      · rw [List.nodup_cons]
        refine ⟨fun hm => ?_, (lmI_nd n).imp (fun h => Nat.ne_of_lt h)⟩
        obtain ⟨j, h0, -, -, -, e⟩ := (lmI_mem n _).mp hm
        have h1 := (two_uniq h0 e j).mpr (Or.inr rfl)
        have := (one_uniq rfl j).mp h1
        omega
      · exact List.Pairwise.nil
    · intro a ha b hb e
      subst e
      split at hb
      · -- the lowest bit of b is m, that of a below m
        have hlow : ∃ k, k < m ∧ a.testBit k = true := by
          rcases (lm_mem m a).mp ha with ⟨h, h1, -, e⟩ | ⟨k, h, h1, h2, -, -, -, -, e⟩
          · exact ⟨h, h1, (one_uniq e h).mpr rfl⟩
          · exact ⟨k, h1, (two_uniq h2 e k).mpr (Or.inl rfl)⟩
        obtain ⟨k, hk, ht⟩ := hlow
        rcases List.mem_cons.mp hb with hb | hb
        · have := (one_uniq hb k).mp ht; omega
        · obtain ⟨j, h0, -, -, -, e⟩ := (lmI_mem n _).mp hb
          have := (two_uniq h0 e k).mp ht; omega
      · cases hb
theorem lm_0 {can : Nat → Bool} {dj : Nat → Nat → Bool} {n m : Nat} : 0 ∉ lm can dj n m := by
  intro h
  rcases (lm_mem m 0).mp h with ⟨h, h1, -, e⟩ | ⟨k, h, h1, h2, -, -, -, -, e⟩
  · have := (one_uniq e h).mpr rfl; simp at this
  · have := (two_uniq h2 e k).mpr (Or.inl rfl); simp at this
theorem mlS_lmS {S O T K H : Nat → Nat} {sl n : Nat} : (mlS S O T K H sl n).length = (lmS S O T K H sl n).length + 1 := by
  have h := (List.perm_ext_iff_of_nodup (l₁ := mlS S O T K H sl n) (l₂ := 0 :: lmS S O T K H sl n) ((ml_up n).imp (fun h => Nat.ne_of_lt h)) (List.nodup_cons.mpr ⟨lm_0, lm_nd n⟩)).mpr (fun b => mlS_mem b)
  exact h.length_eq
theorem mlS_bst {S O T K H SL : Nat → Nat} {sl n : Nat} : (bst SL (mlS S O T K H sl n)).2 = Fm SL (lmS S O T K H sl n) :=
  bst_Fm (ml_up n) (fun b => mlS_mem b)
