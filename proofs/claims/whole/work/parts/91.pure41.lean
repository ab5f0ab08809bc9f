/-! what a row of seats is worth -/
theorem dst_comm (a b : Nat) : dst a b = dst b a := by unfold dst; split <;> split <;> omega
theorem slp_comm {fb a b : Nat} (ha : a < 10) (hb : b < 10) : slp fb a b = slp fb b a := by
  unfold slp frk
  rw [(msk_lt a ha b hb).2, dst_comm]
def gnV (O T K H : Nat → Nat) (fb sl n q p a b : Nat) : Nat := match fst0 (isP O T q p) n with
  | none => 0
  | some k => if rch (K k) (H k) (dst a b) sl then 1000 - slp fb a b else 0
def gnR (O T K H : Nat → Nat) (fb sl n : Nat) (r : Nat → Nat) (q p : Nat) : Nat := gnV O T K H fb sl n q p (r q) (r p)
def Vr (O T K H : Nat → Nat) (fb sl n : Nat) (r : Nat → Nat) : Nat := 1000 * pc10 (BS r O T K H sl fb n).1 - (BS r O T K H sl fb n).2
section
variable {O T K H r : Nat → Nat} {p n fb sl : Nat}
theorem gn_pair (ho : pok O T p n) (hr : ∀ q, q < p → r q < 10) {k a b : Nat} (hk : k < n) (ha : a < p) (hb : b < p) (h : isP O T a b k = true) : gnR O T K H fb sl n r a b = if canP r O T K H sl k then 1000 - slopP r O T fb k else 0 := by
  unfold gnR gnV
  rw [fst0_pair ho hk h]
  unfold canP slopP
  unfold isP at h
  simp only [Bool.or_eq_true, Bool.and_eq_true, beq_iff_eq] at h
  rcases h with ⟨h1, h2⟩ | ⟨h1, h2⟩
  · rw [h1, h2]
  · rw [h1, h2, dst_comm (r b) (r a), slp_comm (hr b hb) (hr a ha)]
theorem slopP_10 (ho : pok O T p n) (hr : ∀ q, q < p → r q < 10) {k : Nat} (hk : k < n) : slopP r O T fb k < 10 := by
  obtain ⟨h1, h2, -⟩ := ho.1 k hk
  have := dst_lt (hr _ h1) (hr _ h2)
  unfold slopP slp
  omega
theorem val_1 {SL : Nat → Nat} {k : Nat} (hk : k < 10) : sumN (2 ^ k) SL 10 = SL k := by rw [sumN_two, if_pos hk]
theorem val_2 {SL : Nat → Nat} {k h : Nat} (hk : k < h) (hh : h < 10) : sumN (2 ^ k ||| 2 ^ h) SL 10 = SL k + SL h := by rw [sumN_or (by omega), sumN_two, sumN_two, if_pos (by omega), if_pos hh]
theorem V_eq (hp : p ≤ 5) (ho : pok O T p n) (hr : ∀ q, q < p → r q < 10) : Mw (gnR O T K H fb sl n r) p (2 ^ p - 1) = Vr O T K H fb sl n r ∧ (BS r O T K H sl fb n).2 ≤ 18 ∧ pc10 (BS r O T K H sl fb n).1 ≤ 2 ∧ (pc10 (BS r O T K H sl fb n).1 = 0 → (BS r O T K H sl fb n).2 = 0) := by
  have n10 := pok_10 hp ho
  obtain ⟨b1, b2, b3, b4⟩ := Fm_best (SL := slopP r O T fb) (lmS r O T K H sl n)
  unfold Vr
  change (BS r O T K H sl fb n).2 = sumN (BS r O T K H sl fb n).1 (slopP r O T fb) 10 at b1
  change (BS r O T K H sl fb n).1 = 0 ∨ (BS r O T K H sl fb n).1 ∈ lmS r O T K H sl n at b2
  change ∀ b ∈ lmS r O T K H sl n, leK (slopP r O T fb) (BS r O T K H sl fb n).1 b at b4
  rw [b1]
  generalize (BS r O T K H sl fb n).1 = best at *
  have hfull : ∀ i, i < p → (2 ^ p - 1).testBit i = true := fun i hi => by rw [Nat.testBit_two_pow_sub_one]; simp [hi]
  have hsl : ∀ k, k < n → slopP r O T fb k < 10 := fun k hk => slopP_10 ho hr hk
  have s0 : ∀ m, sumN 0 (slopP r O T fb) m = 0 := by
    intro m
    induction m with
    | zero => rfl
    | succ m ih => rw [sumN, ih]; simp
  -- the two of a pair, in order
  have two : ∀ k, k < n → ∃ a b, a < b ∧ b < p ∧ isP O T a b k = true ∧ bothP O T k = 2 ^ a ||| 2 ^ b := by
    intro k hk
    obtain ⟨h1, h2, h3⟩ := ho.1 k hk
    rcases Nat.lt_or_ge (O k) (T k) with q | q
    · exact ⟨O k, T k, q, h2, isP_of (Or.inl ⟨rfl, rfl⟩), rfl⟩
    · refine ⟨T k, O k, by omega, h1, isP_of (Or.inr ⟨rfl, rfl⟩), ?_⟩
      unfold bothP; rw [Nat.or_comm]
  have dis : ∀ k h, k < n → h < n → djP (bothP O T) k h = true → ∀ a b c d, isP O T a b k = true → isP O T c d h = true → a < b → b < p → c < d → d < p → a ≠ c ∧ a ≠ d ∧ b ≠ c ∧ b ≠ d := by
    intro k h hk hh hd a b c d h1 h2 h3 h4 h5 h6
    unfold djP at hd
    rw [isP_both h1, isP_both h2, dj_iff a (by omega) b (by omega) c (by omega) d (by omega)] at hd
    simp at hd
    omega
  have bst18 : sumN best (slopP r O T fb) 10 ≤ 18 ∧ pc10 best ≤ 2 ∧ (pc10 best = 0 → sumN best (slopP r O T fb) 10 = 0) ∧ 1000 * pc10 best - sumN best (slopP r O T fb) 10 ≤ Mw (gnR O T K H fb sl n r) p (2 ^ p - 1) := by
    rcases b2 with e | e
    · rw [e, s0]
      have : pc10 0 = 0 := by decide
      omega
    · rcases (lm_mem n best).mp e with ⟨k, h1, h2, e⟩ | ⟨k, h, h1, h2, h3, h4, h5, h6, e⟩
      · obtain ⟨a, b, q1, q2, q3, -⟩ := two k h1
        have hg := gn_pair (K := K) (H := H) (fb := fb) (sl := sl) ho hr h1 (by omega) q2 q3
        rw [if_pos h2] at hg
        have hM := Mw_1 (g := gnR O T K H fb sl n r) p (2 ^ p - 1) a b q1 q2 (hfull a (by omega)) (hfull b q2)
        have := hsl k h1
        rw [e, val_1 (by omega), pc_one k (by omega)]
        omega
      · obtain ⟨a, b, q1, q2, q3, -⟩ := two k h1
        obtain ⟨c, d, q4, q5, q6, -⟩ := two h h3
        have hdis := dis k h h1 h3 h6 a b c d q3 q6 q1 q2 q4 q5
        have hg := gn_pair (K := K) (H := H) (fb := fb) (sl := sl) ho hr h1 (by omega) q2 q3
        have hg2 := gn_pair (K := K) (H := H) (fb := fb) (sl := sl) ho hr h3 (by omega) q5 q6
        rw [if_pos h5] at hg
        rw [if_pos h4] at hg2
        have l1 := hsl k h1
        have l2 := hsl h h3
        have hM : gnR O T K H fb sl n r a b + gnR O T K H fb sl n r c d ≤ Mw (gnR O T K H fb sl n r) p (2 ^ p - 1) := by
          rcases Nat.lt_or_ge d b with q | q
          · exact Mw_2 p (2 ^ p - 1) a b c d q1 q2 q4 q (by omega) (by omega) (hfull a (by omega)) (hfull b q2) (hfull c (by omega)) (hfull d q5)
          · have := Mw_2 (g := gnR O T K H fb sl n r) p (2 ^ p - 1) c d a b q4 q5 q1 (by omega) (by omega) (by omega) (hfull c (by omega)) (hfull d q5) (hfull a (by omega)) (hfull b q2)
            omega
        have hpc : pc10 best = 2 := by rw [e, Nat.or_comm, pc_two h (by omega) k h2]
        rw [e, val_2 h2 (by omega)]
        rw [e] at hpc
        rw [hpc]
        omega
  refine ⟨?_, bst18.1, bst18.2.1, bst18.2.2.1⟩
  apply Nat.le_antisymm _ bst18.2.2.2
  -- a gain is a pair's
  have gk : ∀ q c, q < c → c < p → 0 < gnR O T K H fb sl n r q c → ∃ k, k < n ∧ isP O T q c k = true ∧ canP r O T K H sl k = true ∧ gnR O T K H fb sl n r q c = 1000 - slopP r O T fb k := by
    intro q c h1 h2 h3
    cases hf : fst0 (isP O T q c) n with
    | none =>
      unfold gnR gnV at h3
      rw [hf] at h3
      simp at h3
    | some k =>
      have hk := fst_lt _ _ _ hf
      have hg := gn_pair (K := K) (H := H) (fb := fb) (sl := sl) ho hr hk.1 (by omega) h2 hk.2
      rw [hg] at h3
      split at h3
      · rename_i hcan
        exact ⟨k, hk.1, hk.2, hcan, by rw [hg, if_pos hcan]⟩
      · omega
  rcases Mw_cases (g := gnR O T K H fb sl n r) p hp (2 ^ p - 1) with h | ⟨q, c, h1, h2, h3, h4, h5, h6⟩ | ⟨q, c, q', c', h1, h2, h3, h4, h5, h6, -, -, -, -, h7, h8, h9⟩
  · omega
  · obtain ⟨k, k1, k2, k3, k4⟩ := gk q c h1 h2 h5
    have hb := b4 (2 ^ k) ((lm_mem n _).mpr (Or.inl ⟨k, k1, k3, rfl⟩))
    have l1 := hsl k k1
    unfold leK at hb
    rw [val_1 (by omega), pc_one k (by omega)] at hb
    omega
  · obtain ⟨k, k1, k2, k3, k4⟩ := gk q c h1 h2 h7
    obtain ⟨l, l1, l2, l3, l4⟩ := gk q' c' h3 (by omega) h8
    have hd : (bothP O T k &&& bothP O T l == 0) = true := by
      rw [isP_both k2, isP_both l2, dj_iff q (by omega) c (by omega) q' (by omega) c' (by omega)]
      simp
      omega
    have hne : k ≠ l := by
      intro e; subst e
      rw [Nat.and_self] at hd
      have := ho.1 k k1
      have := mxs_pos _ (mxs_in _ (show O k < 5 by omega) _ (show T k < 5 by omega) this.2.2)
      have hd := beq_iff_eq.mp hd
      unfold bothP at hd
      omega
    have m1 := hsl k k1
    have m2 := hsl l l1
    rcases Nat.lt_or_ge k l with e | e
    · have hb := b4 (2 ^ k ||| 2 ^ l) ((lm_mem n _).mpr (Or.inr ⟨k, l, k1, e, l1, l3, k3, hd, rfl⟩))
      unfold leK at hb
      rw [val_2 e (by omega), show pc10 (2 ^ k ||| 2 ^ l) = 2 by rw [Nat.or_comm, pc_two l (by omega) k e]] at hb
      omega
    · have e : l < k := by omega
      have hd2 : djP (bothP O T) l k = true := by rw [djP_comm]; exact hd
      have hb := b4 (2 ^ l ||| 2 ^ k) ((lm_mem n _).mpr (Or.inr ⟨l, k, l1, e, k1, k3, l3, hd2, rfl⟩))
      unfold leK at hb
      rw [val_2 e (by omega), show pc10 (2 ^ l ||| 2 ^ k) = 2 by rw [Nat.or_comm, pc_two k (by omega) l e]] at hb
      omega
end
