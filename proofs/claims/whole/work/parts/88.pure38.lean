/-! fewest to make known: class and reference -/
theorem r_grow2 {x : Nat → Int32} {S O T K Y Z : Nat → Nat} {p n fb t : Nat} (hn : n ≤ 10) (hp : p ≤ 5) (hx : xv x S O T K Y Z p n fb) : ∃ x', f_M_fedMeeting_L86 (iI t) fu (0 : Int32) x = some x' ∧ xv x' S O T K (fun k => Y k + t) Z p n fb := by
  have key := lp (L := fun f j (st : (Nat → Int32)) => f_M_fedMeeting_L86 (iI t) f (iI (j : Int)) st) (n := n) (I := fun j st => (∀ k, k < 58 → ¬ (25 ≤ k ∧ k < 25 + j) → st k = x k) ∧ ∀ k, k < j → st (25 + k) = iI ((Y k + t : Nat) : Int)) (Post := fun st => (∀ k, k < 58 → ¬ (25 ≤ k ∧ k < 25 + n) → st k = x k) ∧ ∀ k, k < n → st (25 + k) = iI ((Y k + t : Nat) : Int)) (fun f j st hj hst => ?_) (fun f st hst => ?_) fu 0 x (by omega) (by have := fu_big; omega) ⟨fun k _ _ => rfl, fun j hj => by omega⟩
  · obtain ⟨r, ⟨r1, r2⟩, he⟩ := key
    refine ⟨r, he, ⟨fun q hq => by rw [r1 q (by omega) (by omega)]; exact hx.1 q hq, fun k hk => ?_, by rw [r1 55 (by omega) (by omega)]; exact hx.2.2.1, by rw [r1 56 (by omega) (by omega)]; exact hx.2.2.2⟩⟩
    obtain ⟨a, b, c, d, f⟩ := hx.2.1 k hk
    exact ⟨by rw [r1 _ (by omega) (by omega)]; exact a, by rw [r1 _ (by omega) (by omega)]; exact b, r2 k hk, by rw [r1 _ (by omega) (by omega)]; exact d, by rw [r1 _ (by omega) (by omega)]; exact f⟩
  · obtain ⟨s1, s2⟩ := hst
    refine Or.inl ⟨upd st (25 + j) (iI ((Y j + t : Nat) : Int)), ⟨fun k hk hk2 => ?_, fun k hk => ?_⟩, ?_⟩
    · rw [upd_n (by omega)]; exact s1 k hk (by omega)
    · by_cases c : k = j
      · subst c; exact upd_s _ _ _
      · rw [upd_n (by omega)]; exact s2 k (by omega)
    · have e1 : st 55 = iI n := by rw [s1 55 (by omega) (by omega)]; exact hx.2.2.1
      have e2 : st (25 + j) = iI (Y j : Nat) := by rw [s1 _ (by omega) (by omega)]; exact (hx.2.1 j hj).2.2.1
      simp only [f_M_fedMeeting_L86, lt]
      simp (disch := omega) only [ck55, cl55, e1, iI_le, ck25, cl25, e2, iI_add, i_1]
      rw [if_neg (by omega)]
      rfl
  · refine ⟨st, hst, ?_⟩
    have e1 : st 55 = iI n := by rw [hst.1 55 (by omega) (by omega)]; exact hx.2.2.1
    simp only [f_M_fedMeeting_L86]
    simp (disch := omega) only [ck55, cl55, e1, iI_le]
    rw [if_pos (by omega)]
/-- none, one, or two that share nobody -/
def has2 (P : Nat → Prop) (B : Nat → Nat) (n hf : Nat) : Prop := hf = 0 ∨ (hf = 1 ∧ ∃ k, k < n ∧ P k) ∨ (hf = 2 ∧ ∃ k h, k < n ∧ h < n ∧ P k ∧ P h ∧ B k &&& B h = 0)
theorem hs_ml {can : Nat → Bool} {B : Nat → Nat} {Q : Nat → Prop} {n hf : Nat} (hn : n ≤ 10) (hB : ∀ k, k < n → 0 < B k) (h2 : hf ≤ 2) : (∃ b, b ∈ ml can (djP B) n ∧ pc10 b = hf ∧ ∀ i, b.testBit i = true → Q i) ↔ has2 (fun k => can k = true ∧ Q k) B n hf := by
  constructor
  · rintro ⟨b, hb, hpc, hQ⟩
    rcases (ml_mem n b).mp hb with e | ⟨h, g1, g2, e⟩ | ⟨h, k, g1, g2, g3, g4, g5, e⟩
    · subst e
      have : pc10 0 = 0 := by decide
      exact Or.inl (by omega)
    · rw [e, pc_one h (by omega)] at hpc
      exact Or.inr (Or.inl ⟨hpc.symm, h, g1, g2, hQ h ((one_uniq e h).mpr rfl)⟩)
    · have e' : b = 2 ^ k ||| 2 ^ h := by rw [e, Nat.or_comm]
      rw [e, pc_two h (by omega) k g1] at hpc
      refine Or.inr (Or.inr ⟨hpc.symm, k, h, by omega, g2, ⟨g4, hQ k ((two_uniq g1 e' k).mpr (Or.inl rfl))⟩, ⟨g3, hQ h ((two_uniq g1 e' h).mpr (Or.inr rfl))⟩, ?_⟩)
      unfold djP at g5
      exact beq_iff_eq.mp g5
  · rintro (h | ⟨h, k, hk, c1, c2⟩ | ⟨h, k, l, hk, hl, ⟨c1, c2⟩, ⟨d1, d2⟩, hd⟩)
    · exact ⟨0, (ml_mem n 0).mpr (Or.inl rfl), by rw [h]; decide, fun i hi => by simp at hi⟩
    · exact ⟨2 ^ k, (ml_mem n _).mpr (Or.inr (Or.inl ⟨k, hk, c1, rfl⟩)), by rw [h, pc_one k (by omega)], fun i hi => by have := (one_uniq rfl i).mp hi; subst this; exact c2⟩
    · have hne : k ≠ l := by
        intro e; subst e
        rw [Nat.and_self] at hd
        have := hB k hk; omega
      rcases Nat.lt_or_ge k l with q | q
      · refine ⟨2 ^ l ||| 2 ^ k, (ml_mem n _).mpr (Or.inr (Or.inr ⟨l, k, q, hl, d1, c1, by unfold djP; rw [hd]; rfl, rfl⟩)), by rw [h, pc_two l (by omega) k q], fun i hi => ?_⟩
        rcases (two_uniq q (Nat.or_comm _ _) i).mp hi with r | r <;> subst r
        · exact c2
        · exact d2
      · have q : l < k := by omega
        refine ⟨2 ^ k ||| 2 ^ l, (ml_mem n _).mpr (Or.inr (Or.inr ⟨k, l, q, hk, c1, d1, by unfold djP; rw [Nat.and_comm, hd]; rfl, rfl⟩)), by rw [h, pc_two k (by omega) l q], fun i hi => ?_⟩
        rcases (two_uniq q (Nat.or_comm _ _) i).mp hi with r | r <;> subst r
        · exact d2
        · exact c2
/-- how many pairs the best match has -/
theorem hs_best {S O T K H : Nat → Nat} {sl fb n p : Nat} (hn : n ≤ 10) (hp0 : 0 < p) (hp : p ≤ 5) (ho : pok O T p n) : ((p : Int) - 1 ≤ ((2 * pc10 (BS S O T K H sl fb n).1 : Nat) : Int)) ↔ has2 (fun k => canP S O T K H sl k = true) (bothP O T) n (p / 2) := by
  obtain ⟨-, b2, b3, b4⟩ := Fm_best (SL := slopP S O T fb) (lmS S O T K H sl n)
  change (BS S O T K H sl fb n).1 = 0 ∨ (BS S O T K H sl fb n).1 ∈ lmS S O T K H sl n at b2
  change ∀ b ∈ lmS S O T K H sl n, leK (slopP S O T fb) (BS S O T K H sl fb n).1 b at b4
  generalize (BS S O T K H sl fb n).1 = best at *
  have hge : ∀ b ∈ lmS S O T K H sl n, pc10 b ≤ pc10 best := fun b hb => by have := b4 b hb; unfold leK at this; omega
  have hB0 : ∀ k, k < n → 0 < bothP O T k := fun k hk => by
    have := ho.1 k hk
    exact mxs_pos _ (mxs_in _ (by omega) _ (by omega) this.2.2)
  constructor
  · intro h
    rcases b2 with e | e
    · subst e
      have : pc10 0 = 0 := by decide
      exact Or.inl (by omega)
    · rcases (lm_mem n best).mp e with ⟨k, h1, h2, e⟩ | ⟨k, l, h1, h2, h3, h4, h5, h6, e⟩
      · rw [e, pc_one k (by omega)] at h
        by_cases c : p / 2 = 0
        · exact Or.inl c
        · exact Or.inr (Or.inl ⟨by omega, k, h1, h2⟩)
      · rw [e, Nat.or_comm, pc_two l (by omega) k h2] at h
        have hh : p / 2 = 0 ∨ p / 2 = 1 ∨ p / 2 = 2 := by omega
        rcases hh with c | c | c
        · exact Or.inl c
        · exact Or.inr (Or.inl ⟨c, k, h1, h5⟩)
        · refine Or.inr (Or.inr ⟨c, k, l, h1, h3, h5, h4, ?_⟩)
          unfold djP at h6
          exact beq_iff_eq.mp h6
  · rintro (h | ⟨h, k, hk, c1⟩ | ⟨h, k, l, hk, hl, c1, d1, hd⟩)
    · omega
    · have := hge (2 ^ k) ((lm_mem n _).mpr (Or.inl ⟨k, hk, c1, rfl⟩))
      rw [pc_one k (by omega)] at this
      omega
    · have hne : k ≠ l := by
        intro e; subst e
        rw [Nat.and_self] at hd
        have := hB0 k hk; omega
      rcases Nat.lt_or_ge k l with q | q
      · have := hge (2 ^ k ||| 2 ^ l) ((lm_mem n _).mpr (Or.inr ⟨k, l, hk, q, hl, d1, c1, by unfold djP; rw [hd]; rfl, rfl⟩))
        rw [Nat.or_comm, pc_two l (by omega) k q] at this
        omega
      · have q : l < k := by omega
        have := hge (2 ^ l ||| 2 ^ k) ((lm_mem n _).mpr (Or.inr ⟨l, k, hl, q, hk, c1, d1, by unfold djP; rw [Nat.and_comm, hd]; rfl, rfl⟩))
        rw [Nat.or_comm, pc_two k (by omega) l q] at this
        omega
theorem sumN_mono {x y : Nat} {g : Nat → Nat} (h : ∀ k, x.testBit k = true → y.testBit k = true) : ∀ n, sumN x g n ≤ sumN y g n := by
  intro n
  induction n with
  | zero => exact Nat.le_refl _
  | succ n ih =>
    rw [sumN, sumN]
    by_cases c : x.testBit n = true
    · rw [if_pos c, if_pos (h n c)]; omega
    · rw [if_neg c]; omega
theorem mnF_cof {l l' : List (Nat × Nat)} (h1 : ∀ q ∈ l, q ∈ l') (h2 : ∀ r ∈ l', ∃ q ∈ l, lxL q r) : mnF l = mnF l' := by
  obtain ⟨a1, a2⟩ := mnF_spec l
  obtain ⟨b1, b2⟩ := mnF_spec l'
  cases e : mnF l with
  | none =>
    have := a1 e
    subst this
    cases e' : mnF l' with
    | none => rfl
    | some q =>
      obtain ⟨r, hr, -⟩ := h2 q (b2 q e').1
      cases hr
  | some q =>
    obtain ⟨c1, c2⟩ := a2 q e
    cases e' : mnF l' with
    | none =>
      have := b1 e'
      subst this
      exact absurd (h1 q c1) (by simp)
    | some q' =>
      obtain ⟨d1, d2⟩ := b2 q' e'
      have u := d2 q (h1 q c1)
      obtain ⟨r, hr, w⟩ := h2 q' d1
      have w2 := c2 r hr
      unfold lxL at u w w2
      have e1 : q.1 = q'.1 := by omega
      have e2 : q.2 = q'.2 := by omega
      rw [Prod.ext e1 e2]
