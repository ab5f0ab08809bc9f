/-! loops that count up -/
theorem lp {σ ρ : Type} {L : Nat → Nat → σ → Option ρ} {n : Nat} {I : Nat → σ → Prop} {Post : ρ → Prop}
    (hs : ∀ f j st, j < n → I j st → (∃ st', I (j + 1) st' ∧ L (f + 1) j st = L f (j + 1) st') ∨ (∃ r, Post r ∧ L (f + 1) j st = some r))
    (hx : ∀ f st, I n st → ∃ r, Post r ∧ L (f + 1) n st = some r) : ∀ f j st, j ≤ n → n - j < f → I j st → ∃ r, Post r ∧ L f j st = some r := by
  intro f
  induction f with
  | zero => intro j st h1 h2; omega
  | succ f ih =>
    intro j st h1 h2 h3
    by_cases hj : j = n
    · subst hj; exact hx f st h3
    · rcases hs f j st (by omega) h3 with ⟨st', h4, h5⟩ | ⟨r, h4, h5⟩
      · obtain ⟨r, h6, h7⟩ := ih (j + 1) st' (by omega) (by omega) h4
        exact ⟨r, h6, by rw [h5, h7]⟩
      · exact ⟨r, h4, h5⟩
/-- the sum of a row over the bits of x below n -/
def sumN (x : Nat) (g : Nat → Nat) : Nat → Nat
  | 0 => 0
  | n + 1 => sumN x g n + (if x.testBit n then g n else 0)
theorem sumN_le {x : Nat} {g : Nat → Nat} {B : Nat} (h : ∀ k, x.testBit k = true → g k ≤ B) : ∀ n, sumN x g n ≤ n * B := by
  intro n
  induction n with
  | zero => simp [sumN]
  | succ n ih =>
    have e : (n + 1) * B = n * B + B := Nat.succ_mul n B
    rw [sumN]
    by_cases c : x.testBit n = true
    · have := h n c
      rw [if_pos c]; omega
    · rw [if_neg c]; omega
theorem q_sumOf {row : Nat → Int32} {g : Nat → Nat} {x : Nat} (hx : x < 1024) (h : ∀ k, k < 10 → x.testBit k = true → row k = iI (g k) ∧ g k < 100000) : f_X_sumOf (iI x) row = some (iI ((sumN x g 10 : Nat) : Int)) := by
  have hb : ∀ n, n ≤ 10 → sumN x g n ≤ n * 100000 := by
    intro n hn
    refine sumN_le (fun k hk => ?_) n
    have hk2 : k < 10 := by
      rcases Nat.lt_or_ge k 10 with q | q
      · exact q
      · have := Nat.testBit_lt_two_pow (x := x) (i := k) (Nat.lt_of_lt_of_le (show x < 2 ^ 10 from hx) (Nat.pow_le_pow_right (n := 2) (by decide) q))
        rw [this] at hk; cases hk
    have := (h k hk2 hk).2
    omega
  have key := lp (L := fun f j (st : Int32) => f_X_sumOf_L4 (iI x) row f st (iI (j : Int))) (n := 10) (I := fun j st => st = iI ((sumN x g j : Nat) : Int)) (Post := fun r => r = iI ((sumN x g 10 : Nat) : Int)) (fun f j st hj hst => by
      subst hst
      refine Or.inl ⟨iI ((sumN x g (j + 1) : Nat) : Int), rfl, ?_⟩
      have hbj := hb j (by omega)
      simp only [f_X_sumOf_L4]
      simp (disch := omega) only [i_10, iI_le]
      rw [if_neg (by omega), q_has (by omega) (by omega)]
      rw [show sumN x g (j + 1) = sumN x g j + (if x.testBit j then g j else 0) from rfl]
      unfold b01
      cases c : x.testBit j
      · simp [bd, lt, i_1, iI_add]
      · have hr := h j hj c
        simp only [bd, lt, if_true, show ((1 : Int32) = 0) = False by decide, if_false]
        simp (disch := omega) only [iI_ck, iI_cl, hr.1, iI_add, i_1]
        simp) (fun f st hst => by
      subst hst
      refine ⟨_, rfl, ?_⟩
      simp only [f_X_sumOf_L4]
      simp (disch := omega) only [i_10, iI_le]
      rw [if_pos (by omega)]) fu 0 (iI 0) (by omega) (by have := fu_big; omega) rfl
  obtain ⟨r, hr, he⟩ := key
  subst hr
  unfold f_X_sumOf
  have he2 : f_X_sumOf_L4 (iI x) row fu (0 : Int32) (0 : Int32) = some (iI ((sumN x g 10 : Nat) : Int)) := he
  rw [he2]
  rfl
