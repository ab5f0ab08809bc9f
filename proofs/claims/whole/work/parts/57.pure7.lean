/-! forks and slops in the reference -/
def btw (A B s : Nat) : Bool := (A < s && s < B) || (B < s && s < A)
def frN (fb A B : Nat) : Nat → Nat
  | 0 => 0
  | j + 1 => frN fb A B j + (if fb.testBit j && btw A B j then 1 else 0)
theorem frN_le (fb A B : Nat) : ∀ j, frN fb A B j ≤ j := by
  intro j
  induction j with
  | zero => simp [frN]
  | succ j ih => rw [frN]; split <;> omega
theorem msk_tb : ∀ a : Nat, a < 10 → ∀ b : Nat, b < 10 → ∀ s : Nat, s < 10 → (msk a b).testBit s = btw a b s := by decide +kernel
theorem pc10_sum : ∀ x : Nat, x < 1024 → pc10 x = sumN x (fun _ => 1) 10 := by decide +kernel
theorem frN_sum {fb A B : Nat} (hA : A < 10) (hB : B < 10) : ∀ j, j ≤ 10 → frN fb A B j = sumN (fb &&& msk A B) (fun _ => 1) j := by
  intro j
  induction j with
  | zero => intro _; rfl
  | succ j ih =>
    intro hj
    rw [frN, sumN, ih (by omega), Nat.testBit_and, msk_tb A hA B hB j (by omega)]
theorem frN_stay {fb A B ns : Nat} (hf : fb < 2 ^ ns) : ∀ d, frN fb A B (ns + d) = frN fb A B ns := by
  intro d
  induction d with
  | zero => rfl
  | succ d ih =>
    have h : fb.testBit (ns + d) = false := by
      cases c : fb.testBit (ns + d)
      · rfl
      · have := tb_lt hf c; omega
    rw [show ns + (d + 1) = (ns + d) + 1 from rfl, frN, ih, h]
    simp
theorem frN_frk {fb A B ns : Nat} (hn : ns ≤ 10) (hf : fb < 2 ^ ns) (hA : A < 10) (hB : B < 10) : frN fb A B ns = frk fb A B := by
  have h1 := frN_stay (A := A) (B := B) hf (10 - ns)
  rw [show ns + (10 - ns) = 10 by omega] at h1
  rw [← h1, frN_sum hA hB 10 (by omega)]
  unfold frk
  rw [pc10_sum _ (Nat.lt_of_le_of_lt Nat.and_le_left (Nat.lt_of_lt_of_le hf (two10 hn)))]
theorem r_bit {x n : Nat} (hx : x < 2147483648) (hn : n < 32) : f_M_bit (iI x) (iI n) = some (b01 (x.testBit n)) := q_has hx hn
theorem r_forksOf {x : Nat → Int32} {a b A B ns fb : Nat} (ha : a < 58) (hb : b < 58) (h1 : x a = iI (A : Nat)) (h2 : x b = iI (B : Nat)) (hns : ns ≤ 10) (hA : A < ns) (hB : B < ns) (hx : x 56 = iI (fb : Nat)) (hf : fb < 2 ^ ns) : f_M_forksOf (iI (a : Nat)) (iI (b : Nat)) x (iI (ns : Nat)) = some (iI ((frk fb A B : Nat) : Int)) := by
  have hfb : fb < 1024 := Nat.lt_of_lt_of_le hf (two10 hns)
  have key := lp (L := fun f j (st : Int32) => f_M_forksOf_L5 (iI (a : Nat)) (iI (b : Nat)) x (iI (ns : Nat)) f st (iI (j : Int))) (n := ns) (I := fun j st => st = iI (frN fb A B j : Nat)) (Post := fun r => r = iI (frN fb A B ns : Nat)) (fun f j st hj hst => ?_) (fun f st hst => ?_) fu 0 (iI (0 : Nat)) (by omega) (by have := fu_big; omega) rfl
  · obtain ⟨r, hr, he⟩ := key
    subst hr
    unfold f_M_forksOf
    have he2 : f_M_forksOf_L5 (iI (a : Nat)) (iI (b : Nat)) x (iI (ns : Nat)) fu (0 : Int32) (0 : Int32) = some (iI (frN fb A B ns : Nat)) := he
    rw [he2, frN_frk hns hf (by omega) (by omega)]
    rfl
  · subst hst
    refine Or.inl ⟨_, rfl, ?_⟩
    have hle := frN_le fb A B j
    rw [frN]
    simp only [f_M_forksOf_L5, lt]
    simp (disch := omega) only [iI_le, ck56, cl56, hx, h1, h2, iI_ck, iI_cl]
    rw [if_neg (by omega), r_bit (by omega) (by omega)]
    simp only [bd]
    simp (disch := omega) only [iI_eq, i_0, i_1, iI_add]
    cases ct : fb.testBit j
    · simp [b01, i_0]
    · simp only [b01, if_true, one_ne, if_false, Bool.true_and]
      have ez : ∀ c : Prop, [Decidable c] → (if c then some (iI 0) else some (iI 1) : Option Int32) = some (if c then iI 0 else iI 1) := fun c _ => by split <;> rfl
      unfold btw
      by_cases c1 : j ≤ A <;> by_cases c2 : j ≤ B
      · have d1 : (j : Int) ≤ A := by omega
        have d2 : (j : Int) ≤ B := by omega
        have d3 : ¬ A < j := by omega
        have d4 : ¬ B < j := by omega
        simp [d1, d2, d3, d4, iI_add]
      · have d1 : (j : Int) ≤ A := by omega
        have d2 : ¬ (j : Int) ≤ B := by omega
        have d3 : ¬ A < j := by omega
        have d4 : B < j := by omega
        by_cases c3 : j = A
        · subst c3
          have e2 : ¬ j ≤ B := by omega
          have d8 : ¬ iI 0 = iI 1 := by decide
          simp [e2, d4, d8, iI_add]
        · have d5 : ¬ (j : Int) = A := by omega
          have d6 : j < A := by omega
          have d7 : ¬ (j : Int) = B := by omega
          have d8 : ¬ iI 0 = iI 1 := by decide
          simp [d1, d2, d3, d4, d5, d6, d7, d8, iI_add]
      · have d1 : ¬ (j : Int) ≤ A := by omega
        have d2 : (j : Int) ≤ B := by omega
        have d3 : A < j := by omega
        have d4 : ¬ B < j := by omega
        by_cases c3 : j = B
        · subst c3
          have e2 : ¬ j ≤ A := by omega
          have d7 : ¬ (j : Int) = A := by omega
          have d8 : ¬ iI 1 = iI 0 := by decide
          simp [e2, d3, d7, d8, iI_add]
        · have d5 : ¬ (j : Int) = B := by omega
          have d6 : j < B := by omega
          have d7 : ¬ (j : Int) = A := by omega
          have d8 : ¬ iI 1 = iI 0 := by decide
          simp [d1, d2, d3, d4, d5, d6, d7, d8, iI_add]
      · have d1 : ¬ (j : Int) ≤ A := by omega
        have d2 : ¬ (j : Int) ≤ B := by omega
        have d3 : ¬ j < A := by omega
        have d4 : ¬ j < B := by omega
        simp [d1, d2, d3, d4, iI_add]
  · subst hst
    refine ⟨_, rfl, ?_⟩
    simp only [f_M_forksOf_L5]
    simp (disch := omega) only [iI_le]
    rw [if_pos (by omega)]
theorem r_slopsOf {x : Nat → Int32} {S O T K Y Z : Nat → Nat} {p n fb ns k : Nat} (hx : xv x S O T K Y Z p n fb) (ho : xok S O T K Y Z p n fb ns) (hk : k < n) : f_M_slopsOf (iI k) x (iI (ns : Nat)) = some (iI ((slopP S O T fb k : Nat) : Int)) := by
  have hF := r_farPair hx ho hk
  obtain ⟨p5, n10, ns10, f1, s1, b⟩ := ho
  obtain ⟨b1, b2, b3, b4, b5, b6⟩ := b k hk
  obtain ⟨x1, x2, x3, x4, x5⟩ := hx.2.1 k hk
  have s2 := s1 _ b1
  have s3 := s1 _ b2
  have hd : dst (S (O k)) (S (T k)) < 10 := dst_lt (by omega) (by omega)
  have hf : frk fb (S (O k)) (S (T k)) ≤ 10 := frk_le (Nat.lt_of_lt_of_le f1 (two10 ns10))
  unfold f_M_slopsOf slopP slp
  rw [hF]
  simp only [bd, lt]
  simp (disch := omega) only [ck5, ck15, cl5, cl15, x1, x2]
  rw [r_forksOf (by omega) (by omega) (hx.1 _ b1) (hx.1 _ b2) ns10 s2 s3 hx.2.2.2 f1]
  generalize dst (S (O k)) (S (T k)) = d at *
  generalize frk fb (S (O k)) (S (T k)) = f at *
  simp (disch := omega) only [i_0, i_3, iI_mul, iI_sub, iI_le]
  by_cases h : (d : Int) - 3 * f ≤ 0
  · rw [if_pos h]; congr 2; omega
  · rw [if_neg h]; congr 2; omega
theorem r_bits : ∀ x : Nat, x < 1024 → f_M_bits (iI (x : Int)) = some (iI ((pc10 x : Nat) : Int)) := by decide +kernel
