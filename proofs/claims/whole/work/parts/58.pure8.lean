/-! the reference's matches -/
theorem dj_iff : ∀ a : Nat, a < 5 → ∀ b : Nat, b < 5 → ∀ c : Nat, c < 5 → ∀ d : Nat, d < 5 → (((2 ^ a ||| 2 ^ b) &&& (2 ^ c ||| 2 ^ d)) == 0) = !((a == c || b == c) || (a == d || b == d)) := by decide +kernel
theorem b01_eq0 {b : Bool} : (b01 b = (0 : Int32)) = (b = false) := by cases b <;> simp [b01] <;> decide
theorem r_hasOne {x : Nat → Int32} {S O T K Y Z : Nat → Nat} {p n fb ns k q : Nat} (hx : xv x S O T K Y Z p n fb) (ho : xok S O T K Y Z p n fb ns) (hk : k < n) (hq : q < 5) : f_M_hasOne (iI k) (iI q) x = some (b01 (O k == q || T k == q)) := by
  obtain ⟨p5, n10, ns10, f1, s1, b⟩ := ho
  obtain ⟨b1, b2, b3, b4, b5, b6⟩ := b k hk
  obtain ⟨x1, x2, x3, x4, x5⟩ := hx.2.1 k hk
  unfold f_M_hasOne
  simp (disch := omega) only [ck5, ck15, cl5, cl15, x1, x2, iI_eq]
  by_cases c1 : O k = q
  · have d1 : ((O k : Nat) : Int) = q := by omega
    simp [bd, c1, d1, b01]
  · have d1 : ¬ ((O k : Nat) : Int) = q := by omega
    by_cases c2 : T k = q
    · have d2 : ((T k : Nat) : Int) = q := by omega
      simp [bd, c1, d1, c2, d2, b01]
    · have d2 : ¬ ((T k : Nat) : Int) = q := by omega
      simp [bd, c1, d1, c2, d2, b01]
theorem r_share {x : Nat → Int32} {S O T K Y Z : Nat → Nat} {p n fb ns k j : Nat} (hx : xv x S O T K Y Z p n fb) (ho : xok S O T K Y Z p n fb ns) (hk : k < n) (hj : j < n) : f_M_share (iI k) (iI j) x = some (b01 (!djP (bothP O T) k j)) := by
  have ho2 := ho
  obtain ⟨p5, n10, ns10, f1, s1, b⟩ := ho2
  obtain ⟨b1, b2, -⟩ := b k hk
  obtain ⟨a1, a2, -⟩ := b j hj
  obtain ⟨x1, x2, x3, x4, x5⟩ := hx.2.1 j hj
  unfold f_M_share djP bothP
  simp (disch := omega) only [ck5, ck15, cl5, cl15, x1, x2]
  rw [r_hasOne hx ho hk (by omega), r_hasOne hx ho hk (by omega), dj_iff _ (by omega) _ (by omega) _ (by omega) _ (by omega)]
  simp only [bd, b01_eq0, Bool.not_not]
  cases (O k == O j || T k == O j) <;> cases (O k == T j || T k == T j) <;> simp [b01]
def trM (st : Nat × Nat) (b s : Nat) : Nat × Nat := if pc10 b < pc10 st.1 ∨ (pc10 b = pc10 st.1 ∧ (st.2 < s ∨ (s = st.2 ∧ st.1 ≤ b))) then st else (b, s)
theorem r_tries {b s mn sn ct : Nat} (hb : b < 1024) (hm : mn < 1024) (hs : s < 100000) (hn : sn < 100000) (hc : ct < 100000) : f_M_tries (iI (b : Nat)) (iI (s : Nat)) (iI (mn : Nat)) (iI (sn : Nat)) (iI (ct : Nat)) = some (iI ((trM (mn, sn) b s).1 : Nat), iI ((trM (mn, sn) b s).2 : Nat), iI ((ct + 1 : Nat) : Int)) := by
  have p1 := pc10_le b hb
  have p2 := pc10_le mn hm
  simp only [f_M_tries, lt]
  rw [r_bits b hb, r_bits mn hm]
  simp only [bd]
  simp (disch := omega) only [i_0, i_1, iI_add, iI_sub, iI_lt, iI_eq]
  unfold trM
  simp only
  generalize pc10 b = pb at *
  generalize pc10 mn = pm at *
  by_cases c1 : pb < pm
  · have d1 : (pb : Int) - pm < 0 := by omega
    simp [c1, d1]
  · have d1 : ¬ (pb : Int) - pm < 0 := by omega
    by_cases c2 : pb = pm
    · have d2 : (pb : Int) - pm = 0 := by omega
      by_cases c3 : sn < s
      · have d3 : (sn : Int) < s := by omega
        simp [c1, c2, d1, d2, c3, d3]
      · have d3 : ¬ (sn : Int) < s := by omega
        by_cases c4 : s = sn
        · have d4 : (s : Int) = sn := by omega
          by_cases c5 : b < mn
          · have d5 : (b : Int) < mn := by omega
            have d6 : ¬ mn ≤ b := by omega
            simp [c1, c2, d1, d2, c3, d3, c4, d4, d5, d6]
          · have d5 : ¬ (b : Int) < mn := by omega
            have d6 : mn ≤ b := by omega
            simp [c1, c2, d1, d2, c3, d3, c4, d4, d5, d6]
        · have d4 : ¬ (s : Int) = sn := by omega
          simp [c1, c2, d1, d2, c3, d3, c4, d4]
    · have d2 : ¬ (pb : Int) - pm = 0 := by omega
      simp [c1, c2, d1, d2]
