/-! the reference: all of pairs and seats in one row -/
theorem cl5 {k : Nat} (h : k < 10) : ((5 : Int32) + iI k).toNatClampNeg = 5 + k := by
  rw [show (5 : Int32) = iI ((5 : Nat) : Int) from rfl, iI_add, show ((5 : Nat) : Int) + (k : Int) = ((5 + k : Nat) : Int) by omega, iI_cl (by omega)]
theorem ck5 {α : Type} {r : Option α} {k : Nat} (h : k < 10) : ck ((5 : Int32) + iI k) 58 r = r := by
  rw [show (5 : Int32) = iI ((5 : Nat) : Int) from rfl, iI_add, show ((5 : Nat) : Int) + (k : Int) = ((5 + k : Nat) : Int) by omega, iI_ck (by omega) (by omega)]
theorem cl15 {k : Nat} (h : k < 10) : ((15 : Int32) + iI k).toNatClampNeg = 15 + k := by
  rw [show (15 : Int32) = iI ((15 : Nat) : Int) from rfl, iI_add, show ((15 : Nat) : Int) + (k : Int) = ((15 + k : Nat) : Int) by omega, iI_cl (by omega)]
theorem ck15 {α : Type} {r : Option α} {k : Nat} (h : k < 10) : ck ((15 : Int32) + iI k) 58 r = r := by
  rw [show (15 : Int32) = iI ((15 : Nat) : Int) from rfl, iI_add, show ((15 : Nat) : Int) + (k : Int) = ((15 + k : Nat) : Int) by omega, iI_ck (by omega) (by omega)]
theorem cl25 {k : Nat} (h : k < 10) : ((25 : Int32) + iI k).toNatClampNeg = 25 + k := by
  rw [show (25 : Int32) = iI ((25 : Nat) : Int) from rfl, iI_add, show ((25 : Nat) : Int) + (k : Int) = ((25 + k : Nat) : Int) by omega, iI_cl (by omega)]
theorem ck25 {α : Type} {r : Option α} {k : Nat} (h : k < 10) : ck ((25 : Int32) + iI k) 58 r = r := by
  rw [show (25 : Int32) = iI ((25 : Nat) : Int) from rfl, iI_add, show ((25 : Nat) : Int) + (k : Int) = ((25 + k : Nat) : Int) by omega, iI_ck (by omega) (by omega)]
theorem cl35 {k : Nat} (h : k < 10) : ((35 : Int32) + iI k).toNatClampNeg = 35 + k := by
  rw [show (35 : Int32) = iI ((35 : Nat) : Int) from rfl, iI_add, show ((35 : Nat) : Int) + (k : Int) = ((35 + k : Nat) : Int) by omega, iI_cl (by omega)]
theorem ck35 {α : Type} {r : Option α} {k : Nat} (h : k < 10) : ck ((35 : Int32) + iI k) 58 r = r := by
  rw [show (35 : Int32) = iI ((35 : Nat) : Int) from rfl, iI_add, show ((35 : Nat) : Int) + (k : Int) = ((35 + k : Nat) : Int) by omega, iI_ck (by omega) (by omega)]
theorem cl45 {k : Nat} (h : k < 10) : ((45 : Int32) + iI k).toNatClampNeg = 45 + k := by
  rw [show (45 : Int32) = iI ((45 : Nat) : Int) from rfl, iI_add, show ((45 : Nat) : Int) + (k : Int) = ((45 + k : Nat) : Int) by omega, iI_cl (by omega)]
theorem ck45 {α : Type} {r : Option α} {k : Nat} (h : k < 10) : ck ((45 : Int32) + iI k) 58 r = r := by
  rw [show (45 : Int32) = iI ((45 : Nat) : Int) from rfl, iI_add, show ((45 : Nat) : Int) + (k : Int) = ((45 + k : Nat) : Int) by omega, iI_ck (by omega) (by omega)]
theorem ck55 {α : Type} {r : Option α} : ck (55 : Int32) 58 r = r := iI_ck (j := 55) (by omega) (by omega)
theorem cl55 : (55 : Int32).toNatClampNeg = 55 := by decide
theorem ck56 {α : Type} {r : Option α} : ck (56 : Int32) 58 r = r := iI_ck (j := 56) (by omega) (by omega)
theorem cl56 : (56 : Int32).toNatClampNeg = 56 := by decide
theorem ck57 {α : Type} {r : Option α} : ck (57 : Int32) 58 r = r := iI_ck (j := 57) (by omega) (by omega)
theorem cl57 : (57 : Int32).toNatClampNeg = 57 := by decide
/-- the row holds seats S of p people, n pairs, the forks' bits -/
def xv (x : Nat → Int32) (S O T K Y Z : Nat → Nat) (p n fb : Nat) : Prop := (∀ q, q < p → x q = iI (S q)) ∧ (∀ k, k < n → x (5 + k) = iI (O k) ∧ x (15 + k) = iI (T k) ∧ x (25 + k) = iI (Y k) ∧ x (35 + k) = iI (Z k) ∧ x (45 + k) = iI (K k)) ∧ x 55 = iI n ∧ x 56 = iI fb
/-- what numbers they can be -/
def xok (S O T K Y Z : Nat → Nat) (p n fb ns : Nat) : Prop := p ≤ 5 ∧ n ≤ 10 ∧ ns ≤ 10 ∧ fb < 2 ^ ns ∧ (∀ q, q < p → S q < ns) ∧ ∀ k, k < n → O k < p ∧ T k < p ∧ O k ≠ T k ∧ K k < 3 ∧ Y k < 10000 ∧ Z k < 10000
theorem r_handleOf {x : Nat → Int32} {S O T K Y Z : Nat → Nat} {p n fb ns k : Nat} (hx : xv x S O T K Y Z p n fb) (ho : xok S O T K Y Z p n fb ns) (hk : k < n) : f_M_handleOf (iI k) x = some (iI ((hnd K Y Z k 0 : Nat) : Int)) := by
  obtain ⟨p5, n10, ns10, f1, s1, b⟩ := ho
  obtain ⟨b1, b2, b3, b4, b5, b6⟩ := b k hk
  obtain ⟨x1, x2, x3, x4, x5⟩ := hx.2.1 k hk
  unfold f_M_handleOf hnd
  simp (disch := omega) only [ck45, ck25, ck35, cl45, cl25, cl35, x3, x4, x5, i_2, iI_eq, iI_le, iI_sub]
  by_cases c : K k = 2
  · rw [if_pos (by omega), if_pos c]; rfl
  · rw [if_neg (by omega), if_neg c]
    by_cases c2 : Y k ≤ Z k
    · rw [if_pos (by omega), i_0]; congr 2; omega
    · rw [if_neg (by omega)]; congr 2; omega
theorem r_farOf {x : Nat → Int32} {a b A B : Nat} (ha : a < 58) (hb : b < 58) (h1 : x a = iI (A : Nat)) (h2 : x b = iI (B : Nat)) (hA : A < 10000) (hB : B < 10000) : f_M_farOf (iI (a : Nat)) (iI (b : Nat)) x = some (iI ((dst A B : Nat) : Int)) := by
  unfold f_M_farOf dst
  simp (disch := omega) only [iI_ck, iI_cl, h1, h2, iI_le, iI_sub]
  by_cases c : A ≤ B
  · rw [if_pos (by omega), if_pos c]; congr 2; omega
  · rw [if_neg (by omega), if_neg c]; congr 2; omega
theorem r_farPair {x : Nat → Int32} {S O T K Y Z : Nat → Nat} {p n fb ns k : Nat} (hx : xv x S O T K Y Z p n fb) (ho : xok S O T K Y Z p n fb ns) (hk : k < n) : f_M_farPair (iI k) x = some (iI ((dst (S (O k)) (S (T k)) : Nat) : Int)) := by
  obtain ⟨p5, n10, ns10, f1, s1, b⟩ := ho
  obtain ⟨b1, b2, b3, b4, b5, b6⟩ := b k hk
  obtain ⟨x1, x2, x3, x4, x5⟩ := hx.2.1 k hk
  have s2 := s1 _ b1
  have s3 := s1 _ b2
  unfold f_M_farPair
  simp (disch := omega) only [ck5, ck15, cl5, cl15, x1, x2]
  rw [r_farOf (by omega) (by omega) (hx.1 _ b1) (hx.1 _ b2) (by omega) (by omega)]
  rfl
theorem r_in {a b c : Int} (h1 : -1000000 ≤ a ∧ a < 1000000) (h2 : -1000000 ≤ b ∧ b < 1000000) (h3 : -1000000 ≤ c ∧ c < 1000000) : f_M_in (iI a) (iI b) (iI c) = some (b01 (decide (b ≤ a ∧ a ≤ c))) := by
  unfold f_M_in b01
  simp (disch := omega) only [iI_lt]
  by_cases c1 : a < b
  · have c3 : ¬ (b ≤ a ∧ a ≤ c) := by omega
    rw [if_pos c1]
    simp [bd, c3]
  · rw [if_neg c1]
    by_cases c2 : c < a
    · have c3 : ¬ (b ≤ a ∧ a ≤ c) := by omega
      rw [if_pos c2]
      simp [bd, c3]
    · have c3 : b ≤ a ∧ a ≤ c := by omega
      rw [if_neg c2]
      simp [bd, c3]
theorem r_feedsBy {x : Nat → Int32} {S O T K Y Z : Nat → Nat} {p n fb ns k h sl : Nat} (hx : xv x S O T K Y Z p n fb) (ho : xok S O T K Y Z p n fb ns) (hk : k < n) (hh : h < 100000) (hs : sl < 10) : f_M_feedsBy (iI k) (iI h) x (iI sl) = some (b01 (rch (K k) h (dst (S (O k)) (S (T k))) sl)) := by
  have hF := r_farPair hx ho hk
  obtain ⟨p5, n10, ns10, f1, s1, b⟩ := ho
  obtain ⟨b1, b2, b3, b4, b5, b6⟩ := b k hk
  obtain ⟨x1, x2, x3, x4, x5⟩ := hx.2.1 k hk
  have hd : dst (S (O k)) (S (T k)) < 10 := dst_lt (by have := s1 _ b1; omega) (by have := s1 _ b2; omega)
  unfold f_M_feedsBy
  rw [hF]
  generalize dst (S (O k)) (S (T k)) = d at *
  have e2 : iI (h : Int) / (2 : Int32) = iI ((h / 2 : Nat) : Int) := by rw [i_2]; exact iI_div (b := 2) (by omega) (by omega) (by omega)
  simp only [bd]
  rw [e2, iI_sub, iI_sub, iI_neg, r_in (by omega) (by omega) (by omega), r_in (by omega) (by omega) (by omega)]
  simp (disch := omega) only [ck45, cl45, x5, i_1, iI_eq]
  unfold rch
  generalize h / 2 = g
  by_cases c1 : d ≤ h + sl ∧ h ≤ d + sl
  · have c2 : -(sl : Int) ≤ (d : Int) - h ∧ (d : Int) - h ≤ sl := by omega
    simp [c1, c2, b01, one_ne, i_0]
    decide
  · have c2 : ¬ (-(sl : Int) ≤ (d : Int) - h ∧ (d : Int) - h ≤ sl) := by omega
    by_cases k1 : K k = 1
    · have k2 : ((K k : Nat) : Int) = 1 := by omega
      by_cases c3 : d ≤ g + sl ∧ g ≤ d + sl
      · have c4 : -(sl : Int) ≤ (d : Int) - g ∧ (d : Int) - g ≤ sl := by omega
        simp [c1, c2, c3, c4, k1, k2, b01, one_ne, i_0]
        decide
      · have c4 : ¬ (-(sl : Int) ≤ (d : Int) - g ∧ (d : Int) - g ≤ sl) := by omega
        simp [c1, c2, c3, c4, k1, k2, b01, one_ne, i_0]
    · have k2 : ¬ ((K k : Nat) : Int) = 1 := by omega
      simp [c1, c2, k1, k2, b01, one_ne, i_0]
def H0 (K Y Z : Nat → Nat) (k : Nat) : Nat := hnd K Y Z k 0
theorem H0_lt {K Y Z : Nat → Nat} {k : Nat} (h : Y k < 10000) : H0 K Y Z k < 100000 := by unfold H0 hnd; split <;> omega
theorem r_isFeeding {x : Nat → Int32} {S O T K Y Z : Nat → Nat} {p n fb ns k sl : Nat} (hx : xv x S O T K Y Z p n fb) (ho : xok S O T K Y Z p n fb ns) (hk : k < n) (hs : sl < 10) : f_M_isFeeding (iI k) x (iI sl) = some (b01 (canP S O T K (H0 K Y Z) sl k)) := by
  unfold f_M_isFeeding
  rw [r_handleOf hx ho hk]
  simp only [bd]
  have hb := ho.2.2.2.2.2 k hk
  have h1 : hnd K Y Z k 0 < 100000 := H0_lt (by omega)
  rw [r_feedsBy hx ho hk h1 hs]
  rfl
