/-! numbers: every int is iI of an integer -/
def iI (z : Int) : Int32 := Int32.ofInt z
theorem iI_nI (n : Nat) : nI n = iI n := by
  apply Int32.toInt_inj.mp
  simp [nI, iI, Int32.toInt_ofInt, Int32.toInt_ofNat']
theorem iI_add (a b : Int) : iI a + iI b = iI (a + b) := (Int32.ofInt_add a b).symm
theorem iI_sub (a b : Int) : iI a - iI b = iI (a - b) := (Int32.ofInt_sub a b).symm
theorem iI_mul (a b : Int) : iI a * iI b = iI (a * b) := (Int32.ofInt_mul a b).symm
theorem iI_neg (a : Int) : - iI a = iI (-a) := (Int32.ofInt_neg a).symm
theorem iI_toInt {a : Int} (h1 : -2147483648 ≤ a) (h2 : a < 2147483648) : (iI a).toInt = a := by
  unfold iI
  rw [Int32.toInt_ofInt, show Int32.size = 4294967296 from rfl]
  exact Int.bmod_eq_of_le (by omega) (by omega)
theorem iI_le {a b : Int} (h1 : -2147483648 ≤ a) (h2 : a < 2147483648) (h3 : -2147483648 ≤ b) (h4 : b < 2147483648) : iI a ≤ iI b ↔ a ≤ b := by
  rw [Int32.le_iff_toInt_le, iI_toInt h1 h2, iI_toInt h3 h4]
theorem iI_lt {a b : Int} (h1 : -2147483648 ≤ a) (h2 : a < 2147483648) (h3 : -2147483648 ≤ b) (h4 : b < 2147483648) : iI a < iI b ↔ a < b := by
  rw [Int32.lt_iff_toInt_lt, iI_toInt h1 h2, iI_toInt h3 h4]
theorem iI_eq {a b : Int} (h1 : -2147483648 ≤ a) (h2 : a < 2147483648) (h3 : -2147483648 ≤ b) (h4 : b < 2147483648) : iI a = iI b ↔ a = b := by
  rw [← Int32.toInt_inj, iI_toInt h1 h2, iI_toInt h3 h4]
theorem iI_cl {j : Nat} (h : j < 2147483648) : (iI j).toNatClampNeg = j := by
  rw [← iI_nI, nI_clamp (by omega)]
theorem iI_ck {α : Type} {k : Option α} {j N : Nat} (h : j < N) (hN : N < 2147483648) : ck (iI j) N k = k := by
  unfold ck
  rw [if_neg]
  rw [← iI_nI]
  exact nI_in h (by omega)
theorem iI_ckz {α : Type} {k : Option α} {z : Int} {N : Nat} (h0 : 0 ≤ z) (h : z < N) (hN : N < 2147483648) : ck (iI z) N k = k := by
  obtain ⟨j, rfl⟩ := Int.eq_ofNat_of_zero_le h0
  exact iI_ck (by omega) hN
theorem iI_clz {z : Int} (h0 : 0 ≤ z) (h : z < 2147483648) : (iI z).toNatClampNeg = z.toNat := by
  obtain ⟨j, rfl⟩ := Int.eq_ofNat_of_zero_le h0
  rw [iI_cl (by omega)]
  simp
theorem iI_div {a b : Nat} (ha : a < 2147483648) (h0 : 0 < b) (hb : b < 2147483648) : iI a / iI b = iI ((a / b : Nat) : Int) := by
  rw [← iI_nI, ← iI_nI, ← iI_nI]
  exact pk_div (by omega) h0 (by omega)
theorem i_0 : (0 : Int32) = iI 0 := rfl
theorem i_1 : (1 : Int32) = iI 1 := rfl
theorem i_2 : (2 : Int32) = iI 2 := rfl
theorem i_3 : (3 : Int32) = iI 3 := rfl
theorem i_4 : (4 : Int32) = iI 4 := rfl
theorem i_5 : (5 : Int32) = iI 5 := rfl
theorem i_6 : (6 : Int32) = iI 6 := rfl
theorem i_7 : (7 : Int32) = iI 7 := rfl
theorem i_8 : (8 : Int32) = iI 8 := rfl
theorem i_9 : (9 : Int32) = iI 9 := rfl
theorem i_10 : (10 : Int32) = iI 10 := rfl
theorem i_16 : (16 : Int32) = iI 16 := rfl
theorem i_20 : (20 : Int32) = iI 20 := rfl
theorem i_26 : (26 : Int32) = iI 26 := rfl
theorem i_60 : (60 : Int32) = iI 60 := rfl
theorem i_100 : (100 : Int32) = iI 100 := rfl
theorem i_m1 : (-1 : Int32) = iI (-1) := rfl
theorem i_m2 : (-2 : Int32) = iI (-2) := rfl
theorem fu_big : (1000000 : Nat) < fu := by decide
/-! the table in plain numbers -/
def dst (a b : Nat) : Nat := if a ≤ b then b - a else a - b
/-- whether a pair of a kind with a handle h feeds over d with slack sl -/
def rch (ki h d sl : Nat) : Bool := decide (d ≤ h + sl ∧ h ≤ d + sl) || (ki == 1 && decide (d ≤ h / 2 + sl ∧ h / 2 ≤ d + sl))
def b01 (b : Bool) : Int32 := if b then 1 else 0
theorem q_reaches {ki h d sl : Nat} (hk : ki < 3) (hh : h < 100000) (hd : d < 100000) (hs : sl < 100000) : f_X_reaches (iI ki) (iI h) (iI d) (iI sl) = some (b01 (rch ki h d sl)) := by
  unfold f_X_reaches rch b01
  have e2 : iI (h : Int) / (2 : Int32) = iI ((h / 2 : Nat) : Int) := by rw [i_2]; exact iI_div (b := 2) (by omega) (by omega) (by omega)
  rw [e2]
  generalize hg : h / 2 = g
  have hg2 : g < 100000 := by omega
  simp (disch := omega) only [i_0, i_1, iI_sub, iI_le, iI_lt, iI_eq]
  by_cases c1 : d ≤ h + sl ∧ h ≤ d + sl
  · have c0 : (if (0 : Int) ≤ (d : Int) - h then iI ((d : Int) - h) else iI (0 - ((d : Int) - h))) ≤ iI sl := by
      split <;> (rw [iI_le] <;> omega)
    rw [if_pos c0]
    simp [bd, c1]
  · have c0 : ¬ (if (0 : Int) ≤ (d : Int) - h then iI ((d : Int) - h) else iI (0 - ((d : Int) - h))) ≤ iI sl := by
      split <;> (rw [iI_le] <;> omega)
    rw [if_neg c0]
    by_cases k1 : ki = 1
    · subst k1
      by_cases c2 : d ≤ g + sl ∧ g ≤ d + sl
      · have c3 : ¬ iI sl < (if (0 : Int) ≤ (d : Int) - g then iI ((d : Int) - g) else iI (0 - ((d : Int) - g))) := by
          split <;> (rw [iI_lt] <;> omega)
        rw [if_neg c3]
        simp [bd, c1, c2]
      · have c3 : iI sl < (if (0 : Int) ≤ (d : Int) - g then iI ((d : Int) - g) else iI (0 - ((d : Int) - g))) := by
          split <;> (rw [iI_lt] <;> omega)
        rw [if_pos c3]
        simp [bd, c1, c2]
    · have k2 : ¬ (ki : Int) = 1 := by omega
      rw [if_neg k2]
      simp [bd, c1, k1]
theorem q_within {z : Int} {n : Nat} (h1 : -2147483648 ≤ z) (h2 : z < 2147483648) (hn : n < 2147483648) : f_X_within (iI z) (iI n) = some (b01 (decide (0 ≤ z ∧ z ≤ n))) := by
  unfold f_X_within b01
  simp (disch := omega) only [i_0, i_1, iI_lt]
  by_cases c1 : z < 0
  · have c3 : ¬ (0 ≤ z ∧ z ≤ n) := by omega
    rw [if_pos c1]
    simp [bd, c3]
  · rw [if_neg c1]
    by_cases c2 : (n : Int) < z
    · have c3 : ¬ (0 ≤ z ∧ z ≤ n) := by omega
      rw [if_pos c2]
      simp [bd, c3]
    · have c3 : 0 ≤ z ∧ z ≤ n := by omega
      rw [if_neg c2]
      simp [bd, c3]
