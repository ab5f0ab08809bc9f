/-! a year of a pair, quarrels by draws -/
def jL (z : Int) : Int64 := Int64.ofInt z
theorem jL_add (a b : Int) : jL a + jL b = jL (a + b) := (Int64.ofInt_add a b).symm
theorem jL_sub (a b : Int) : jL a - jL b = jL (a - b) := (Int64.ofInt_sub a b).symm
theorem jL_mul (a b : Int) : jL a * jL b = jL (a * b) := (Int64.ofInt_mul a b).symm
theorem jL_toInt {a : Int} (h1 : -9223372036854775808 ≤ a) (h2 : a < 9223372036854775808) : (jL a).toInt = a := Int64.toInt_ofInt_of_le (by simpa using h1) (by simpa using h2)
theorem jL_eq {a b : Int} (h1 : -9223372036854775808 ≤ a) (h2 : a < 9223372036854775808) (h3 : -9223372036854775808 ≤ b) (h4 : b < 9223372036854775808) : jL a = jL b ↔ a = b := by
  rw [← Int64.toInt_inj, jL_toInt h1 h2, jL_toInt h3 h4]
theorem jL_div {a b : Nat} (ha : a < 9223372036854775808) (hb : b < 9223372036854775808) : jL a / jL b = jL ((a / b : Nat) : Int) := by
  unfold jL
  rw [show (((a / b : Nat) : Int)) = (a : Int).tdiv (b : Int) from (Int.ofNat_tdiv a b)]
  refine (Int64.ofInt_tdiv ?_ ?_ ?_ ?_).symm <;> simp [Int64.minValue, Int64.maxValue] <;> omega
theorem jL_mod {a b : Nat} (ha : a < 9223372036854775808) (hb : b < 9223372036854775808) : jL a - jL a / jL b * jL b = jL ((a % b : Nat) : Int) := by
  rw [jL_div ha hb, jL_mul, jL_sub]
  congr 1
  have := Nat.div_add_mod a b
  have h2 : b * (a / b) = (a / b) * b := Nat.mul_comm _ _
  have h3 : ((a / b * b : Nat) : Int) = ((a / b : Nat) : Int) * (b : Int) := Int.natCast_mul _ _
  omega
theorem iI_mod {a b : Nat} (ha : a < 2147483648) (h0 : 0 < b) (hb : b < 2147483648) : iI a - iI a / iI b * iI b = iI ((a % b : Nat) : Int) := by
  rw [iI_div ha h0 hb, iI_mul, iI_sub]
  congr 1
  have := Nat.div_add_mod a b
  have h2 : b * (a / b) = (a / b) * b := Nat.mul_comm _ _
  have h3 : ((a / b * b : Nat) : Int) = ((a / b : Nat) : Int) * (b : Int) := Int.natCast_mul _ _
  omega
theorem iI_long {z : Int} (h1 : -2147483648 ≤ z) (h2 : z < 2147483648) : (iI z).toInt64 = jL z := by
  unfold iI jL
  exact Int32.toInt64_ofInt (by simp [Int32.minValue]; omega) (by simp [Int32.maxValue]; omega)
theorem jL_int (z : Int) : (jL z).toInt32 = iI z := Int64.toInt32_ofInt
theorem xv_Y {x : Nat → Int32} {S O T K Y Z : Nat → Nat} {p n fb k y : Nat} (hp : p ≤ 5) (hn : n ≤ 10) (hk : k < n) (h : xv x S O T K Y Z p n fb) : xv (upd x (25 + k) (iI (y : Nat))) S O T K (setN Y k y) Z p n fb := by
  obtain ⟨h1, h2, h3, h4⟩ := h
  refine ⟨fun q hq => by rw [upd_n (by omega)]; exact h1 q hq, fun i hi => ?_, by rw [upd_n (by omega)]; exact h3, by rw [upd_n (by omega)]; exact h4⟩
  obtain ⟨a, b, c, d, f⟩ := h2 i hi
  refine ⟨by rw [upd_n (by omega)]; exact a, by rw [upd_n (by omega)]; exact b, ?_, by rw [upd_n (by omega)]; exact d, by rw [upd_n (by omega)]; exact f⟩
  unfold setN
  by_cases e : i = k
  · subst e; rw [if_pos rfl]; exact upd_s _ _ _
  · rw [if_neg e, upd_n (by omega)]; exact c
theorem xv_Z {x : Nat → Int32} {S O T K Y Z : Nat → Nat} {p n fb k y : Nat} (hp : p ≤ 5) (hn : n ≤ 10) (hk : k < n) (h : xv x S O T K Y Z p n fb) : xv (upd x (35 + k) (iI (y : Nat))) S O T K Y (setN Z k y) p n fb := by
  obtain ⟨h1, h2, h3, h4⟩ := h
  refine ⟨fun q hq => by rw [upd_n (by omega)]; exact h1 q hq, fun i hi => ?_, by rw [upd_n (by omega)]; exact h3, by rw [upd_n (by omega)]; exact h4⟩
  obtain ⟨a, b, c, d, f⟩ := h2 i hi
  refine ⟨by rw [upd_n (by omega)]; exact a, by rw [upd_n (by omega)]; exact b, by rw [upd_n (by omega)]; exact c, ?_, by rw [upd_n (by omega)]; exact f⟩
  unfold setN
  by_cases e : i = k
  · subst e; rw [if_pos rfl]; exact upd_s _ _ _
  · rw [if_neg e, upd_n (by omega)]; exact d
/-- the pairs' years and inches sawn, with what bounds them by B -/
def yz (Y Z : Nat → Nat) (n B : Nat) : Prop := ∀ k, k < n → Z k ≤ Y k ∧ Y k < B
theorem xok_yz {S O T K Y Z Y' Z' : Nat → Nat} {p n fb ns : Nat} (h : xok S O T K Y Z p n fb ns) (h2 : yz Y' Z' n 10000) : xok S O T K Y' Z' p n fb ns := by
  obtain ⟨p5, n10, ns10, f1, s1, b⟩ := h
  refine ⟨p5, n10, ns10, f1, s1, fun k hk => ?_⟩
  have h1 := b k hk
  have h3 := h2 k hk
  exact ⟨h1.1, h1.2.1, h1.2.2.1, h1.2.2.2.1, h3.2, by omega⟩
theorem r_sawsOff {x : Nat → Int32} {S O T K Y Z : Nat → Nat} {p n fb ns k sw : Nat} (hx : xv x S O T K Y Z p n fb) (ho : xok S O T K Y Z p n fb ns) (hk : k < n) (hs : sw < 100) : ∃ x', f_M_sawsOff (iI k) x (iI sw) = some x' ∧ xv x' S O T K Y (if K k = 2 then Z else setN Z k (Z k + min (H0 K Y Z k) sw)) p n fb ∧ x' 57 = x 57 := by
  have hh := r_handleOf hx ho hk
  change f_M_handleOf (iI k) x = some (iI (H0 K Y Z k : Nat)) at hh
  obtain ⟨p5, n10, ns10, f1, s1, b⟩ := ho
  obtain ⟨b1, b2, b3, b4, b5, b6⟩ := b k hk
  obtain ⟨x1, x2, x3, x4, x5⟩ := hx.2.1 k hk
  have hH : H0 K Y Z k < 100000 := H0_lt b5
  unfold f_M_sawsOff
  rw [hh, bd_some]
  simp (disch := omega) only [ck45, cl45, x5, i_2, iI_eq, lt, ck35, cl35, x4]
  by_cases c : K k = 2
  · rw [if_pos (by omega)]
    exact ⟨x, rfl, by rw [if_pos c]; exact hx, rfl⟩
  · rw [if_neg (by omega)]
    have e1 : (if iI (sw : Int) ≤ iI (H0 K Y Z k : Nat) then some (iI (sw : Int)) else some (iI (H0 K Y Z k : Nat)) : Option Int32) = some (iI ((min (H0 K Y Z k) sw : Nat) : Int)) := by
      generalize H0 K Y Z k = h at *
      by_cases d : sw ≤ h
      · rw [if_pos (by rw [iI_le] <;> omega)]; congr 2; omega
      · rw [if_neg (by rw [iI_le] <;> omega)]; congr 2; omega
    rw [e1, bd_some, iI_add]
    refine ⟨_, rfl, ?_, by rw [upd_n (by omega)]⟩
    rw [if_neg c]
    exact xv_Z p5 n10 hk hx
/-- a year more for pair k, with a quarrel or without -/
def yr1 (Y : Nat → Nat) (k : Nat) : Nat → Nat := setN Y k (Y k + 1)
def sw1 (K Y Z : Nat → Nat) (k sw : Nat) (q : Bool) : Nat → Nat := if q then (if K k = 2 then Z else setN Z k (Z k + min (H0 K (yr1 Y k) Z k) sw)) else Z
theorem r_yearOf {x : Nat → Int32} {S O T K Y Z : Nat → Nat} {p n fb ns k sw : Nat} {q : Bool} (hx : xv x S O T K Y Z p n fb) (ho : xok S O T K Y Z p n fb ns) (hk : k < n) (hs : sw < 100) (hy : yz Y Z n 9000) : ∃ x', f_M_yearOf (iI k) (b01 q) x (iI sw) = some x' ∧ xv x' S O T K (yr1 Y k) (sw1 K Y Z k sw q) p n fb := by
  have p5 := ho.1
  have n10 := ho.2.1
  obtain ⟨x1, x2, x3, x4, x5⟩ := hx.2.1 k hk
  have hx2 := xv_Y (y := Y k + 1) p5 n10 hk hx
  have hyk := hy k hk
  unfold f_M_yearOf
  simp (disch := omega) only [lt, ck25, cl25, x3, i_1, iI_add, b01_eq0]
  cases q
  · exact ⟨_, rfl, hx2⟩
  · simp only [Bool.true_eq_false, if_false]
    obtain ⟨x', e1, e2, -⟩ := r_sawsOff (sw := sw) hx2 (xok_yz ho (fun i hi => by
      have := hy i hi
      show Z i ≤ yr1 Y k i ∧ yr1 Y k i < 10000
      unfold yr1 setN; split
      · rename_i e; subst e; omega
      · omega)) hk hs
    refine ⟨x', ?_, e2⟩
    have e1' : f_M_sawsOff (iI k) (upd x (25 + k) (iI ((Y k : Int) + 1))) (iI sw) = some x' := e1
    rw [e1']
    rfl
theorem sw1_hnd {K Y Z : Nat → Nat} {k sw : Nat} {q : Bool} (h : Z k ≤ Y k) : H0 K (yr1 Y k) (sw1 K Y Z k sw q) k = if K k = 2 then 1 else if q then (H0 K Y Z k + 1) - min (H0 K Y Z k + 1) sw else H0 K Y Z k + 1 := by
  unfold sw1 H0 hnd yr1 setN
  by_cases c : K k = 2
  · simp [c]
  · cases q
    · simp [c]; omega
    · simp [c]; omega
theorem sw1_oth {K Y Z : Nat → Nat} {k sw i : Nat} {q : Bool} (h : i ≠ k) : H0 K (yr1 Y k) (sw1 K Y Z k sw q) i = H0 K Y Z i ∧ yr1 Y k i = Y i ∧ sw1 K Y Z k sw q i = Z i := by
  have e1 : yr1 Y k i = Y i := by unfold yr1 setN; rw [if_neg h]
  have e2 : sw1 K Y Z k sw q i = Z i := by
    unfold sw1; split
    · split
      · rfl
      · unfold setN; rw [if_neg h]
    · rfl
  refine ⟨?_, e1, e2⟩
  unfold H0 hnd
  rw [e1, e2]
theorem sw1_le {K Y Z : Nat → Nat} {k sw : Nat} {q : Bool} (h : Z k ≤ Y k) : sw1 K Y Z k sw q k ≤ yr1 Y k k := by
  unfold sw1 H0 hnd yr1 setN
  by_cases c : K k = 2
  · cases q <;> simp [c] <;> omega
  · cases q <;> simp [c] <;> omega
