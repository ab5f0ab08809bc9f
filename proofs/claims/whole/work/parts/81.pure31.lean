/-! quarrels by chance: lowest terms -/
theorem cmp0 {r : Nat} (h : r < 9223372036854775808) : (lg_cmp (jL (r : Nat)) 0 = 0) = (r = 0) := by
  have e0 : (0 : Int64) = jL 0 := rfl
  unfold lg_cmp
  rw [e0]
  have h2 : (jL (r : Nat) = jL 0) ↔ ((r : Int) = 0) := jL_eq (by omega) (by omega) (by omega) (by omega)
  by_cases c : r = 0
  · subst c
    have : ¬ jL ((0 : Nat) : Int) > jL 0 := by
      intro h
      exact Int64.lt_irrefl h
    rw [if_neg this, if_pos (by rfl)]
    simp
  · have h3 : jL (r : Nat) > jL 0 := by
      show jL 0 < jL (r : Nat)
      rw [Int64.lt_iff_toInt_lt, jL_toInt (by omega) (by omega), jL_toInt (by omega) (by omega)]
      omega
    rw [if_pos h3]
    simp [c]
theorem nzL_r {α : Type} {r : Nat} {k : Option α} (h : r < 9223372036854775808) (h0 : r ≠ 0) : nzL (jL (r : Nat)) k = k := by
  unfold nzL
  rw [if_neg]
  have e0 : (0 : Int64) = jL 0 := rfl
  rw [e0, jL_eq (by omega) (by omega) (by omega) (by omega)]
  omega
theorem half_mod {k r x : Nat} (hr : r < 2 ^ (k + 1)) (hx : x < r) (h0 : 0 < x) : r % x < 2 ^ k := by
  have hp : 2 ^ (k + 1) = 2 * 2 ^ k := by rw [Nat.pow_succ]; omega
  by_cases c : x ≤ 2 ^ k
  · exact Nat.lt_of_lt_of_le (Nat.mod_lt _ h0) c
  · rw [Nat.mod_eq_sub_mod (by omega)]
    exact Nat.lt_of_le_of_lt (Nat.mod_le _ _) (by omega)
theorem gcd_1 (d r : Nat) : Nat.gcd d r = Nat.gcd r (d % r) := by
  rw [Nat.gcd_comm d r, Nat.gcd_rec r d, Nat.gcd_comm]
theorem q_low : ∀ (k d r j f : Nat), r < 2 ^ k → r < 9223372036854775808 → d < 9223372036854775808 → 2 * k + j ≤ 198 → 2 * k + 2 ≤ f → f_X_lowestTerm_L9 f (jL (d : Nat)) (jL (r : Nat)) (iI (j : Nat)) = some (jL (Nat.gcd d r : Nat)) := by
  have i200 : (200 : Int32) = iI 200 := rfl
  intro k
  induction k with
  | zero =>
    intro d r j f h1 h2 h3 h4 h5
    obtain ⟨f, rfl⟩ : ∃ f', f = f' + 1 := ⟨f - 1, by omega⟩
    have : r = 0 := by simp at h1; exact h1
    subst this
    rw [f_X_lowestTerm_L9, i200, if_neg (by rw [iI_le] <;> omega), if_pos (by rw [cmp0 h2]), bd_some, if_pos rfl, Nat.gcd_zero_right]
  | succ k ih =>
    intro d r j f h1 h2 h3 h4 h5
    obtain ⟨f, rfl⟩ : ∃ f', f = f' + 1 + 1 := ⟨f - 2, by omega⟩
    rw [f_X_lowestTerm_L9, i200, if_neg (by rw [iI_le] <;> omega)]
    by_cases c : r = 0
    · subst c
      rw [if_pos (by rw [cmp0 h2]), bd_some, if_pos rfl, Nat.gcd_zero_right]
    · have hm : d % r < r := Nat.mod_lt _ (by omega)
      rw [if_neg (by rw [cmp0 h2]; exact c), bd_some, if_neg (by simp), nzL_r h2 c]
      simp only [lt]
      rw [jL_mod h3 h2, i_1, iI_add, show ((j : Int) + 1) = ((j + 1 : Nat) : Int) by omega, f_X_lowestTerm_L9, i200, if_neg (by rw [iI_le] <;> omega)]
      by_cases c2 : d % r = 0
      · rw [if_pos (by rw [cmp0 (by omega)]; exact c2), bd_some, if_pos rfl, gcd_1, c2, Nat.gcd_zero_right]
      · rw [if_neg (by rw [cmp0 (by omega)]; exact c2), bd_some, if_neg (by simp), nzL_r (by omega) c2]
        simp only [lt]
        have hm2 : r % (d % r) < d % r := Nat.mod_lt _ (by omega)
        rw [jL_mod h2 (by omega), i_1, iI_add, show (((j + 1 : Nat) : Int) + 1) = ((j + 2 : Nat) : Int) by omega]
        rw [ih _ _ _ _ (half_mod h1 hm (by omega)) (by omega) (by omega) (by omega) (by omega), gcd_1 d r, gcd_1 r (d % r)]
theorem r_com : ∀ (k d r f : Nat), r < 2 ^ k → r < 9223372036854775808 → d < 9223372036854775808 → 2 * k + 2 ≤ f → f_M_common_L6 f (jL (d : Nat)) (jL (r : Nat)) = some (jL (Nat.gcd d r : Nat)) := by
  intro k
  induction k with
  | zero =>
    intro d r f h1 h2 h3 h5
    obtain ⟨f, rfl⟩ : ∃ f', f = f' + 1 := ⟨f - 1, by omega⟩
    have : r = 0 := by simp at h1; exact h1
    subst this
    rw [f_M_common_L6, if_pos (by rw [cmp0 h2]), Nat.gcd_zero_right]
  | succ k ih =>
    intro d r f h1 h2 h3 h5
    obtain ⟨f, rfl⟩ : ∃ f', f = f' + 1 + 1 := ⟨f - 2, by omega⟩
    rw [f_M_common_L6]
    by_cases c : r = 0
    · subst c
      rw [if_pos (by rw [cmp0 h2]), Nat.gcd_zero_right]
    · have hm : d % r < r := Nat.mod_lt _ (by omega)
      rw [if_neg (by rw [cmp0 h2]; exact c), nzL_r h2 c]
      simp only [lt]
      rw [jL_mod h3 h2, f_M_common_L6]
      by_cases c2 : d % r = 0
      · rw [if_pos (by rw [cmp0 (by omega)]; exact c2), gcd_1, c2, Nat.gcd_zero_right]
      · rw [if_neg (by rw [cmp0 (by omega)]; exact c2), nzL_r (by omega) c2]
        simp only [lt]
        have hm2 : r % (d % r) < d % r := Nat.mod_lt _ (by omega)
        rw [jL_mod h2 (by omega)]
        rw [ih _ _ _ (half_mod h1 hm (by omega)) (by omega) (by omega) (by omega), gcd_1 d r, gcd_1 r (d % r)]
theorem q_lowest {U W : Nat} {l : Int32} (hU : U < 9223372036854775808) (hW : W < 9223372036854775808) (hW0 : 0 < W) : f_X_lowestTerm (jL (U : Nat)) (jL (W : Nat)) l = some (jL (((if l = 0 then U else W) / Nat.gcd U W : Nat) : Int)) := by
  have h := q_low 63 W U 0 fu (by have : (2 : Nat) ^ 63 = 9223372036854775808 := by decide
                                  omega) hU hW (by omega) (by have := fu_big; omega)
  have h : f_X_lowestTerm_L9 fu (jL (W : Nat)) (jL (U : Nat)) (0 : Int32) = some (jL (Nat.gcd W U : Nat)) := h
  have hg : Nat.gcd W U ≤ W := Nat.le_of_dvd hW0 (Nat.gcd_dvd_left W U)
  have hg0 : 0 < Nat.gcd W U := Nat.gcd_pos_of_pos_left _ hW0
  unfold f_X_lowestTerm
  rw [h, bd_some, if_neg (by rw [cmp0 (by omega)]; omega), nzL_r (by omega) (by omega), nzL_r (by omega) (by omega), jL_div hU (by omega), jL_div hW (by omega), Nat.gcd_comm U W]
  by_cases c : l = 0
  · rw [if_pos c, if_pos c]
  · rw [if_neg c, if_neg c]
theorem r_fraction {U W : Nat} {l : Int32} (hU : U < 9223372036854775808) (hW : W < 9223372036854775808) (hW0 : 0 < W) : f_M_fraction (jL (U : Nat)) (jL (W : Nat)) l = some (jL (((if l = 0 then U else W) / Nat.gcd U W : Nat) : Int), 0, -1) := by
  have h := r_com 63 U W fu (by have : (2 : Nat) ^ 63 = 9223372036854775808 := by decide
                                omega) hW hU (by have := fu_big; omega)
  have hg : Nat.gcd U W ≤ W := Nat.le_of_dvd hW0 (Nat.gcd_dvd_right U W)
  have hg0 : 0 < Nat.gcd U W := Nat.gcd_pos_of_pos_right _ hW0
  unfold f_M_fraction f_M_good f_M_common
  rw [h, bd_some]
  by_cases c : l = 0
  · rw [if_pos c, if_pos c, bd_some, bd_some, bd_some, nzL_r (by omega) (by omega), jL_div hU (by omega)]
  · rw [if_neg c, if_neg c, bd_some, bd_some, bd_some, nzL_r (by omega) (by omega), jL_div hW (by omega)]
theorem hund : ∀ m : Nat, m < 9 → f_X_hundredTo (iI (m : Int)) = some (jL ((100 ^ m : Nat) : Int)) ∧ f_M_whole (iI (m : Int)) = some (jL ((100 ^ m : Nat) : Int)) := by decide +kernel
/-! what is expected -/
def lnN (k2 : Bool) (h : Nat) : Nat := if k2 then h else h + 1
def swN (k2 : Bool) (sw h : Nat) : Nat := if k2 then h else (h + 1) - min (h + 1) sw
def exN (k2 : Bool) (sw qc : Nat) (base : Nat → Nat) : Nat → Nat → Nat
  | 0, h => base h
  | m + 1, h => qc * exN k2 sw qc base m (swN k2 sw h) + (100 - qc) * exN k2 sw qc base m (lnN k2 h)
def tmN (k2 : Bool) (sw qc : Nat) (base : Nat → Nat) : Nat → Nat → Nat → Nat
  | 0, _, h => base h
  | m + 1, s, h => (if s % 2 = 1 then qc else 100 - qc) * tmN k2 sw qc base m (s / 2) (if s % 2 = 1 then swN k2 sw h else lnN k2 h)
def sumT (g : Nat → Nat) : Nat → Nat
  | 0 => 0
  | j + 1 => sumT g j + g j
theorem sumT_2 (g : Nat → Nat) : ∀ N, sumT g (2 * N) = sumT (fun s => g (2 * s) + g (2 * s + 1)) N := by
  intro N
  induction N with
  | zero => rfl
  | succ N ih =>
    rw [show 2 * (N + 1) = 2 * N + 1 + 1 by omega, sumT, sumT, sumT, ih]
    omega
theorem sumT_lin (a b : Nat) (f g : Nat → Nat) : ∀ N, sumT (fun s => a * f s + b * g s) N = a * sumT f N + b * sumT g N := by
  intro N
  induction N with
  | zero => simp [sumT]
  | succ N ih =>
    rw [sumT, sumT, sumT, ih, Nat.mul_add, Nat.mul_add]
    omega
theorem sumT_ex {k2 : Bool} {sw qc : Nat} {base : Nat → Nat} : ∀ m h, sumT (fun s => tmN k2 sw qc base m s h) (2 ^ m) = exN k2 sw qc base m h := by
  intro m
  induction m with
  | zero => intro h; simp [sumT, tmN, exN]
  | succ m ih =>
    intro h
    rw [Nat.pow_succ, Nat.mul_comm, sumT_2]
    have e : (fun s => tmN k2 sw qc base (m + 1) (2 * s) h + tmN k2 sw qc base (m + 1) (2 * s + 1) h) = (fun s => (100 - qc) * tmN k2 sw qc base m s (lnN k2 h) + qc * tmN k2 sw qc base m s (swN k2 sw h)) := by
      funext s
      rw [tmN, tmN, show 2 * s % 2 = 0 by omega, show (2 * s + 1) % 2 = 1 by omega, show 2 * s / 2 = s by omega, show (2 * s + 1) / 2 = s by omega]
      simp
    rw [e, sumT_lin, ih, ih, exN]
    omega
theorem exN_le {k2 : Bool} {sw qc B : Nat} {base : Nat → Nat} (hq : qc ≤ 100) : ∀ m h, (∀ h', h' ≤ h + m → base h' ≤ B) → exN k2 sw qc base m h ≤ 100 ^ m * B := by
  intro m
  induction m with
  | zero => intro h hb; simp [exN]; exact hb h (by omega)
  | succ m ih =>
    intro h hb
    have h1 := ih (swN k2 sw h) (fun h' hh => hb h' (by have : swN k2 sw h ≤ h + 1 := by unfold swN; split <;> omega
                                                        omega))
    have h2 := ih (lnN k2 h) (fun h' hh => hb h' (by have : lnN k2 h ≤ h + 1 := by unfold lnN; split <;> omega
                                                     omega))
    rw [exN, Nat.pow_succ]
    have h3 := Nat.mul_le_mul_left qc h1
    have h4 := Nat.mul_le_mul_left (100 - qc) h2
    have h5 : qc * (100 ^ m * B) + (100 - qc) * (100 ^ m * B) = 100 ^ m * 100 * B := by
      rw [← Nat.add_mul, show qc + (100 - qc) = 100 by omega, ← Nat.mul_assoc, Nat.mul_comm 100 (100 ^ m)]
    omega
