/-! tokens, class and reference -/
theorem skN_in {P : Nat → Bool} {e : Nat} : ∀ k a i, a ≤ i → i < skN P e k a → P i = true := by
  intro k
  induction k with
  | zero => intro a i h1 h2; unfold skN at h2; omega
  | succ k ih =>
    intro a i h1 h2
    unfold skN at h2
    by_cases c : e ≤ a
    · rw [if_pos c] at h2; omega
    · rw [if_neg c] at h2
      by_cases d : P a = true
      · rw [if_pos d] at h2
        by_cases f : i = a
        · rw [f]; exact d
        · exact ih (a + 1) i (by omega) h2
      · rw [if_neg d] at h2; omega
theorem by_nat {t : Nat → Int32} (ht : byOK t) (j : Nat) {a b : Nat} (ha : a < 128) (hb : b < 128) (h : iI (a : Nat) ≤ t j ∧ t j ≤ iI (b : Nat)) : ∃ x : Nat, a ≤ x ∧ x ≤ b ∧ t j = iI (x : Nat) := by
  obtain ⟨n, hn, e⟩ := ht j
  rw [e, iI_le (by omega) (by omega) (by omega) (by omega), iI_le (by omega) (by omega) (by omega) (by omega)] at h
  exact ⟨n - 128, by omega, by omega, by rw [e]; exact congrArg iI (by omega)⟩
theorem pk_WR {t : Nat → Int32} (ht : byOK t) : ∀ k a l, lwO l → l.length + k ≤ 8 → (∀ i, a ≤ i → i < a + k → (97 : Int32) ≤ t i ∧ t i ≤ 122) → ∃ l', lwO l' ∧ l'.length = l.length + k ∧ pkC t k a (jL (cvW l : Nat)) = jL (cvW l' : Nat) ∧ pkM t k a (jL (mvW l : Nat)) = jL (mvW l' : Nat) := by
  intro k
  induction k with
  | zero => intro a l h1 h2 h3; exact ⟨l, h1, rfl, rfl, rfl⟩
  | succ k ih =>
    intro a l h1 h2 h3
    obtain ⟨x, x1, x2, e⟩ := by_nat ht a (a := 97) (b := 122) (by omega) (by omega) (h3 a (by omega) (by omega))
    have hl : lwO (x :: l) := fun y hy => by
      rcases List.mem_cons.mp hy with rfl | hy
      · exact ⟨x1, x2⟩
      · exact h1 y hy
    obtain ⟨l', g1, g2, g3, g4⟩ := ih (a + 1) (x :: l) hl (by show l.length + 1 + k ≤ 8; omega) (fun i i1 i2 => h3 i (by omega) (by omega))
    refine ⟨l', g1, by rw [g2]; show l.length + 1 + k = _; omega, ?_, ?_⟩
    · show pkC t k (a + 1) ((jL (cvW l : Nat) <<< ((8 : Int32).toInt64 &&& 63)) ||| (t a).toInt64) = _
      have b1 := cvW_lt l h1
      have b2 : 256 ^ l.length ≤ 256 ^ 7 := Nat.pow_le_pow_right (by omega) (by omega)
      have b3 : 256 ^ 7 = 72057594037927936 := by decide
      rw [e, iI_long (by omega) (by omega), jL_app (by omega) (by omega)]
      exact g3
    · show pkM t k (a + 1) ((32 : Int64) * jL (mvW l : Nat) + ((t a - 97) + 1).toInt64) = _
      rw [e, show iI (x : Nat) - 97 + 1 = iI ((x - 96 : Nat) : Int) by
        rw [show (97 : Int32) = iI 97 from rfl, i_1, iI_sub, iI_add]; exact congrArg iI (by omega), iI_long (by omega) (by omega), show (32 : Int64) = jL 32 from rfl, jL_mul, jL_add, show (32 : Int) * (mvW l : Nat) + ((x - 96 : Nat) : Int) = ((mvW (x :: l) : Nat) : Int) by
        show _ = ((mvW l * 32 + (x - 96) : Nat) : Int); omega]
      exact g4
theorem pk_num {t : Nat → Int32} (ht : byOK t) : ∀ k a j w, w < 10 ^ j → j + k ≤ 3 → (∀ i, a ≤ i → i < a + k → (48 : Int32) ≤ t i ∧ t i ≤ 57) → ∃ v : Nat, v < 1000 ∧ pkN t k a (iI (w : Nat)) = iI (v : Nat) := by
  intro k
  induction k with
  | zero =>
    intro a j w h1 h2 h3
    have b2 : 10 ^ j ≤ 10 ^ 3 := Nat.pow_le_pow_right (by omega) (by omega)
    exact ⟨w, by omega, rfl⟩
  | succ k ih =>
    intro a j w h1 h2 h3
    obtain ⟨x, x1, x2, e⟩ := by_nat ht a (a := 48) (b := 57) (by omega) (by omega) (h3 a (by omega) (by omega))
    obtain ⟨v, v1, v2⟩ := ih (a + 1) (j + 1) (w * 10 + (x - 48)) (by rw [Nat.pow_succ]; omega) (by omega) (fun i i1 i2 => h3 i (by omega) (by omega))
    refine ⟨v, v1, ?_⟩
    show pkN t k (a + 1) (iI (w : Nat) * 10 + (t a - 48)) = _
    rw [e, show (48 : Int32) = iI 48 from rfl, i_10, iI_sub, iI_mul, iI_add, show (w : Int) * 10 + ((x : Int) - 48) = ((w * 10 + (x - 48) : Nat) : Int) by omega]
    exact v2
/-- a token, as the class has it and as the reference does; it begins at lo or behind -/
def tkR (e lo : Nat) (nx so st va : Int32) (wd : Int64) (sp so' pl nu : Int32) (wd' : Int64) : Prop := ∃ a s : Nat, lo ≤ s ∧ s ≤ a ∧ a ≤ e ∧ nx = iI (a : Nat) ∧ sp = iI (a : Nat) ∧ st = iI (s : Nat) ∧ pl = iI (s : Nat) ∧ ((so = 0 ∧ so' = 1 ∧ wd = 0) ∨ (so = 1 ∧ so' = 2 ∧ WR wd wd') ∨ (so = 2 ∧ so' = 3 ∧ wd = 0 ∧ nu = va ∧ ∃ v : Nat, v < 1000 ∧ va = iI (v : Nat)) ∨ (so = 3 ∧ so' = 4 ∧ wd = 0 ∧ a = s + 1) ∨ (so = 4 ∧ so' = 0 ∧ wd = 0))
theorem tkR_mono {e lo lo' : Nat} {nx so st va : Int32} {wd : Int64} {sp so' pl nu : Int32} {wd' : Int64} (h : tkR e lo nx so st va wd sp so' pl nu wd') (hl : lo' ≤ lo) : tkR e lo' nx so st va wd sp so' pl nu wd' := by
  obtain ⟨a, s, h1, h2⟩ := h
  exact ⟨a, s, by omega, h2⟩
theorem e_step0 {t : Nat → Int32} {e a : Nat} {so pl nu : Int32} {wd : Int64} (ht : byOK t) (he : e ≤ 800) (ha : a ≤ e) (h5 : ¬ so = 5) : ∃ R R', f_Reader_step t (iI (e : Nat)) (iI (a : Nat)) = some R ∧ f_M_goesOn t (iI (e : Nat)) (iI (a : Nat)) so pl nu wd = some R' ∧ tkR e a R.1 R.2.1 R.2.2.1 R.2.2.2.1 R.2.2.2.2 R'.1 R'.2.1 R'.2.2.1 R'.2.2.2.1 R'.2.2.2.2 := by
  unfold f_Reader_step f_M_goesOn
  have hs := skN_le (P := fun j => decide ((32 : Int32) ≤ t j ∧ t j ≤ 32)) (e := e) (e - a) a
  rw [q_skip he (by omega), if_neg h5, r_spaces ht he (e - a) fu a (by omega) (by have := fu_big; omega) (by omega), bd_some, bd_some]
  generalize skN (fun j => decide ((32 : Int32) ≤ t j ∧ t j ≤ 32)) e (e - a) a = s at *
  rw [r_byteAt he (by omega)]
  by_cases c : e ≤ s
  · rw [if_pos (show iI (e : Nat) ≤ iI (s : Nat) by rw [iI_le] <;> omega), if_pos c, bd_some, bd_some, if_neg (show ¬ iI (s : Nat) < iI (e : Nat) by rw [iI_lt] <;> omega), if_pos rfl]
    exact ⟨_, _, rfl, rfl, s, s, by omega, by omega, by omega, rfl, rfl, rfl, rfl, Or.inl ⟨rfl, rfl, rfl⟩⟩
  · rw [if_neg (show ¬ iI (e : Nat) ≤ iI (s : Nat) by rw [iI_le] <;> omega), if_neg c, iI_ck (show s < 800 by omega) (by omega), iI_cl (by omega), bd_some, bd_some, if_pos (show iI (s : Nat) < iI (e : Nat) by rw [iI_lt] <;> omega)]
    have hm1 : ¬ (t s &&& 255) = -1 := by
      obtain ⟨n, hn, en⟩ := ht s
      rw [en, by_tab n hn]
      split <;> (rw [i_m1, iI_eq] <;> omega)
    have h59 : (t s &&& 255 = 59) ↔ t s = 59 := by_is ht s (a := 59) (by omega) (by omega)
    obtain ⟨bd1, bd2⟩ := by_in ht s (a := 48) (b := 57) (by omega) (by omega) (by omega) (by omega)
    obtain ⟨bl1, bl2⟩ := by_in ht s (a := 97) (b := 122) (by omega) (by omega) (by omega) (by omega)
    change ((48 : Int32) ≤ t s &&& 255 ∧ t s &&& 255 ≤ 57) ↔ ((48 : Int32) ≤ t s ∧ t s ≤ 57) at bd1
    change ((97 : Int32) ≤ t s &&& 255 ∧ t s &&& 255 ≤ 122) ↔ ((97 : Int32) ≤ t s ∧ t s ≤ 122) at bl1
    rw [if_neg hm1, r_isLetter, r_isDigit, bd_some, bd_some]
    by_cases c59 : t s = 59
    · have h1 : ¬ ((97 : Int32) ≤ t s &&& 255 ∧ t s &&& 255 ≤ 122) := fun hh => absurd (bl1.mp hh) (by rw [c59]; decide)
      have h2 : ¬ ((48 : Int32) ≤ t s &&& 255 ∧ t s &&& 255 ≤ 57) := fun hh => absurd (bd1.mp hh) (by rw [c59]; decide)
      rw [if_pos c59, if_neg h1, if_pos rfl, if_neg h2, if_pos rfl, if_pos (h59.mpr c59), lt_eq, lt_eq, sm1]
      exact ⟨_, _, rfl, rfl, s + 1, s, by omega, by omega, by omega, rfl, rfl, rfl, rfl, Or.inr (Or.inr (Or.inr (Or.inl ⟨rfl, rfl, rfl, rfl⟩)))⟩
    · rw [if_neg c59]
      by_cases cd : (48 : Int32) ≤ t s ∧ t s ≤ 57
      · have h1 : ¬ ((97 : Int32) ≤ t s &&& 255 ∧ t s &&& 255 ≤ 122) := fun hh => absurd (Int32.le_trans (bl1.mp hh).1 cd.2) (by decide)
        have hx := skN_le (P := fun j => decide ((48 : Int32) ≤ t j ∧ t j ≤ 57)) (e := e) (e - s) s
        have hin := skN_in (P := fun j => decide ((48 : Int32) ≤ t j ∧ t j ≤ 57)) (e := e) (e - s) s
        obtain ⟨W, w1, w2⟩ := r_digits ht he (e - s) fu s 0 0 (by omega) (by have := fu_big; omega) (by omega) (by omega)
        rw [if_neg (Int32.not_lt.mpr cd.1), if_neg (Int32.not_lt.mpr cd.2), bd_some, if_neg Bool.false_ne_true, q_skip he (by omega), bd_some, if_neg h1, if_pos rfl, if_pos (bd1.mpr cd), if_neg (show ¬ (1 : Int32) = 0 by decide)]
        rw [show f_M_goesOn_L173 t (iI (e : Nat)) fu (0 : Int32) (iI (s : Nat)) 0 = _ from w1, bd_some]
        generalize skN (fun j => decide ((48 : Int32) ≤ t j ∧ t j ≤ 57)) e (e - s) s = x at *
        rw [q_takeWhole (by omega) (by omega), bd_some]
        by_cases c3 : x - s ≤ 3
        · obtain ⟨v, v1, v2⟩ := pk_num ht (x - s) s 0 0 (by decide) (by omega) (fun i i1 i2 => of_decide_eq_true (hin i i1 (by omega)))
          rw [if_pos c3, if_neg (show ¬ (3 : Int32) < iI ((0 + (x - s) : Nat) : Int) by rw [i_3, iI_lt] <;> omega), w2 (by omega)]
          exact ⟨_, _, rfl, rfl, x, s, by omega, by omega, by omega, rfl, rfl, rfl, rfl, Or.inr (Or.inr (Or.inl ⟨rfl, rfl, rfl, rfl, v, v1, v2⟩))⟩
        · rw [if_neg c3, if_pos (show (3 : Int32) < iI ((0 + (x - s) : Nat) : Int) by rw [i_3, iI_lt] <;> omega)]
          exact ⟨_, _, rfl, rfl, x, s, by omega, by omega, by omega, rfl, rfl, rfl, rfl, Or.inr (Or.inr (Or.inr (Or.inr ⟨rfl, rfl, rfl⟩)))⟩
      · have nd : (if t s < (48 : Int32) then some true else if (57 : Int32) < t s then some true else some false : Option Bool) = some true := by
          by_cases q : t s < 48
          · rw [if_pos q]
          · rw [if_neg q, if_pos]
            exact Int32.not_le.mp (fun hh => cd ⟨Int32.not_lt.mp q, hh⟩)
        rw [nd, bd_some, if_pos rfl]
        by_cases cl : (97 : Int32) ≤ t s ∧ t s ≤ 122
        · have hx := skN_le (P := fun j => decide ((97 : Int32) ≤ t j ∧ t j ≤ 122)) (e := e) (e - s) s
          have hin := skN_in (P := fun j => decide ((97 : Int32) ≤ t j ∧ t j ≤ 122)) (e := e) (e - s) s
          have hgt : s < skN (fun j => decide ((97 : Int32) ≤ t j ∧ t j ≤ 122)) e (e - s) s := by
            have q := (skN_le (P := fun j => decide ((97 : Int32) ≤ t j ∧ t j ≤ 122)) (e := e) (e - s - 1) (s + 1)).1
            rw [show e - s = (e - s - 1) + 1 by omega]
            unfold skN
            rw [if_neg c, if_pos (decide_eq_true cl)]
            omega
          obtain ⟨W, w1, w2⟩ := r_letters ht he (e - s) fu s 0 0 (by omega) (by have := fu_big; omega) (by omega) (by omega)
          rw [if_neg (Int32.not_lt.mpr cl.1), if_neg (Int32.not_lt.mpr cl.2), bd_some, if_neg Bool.false_ne_true, q_skip he (by omega), bd_some, if_pos (bl1.mpr cl), if_neg (show ¬ (1 : Int32) = 0 by decide)]
          rw [show f_M_goesOn_L84 t (iI (e : Nat)) fu (0 : Int32) (iI (s : Nat)) 0 = _ from w1, bd_some]
          generalize skN (fun j => decide ((97 : Int32) ≤ t j ∧ t j ≤ 122)) e (e - s) s = x at *
          rw [q_takeWord (by omega) (by omega), bd_some]
          by_cases c3 : x - s ≤ 8
          · obtain ⟨l, l1, l2, l3, l4⟩ := pk_WR ht (x - s) s [] (fun x hx => by cases hx) (by show 0 + (x - s) ≤ 8; omega) (fun i i1 i2 => of_decide_eq_true (hin i i1 (by omega)))
            have l2' : l.length = 0 + (x - s) := l2
            rw [if_pos c3, if_neg (show ¬ (8 : Int32) < iI ((0 + (x - s) : Nat) : Int) by rw [show (8 : Int32) = iI 8 from rfl, iI_lt] <;> omega), w2 (by omega)]
            refine ⟨_, _, rfl, rfl, x, s, by omega, by omega, by omega, rfl, rfl, rfl, rfl, Or.inr (Or.inl ⟨rfl, rfl, l, l1, by omega, fun hh => ?_, l3, l4⟩)⟩
            rw [hh] at l2'
            have : 0 = 0 + (x - s) := l2'
            omega
          · rw [if_neg c3, if_pos (show (8 : Int32) < iI ((0 + (x - s) : Nat) : Int) by rw [show (8 : Int32) = iI 8 from rfl, iI_lt] <;> omega)]
            exact ⟨_, _, rfl, rfl, x, s, by omega, by omega, by omega, rfl, rfl, rfl, rfl, Or.inr (Or.inr (Or.inr (Or.inr ⟨rfl, rfl, rfl⟩)))⟩
        · have nl : (if t s < (97 : Int32) then some true else if (122 : Int32) < t s then some true else some false : Option Bool) = some true := by
            by_cases q : t s < 97
            · rw [if_pos q]
            · rw [if_neg q, if_pos]
              exact Int32.not_le.mp (fun hh => cl ⟨Int32.not_lt.mp q, hh⟩)
          rw [nl, bd_some, if_pos rfl, if_neg (fun hh => cl (bl1.mp hh)), if_pos rfl, if_neg (fun hh => cd (bd1.mp hh)), if_pos rfl, if_neg (fun hh => c59 (h59.mp hh))]
          exact ⟨_, _, rfl, rfl, s, s, by omega, by omega, by omega, rfl, rfl, rfl, rfl, Or.inr (Or.inr (Or.inr (Or.inr ⟨rfl, rfl, rfl⟩)))⟩
