/-! arguments: a person, a pair, two people, years; answers -/
theorem i_any (l : Int32) : ∃ z : Int, -2147483648 ≤ z ∧ z < 2147483648 ∧ l = iI z := by
  refine ⟨l.toInt, Int32.le_toInt l, Int32.toInt_lt l, ?_⟩
  unfold iI
  exact (Int32.ofInt_toInt l).symm
/-- an answer of the class (with its trouble) and one of the reference (with its trouble and place) -/
def qz (a t a' t' w : Int32) : Prop := a = a' ∧ t = t' ∧ ¬ t = 4 ∧ w = -1
theorem qz_0 {a a' : Int32} (h : a = a') : qz a 0 a' 0 (-1) := ⟨h, rfl, by decide, rfl⟩
theorem qz_1 : qz (-1) 1 (-1) 1 (-1) := ⟨rfl, rfl, by decide, rfl⟩
theorem qz_2 : qz (-1) 2 (-1) 2 (-1) := ⟨rfl, rfl, by decide, rfl⟩
theorem q_noTable {p : Nat} (h0 : 0 < p) (h : p ≤ 5) : f_X_noTable (iI p) = some (0, 0) := by
  unfold f_X_noTable f_X_refuseUnless
  simp (disch := omega) only [i_0, iI_le]
  rw [if_neg (by omega)]
  rfl
theorem pers {p : Nat} (h : p ≤ 5) (l : Int32) : (∃ q, q < p ∧ l = iI (q : Nat) ∧ f_X_noPerson l (iI p) = some (0, 0) ∧ f_M_isPerson l (iI p) = some 1) ∨ (f_X_noPerson l (iI p) = some (1, 1) ∧ f_M_isPerson l (iI p) = some 0) := by
  obtain ⟨z, z1, z2, rfl⟩ := i_any l
  unfold f_X_noPerson f_M_isPerson f_X_refuseUnless
  simp (disch := omega) only [i_0, iI_le, iI_lt]
  by_cases c1 : z < 0
  · right
    rw [if_pos c1]
    exact ⟨rfl, rfl⟩
  · rw [if_neg c1]
    by_cases c2 : (p : Int) ≤ z
    · right
      rw [if_pos c2]
      exact ⟨rfl, rfl⟩
    · left
      rw [if_neg c2]
      refine ⟨z.toNat, by omega, by congr 1; omega, rfl, rfl⟩
theorem prs {n : Nat} {v : Nat → Int32} (h : n ≤ 10) (hv : v 55 = iI n) (l : Int32) : (∃ k, k < n ∧ l = iI (k : Nat) ∧ f_X_noPair l (iI n) = some (0, 0) ∧ f_M_isPair l v = some 1) ∨ (f_X_noPair l (iI n) = some (1, 1) ∧ f_M_isPair l v = some 0) := by
  obtain ⟨z, z1, z2, rfl⟩ := i_any l
  unfold f_X_noPair f_M_isPair f_X_refuseUnless
  simp (disch := omega) only [ck55, cl55, hv, i_0, iI_le, iI_lt]
  by_cases c1 : z < 0
  · right
    rw [if_pos c1]
    exact ⟨rfl, rfl⟩
  · rw [if_neg c1]
    by_cases c2 : (n : Int) ≤ z
    · right
      rw [if_pos c2]
      exact ⟨rfl, rfl⟩
    · left
      rw [if_neg c2]
      refine ⟨z.toNat, by omega, by congr 1; omega, rfl, rfl⟩
theorem twos {p : Nat} (h : p ≤ 5) (l l' : Int32) : (∃ q q' : Nat, q < p ∧ q' < p ∧ q ≠ q' ∧ l = iI q ∧ l' = iI q' ∧ f_X_noTwo l l' (iI p) = some (0, 0) ∧ f_M_areTwo l l' (iI p) = some 1) ∨ (f_X_noTwo l l' (iI p) = some (1, 1) ∧ f_M_areTwo l l' (iI p) = some 0) := by
  obtain ⟨z, z1, z2, rfl⟩ := i_any l
  obtain ⟨y, y1, y2, rfl⟩ := i_any l'
  unfold f_X_noTwo f_M_areTwo f_M_isPerson f_X_refuseUnless
  simp (disch := omega) only [i_0, iI_le, iI_lt, iI_eq]
  by_cases c1 : z < 0
  · right; simp only [if_pos c1]; exact ⟨rfl, rfl⟩
  · simp only [if_neg c1]
    by_cases c2 : (p : Int) ≤ z
    · right; simp only [if_pos c2]; exact ⟨rfl, rfl⟩
    · simp only [if_neg c2]
      by_cases c3 : y < 0
      · right; simp only [if_pos c3]; exact ⟨rfl, rfl⟩
      · simp only [if_neg c3]
        by_cases c4 : (p : Int) ≤ y
        · right; simp only [if_pos c4]; exact ⟨rfl, rfl⟩
        · simp only [if_neg c4]
          by_cases c5 : z = y
          · right; simp only [if_pos c5]; exact ⟨rfl, rfl⟩
          · left; simp only [if_neg c5]
            exact ⟨z.toNat, y.toNat, by omega, by omega, by omega, by congr 1; omega, by congr 1; omega, rfl, rfl⟩
theorem yrs (l : Int32) : (∃ t : Nat, t ≤ 60 ∧ l = iI t ∧ f_X_within l 60 = some 1 ∧ f_M_refusesYears 1 l = some 0) ∨ (f_X_within l 60 = some 0 ∧ f_M_refusesYears 1 l = some 2) := by
  obtain ⟨z, z1, z2, rfl⟩ := i_any l
  unfold f_X_within f_M_refusesYears f_M_in
  simp (disch := omega) only [i_60, i_0, iI_lt]
  by_cases c1 : z < 0
  · right; simp only [if_pos c1]; exact ⟨rfl, rfl⟩
  · simp only [if_neg c1]
    by_cases c2 : (60 : Int) < z
    · right; simp only [if_pos c2]; exact ⟨rfl, rfl⟩
    · left; simp only [if_neg c2]
      exact ⟨z.toNat, by omega, by congr 1; omega, rfl, rfl⟩
theorem yrs0 (l : Int32) : f_M_refusesYears 0 l = some 1 := rfl
/-! who could feed whom -/
theorem q_canFeedBehind {so on ot ki ye sa : Nat → Int32} {S O T K Y Z : Nat → Nat} {p n fb ns sl k t : Nat} (hc : cv so on ot ki ye sa S O T K Y Z p n) (ho : nok S O T K Y Z p n fb ns sl) (hk : k < n) (ht : t < 1000) :
    f_X_canFeedBehind (iI k) (iI t) (iI sl) so on ot ki ye sa = some (b01 (rch (K k) (hnd K Y Z k t) (dst (S (O k)) (S (T k))) sl)) := by
  obtain ⟨c0, c1, c2, c3, c4, c5⟩ := hc
  obtain ⟨⟨p5, n10, ns10, f1, s1, b⟩, ho2, hzy, hsl, hp0⟩ := ho
  obtain ⟨b1, b2, b3, b4, b5, b6⟩ := b k hk
  have s2 := s1 _ b1
  have s3 := s1 _ b2
  have hh : hnd K Y Z k t < 100000 := by unfold hnd; split <;> omega
  unfold f_X_canFeedBehind
  rw [iI_ck (by omega) (by omega), q_handleBehind n10 hk c3 c4 c5 b4 (by omega) (by omega) (by omega)]
  simp only [bd]
  rw [q_far n10 p5 hk c0 c1 c2 b1 b2 (by omega) (by omega)]
  simp only
  rw [iI_cl (by omega), c3 k hk, q_reaches b4 hh (Nat.lt_trans (dst_lt (by omega) (by omega)) (by omega)) (by omega)]
theorem q_canFeedNow {so on ot ki ye sa : Nat → Int32} {S O T K Y Z : Nat → Nat} {p n fb ns sl k : Nat} (hc : cv so on ot ki ye sa S O T K Y Z p n) (ho : nok S O T K Y Z p n fb ns sl) (hk : k < n) :
    f_X_canFeedNow (iI k) (iI sl) so on ot ki ye sa = some (b01 (canP S O T K (H0 K Y Z) sl k)) := by
  unfold f_X_canFeedNow
  rw [show (0 : Int32) = iI ((0 : Nat) : Int) from rfl, q_canFeedBehind hc ho hk (by omega)]
  rfl
theorem r_isFeedingIn {x : Nat → Int32} {S O T K Y Z : Nat → Nat} {p n fb ns sl k t : Nat} (hx : xv x S O T K (fun k => Y k + t) Z p n fb) (ho : nok S O T K Y Z p n fb ns sl) (hk : k < n) (ht : t < 1000) :
    f_M_isFeeding (iI k) x (iI sl) = some (b01 (rch (K k) (hnd K Y Z k t) (dst (S (O k)) (S (T k))) sl)) := by
  rw [r_isFeeding hx (xok_grow ho ht) hk (by have := ho.2.2.2.1; omega)]
  unfold canP
  rw [H0_grow ho k hk]
theorem b01_c (b : Bool) : b01 b = if b then 1 else 0 := rfl
theorem r_pairBy {x : Nat → Int32} {S O T K Y Z : Nat → Nat} {p n fb ns q q' : Nat} (hx : xv x S O T K Y Z p n fb) (ho : xok S O T K Y Z p n fb ns) (hq : q < 5) (hq' : q' < 5) (hne : q ≠ q') : f_M_pairBy (iI q) (iI q') x = some (iI (on2 (fst0 (isP O T q q') n))) := by
  have key : ∀ (f j g : Nat), j ≤ n → n - j < f → n - j < g → f_M_pairBy_L2 (iI q) (iI q') x f (iI j) = some (match fst (isP O T q q') n g j with | some k => .inl (iI k) | none => .inr ()) := by
    intro f
    induction f with
    | zero => intro j g hj h; omega
    | succ f ih =>
      intro j g hj hf hg
      obtain ⟨g', rfl⟩ : ∃ g', g = g' + 1 := ⟨g - 1, by omega⟩
      have n10 := ho.2.1
      rw [f_M_pairBy_L2, fst]
      simp only [ck55, cl55, hx.2.2.1]
      by_cases c : n ≤ j
      · rw [if_pos (by rw [iI_le] <;> omega), if_neg (by omega)]
      · have hjn : j < n := by omega
        obtain ⟨b1, b2, b3, -⟩ := ho.2.2.2.2.2 j hjn
        rw [if_neg (by rw [iI_le] <;> omega), if_pos hjn, r_hasOne hx ho hjn hq, r_hasOne hx ho hjn hq']
        have next : f_M_pairBy_L2 (iI q) (iI q') x f (iI j + 1) = some (match fst (isP O T q q') n g' (j + 1) with | some k => .inl (iI k) | none => .inr ()) := by
          rw [i_1, iI_add]
          exact ih (j + 1) g' (by omega) (by omega) (by omega)
        have hi : isP O T q q' j = ((O j == q || T j == q) && (O j == q' || T j == q')) := by
          unfold isP
          rw [Bool.eq_iff_iff]
          simp only [Bool.or_eq_true, Bool.and_eq_true, beq_iff_eq]
          omega
        rw [hi]
        simp only [bd, lt, b01_eq0]
        cases (O j == q || T j == q) <;> cases (O j == q' || T j == q') <;> simp [next]
  unfold f_M_pairBy
  rw [show (0 : Int32) = iI ((0 : Nat) : Int) from rfl, key fu 0 (n + 1) (by omega) (by have := fu_big; have := ho.2.1; omega) (by omega)]
  unfold fst0
  cases fst (isP O T q q') n (n + 1) 0 <;> rfl
