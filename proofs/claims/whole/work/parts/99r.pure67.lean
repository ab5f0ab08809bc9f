/-! the tests of both readers, one beside the other -/
/-- a loop that seeks -/
theorem lpS {α β : Type} {L : Nat → Int32 → Option (α ⊕ β)} {P : Nat → Bool} {n : Nat} {A : Nat → α} {B : β} (h : ∀ f j, j ≤ n → L (f + 1) (iI (j : Nat)) = if j < n then (if P j then some (.inl (A j)) else L f (iI ((j + 1 : Nat) : Int))) else some (.inr B)) : ∀ f g j, j ≤ n → n - j < f → n - j < g → L f (iI (j : Nat)) = some (match fst P n g j with | some k => .inl (A k) | none => .inr B) := by
  intro f
  induction f with
  | zero => intro g j h1 h2 h3; omega
  | succ f ih =>
    intro g j h1 h2 h3
    obtain ⟨g, rfl⟩ : ∃ k, g = k + 1 := ⟨g - 1, by omega⟩
    rw [h f j h1]
    unfold fst
    by_cases c : j < n
    · rw [if_pos c, if_pos c]
      by_cases d : P j = true
      · rw [if_pos d, if_pos d]
      · rw [if_neg d, if_neg d]
        exact ih g (j + 1) (by omega) (by omega) (by omega)
    · rw [if_neg c, if_neg c]
theorem lpS0 {α β : Type} {L : Nat → Int32 → Option (α ⊕ β)} {P : Nat → Bool} {n : Nat} {A : Nat → α} {B : β} (hn : n < 1000) (h : ∀ f j, j ≤ n → L (f + 1) (iI (j : Nat)) = if j < n then (if P j then some (.inl (A j)) else L f (iI ((j + 1 : Nat) : Int))) else some (.inr B)) : L fu (0 : Int32) = some (match fst0 P n with | some k => .inl (A k) | none => .inr B) := lpS h fu (n + 1) 0 (by omega) (by have := fu_big; omega) (by omega)
def on1 (o : Option Nat) : Int := match o with
  | some k => k
  | none => -1
theorem q_personNamed {nm : Nat → Int64} {w : Int64} {p : Nat} (hp : p ≤ 5) : f_Parser_personNamed w nm (iI (p : Nat)) = some (iI (on1 (fst0 (fun i => decide (nm i = w)) p))) := by
  unfold f_Parser_personNamed
  rw [lpS0 (L := fun f j => f_Parser_personNamed_L2 w nm (iI (p : Nat)) f j) (P := fun i => decide (nm i = w)) (n := p) (A := fun k => iI (k : Nat)) (B := ()) (by omega) (fun f j hj => by
    simp only [f_Parser_personNamed_L2]
    by_cases c : j < p
    · rw [if_neg (show ¬ iI (p : Nat) ≤ iI (j : Nat) by rw [iI_le] <;> omega), if_pos c, iI_ck (show j < 5 by omega) (by omega), iI_cl (by omega)]
      by_cases d : nm j = w
      · rw [if_pos ((lg0 _ _).mpr d), if_pos (decide_eq_true d)]
      · rw [if_neg (fun hh => d ((lg0 _ _).mp hh)), if_neg (fun hh => d (of_decide_eq_true hh)), lt_eq, sm1]
    · rw [if_pos (show iI (p : Nat) ≤ iI (j : Nat) by rw [iI_le] <;> omega), if_neg c]), bd_some]
  cases fst0 (fun i => decide (nm i = w)) p <;> rfl
theorem r_tfind {nm : Nat → Int64} {w : Int64} {p : Nat} (hp : p ≤ 5) : f_Tab_find w (iI (p : Nat)) nm = some (iI (on1 (fst0 (fun i => decide (nm i = w)) p))) := by
  unfold f_Tab_find
  rw [lpS0 (L := fun f j => f_Tab_find_L2 w (iI (p : Nat)) nm f j) (P := fun i => decide (nm i = w)) (n := p) (A := fun k => iI (k : Nat)) (B := ()) (by omega) (fun f j hj => by
    simp only [f_Tab_find_L2]
    by_cases c : j < p
    · rw [if_neg (show ¬ iI (p : Nat) ≤ iI (j : Nat) by rw [iI_le] <;> omega), if_pos c, iI_ck (show j < 5 by omega) (by omega), iI_cl (by omega)]
      by_cases d : nm j = w
      · rw [if_pos ((lg0 _ _).mpr d), if_pos (decide_eq_true d)]
      · rw [if_neg (fun hh => d ((lg0 _ _).mp hh)), if_neg (fun hh => d (of_decide_eq_true hh)), lt_eq, sm1]
    · rw [if_pos (show iI (p : Nat) ≤ iI (j : Nat) by rw [iI_le] <;> omega), if_neg c]), bd_some]
  cases fst0 (fun i => decide (nm i = w)) p <;> rfl
theorem fst_congr {P Q : Nat → Bool} {n : Nat} (h : ∀ i, i < n → P i = Q i) : ∀ g j, fst P n g j = fst Q n g j := by
  intro g
  induction g with
  | zero => intro j; rfl
  | succ g ih =>
    intro j
    unfold fst
    by_cases c : j < n
    · rw [if_pos c, if_pos c, h j c, ih (j + 1)]
    · rw [if_neg c, if_neg c]
theorem q_isTaken {so : Nat → Int32} {S : Nat → Nat} {p s : Nat} (hp : p ≤ 5) (hs : s < 1000) (h : ar so p S) (hS : ∀ q, q < p → S q < 1000) : f_Parser_isTaken (iI (s : Nat)) (iI (p : Nat)) so = some (if (fst0 (fun i => decide (S i = s)) p).isSome then 1 else 0) := by
  unfold f_Parser_isTaken
  rw [lpS0 (L := fun f j => f_Parser_isTaken_L2 (iI (s : Nat)) (iI (p : Nat)) so f j) (P := fun i => decide (S i = s)) (n := p) (A := fun _ => (1 : Int32)) (B := ()) (by omega) (fun f j hj => by
    simp only [f_Parser_isTaken_L2]
    by_cases c : j < p
    · have b := hS j c
      rw [if_neg (show ¬ iI (p : Nat) ≤ iI (j : Nat) by rw [iI_le] <;> omega), if_pos c, iI_ck (show j < 5 by omega) (by omega), iI_cl (by omega), h j c]
      by_cases d : S j = s
      · rw [if_pos (by rw [d]), if_pos (decide_eq_true d)]
      · rw [if_neg (show ¬ iI (S j : Nat) = iI (s : Nat) by rw [iI_eq] <;> omega), if_neg (fun hh => d (of_decide_eq_true hh)), lt_eq, sm1]
    · rw [if_pos (show iI (p : Nat) ≤ iI (j : Nat) by rw [iI_le] <;> omega), if_neg c]), bd_some]
  cases fst0 (fun i => decide (S i = s)) p <;> rfl
theorem r_isTaken {so : Nat → Int32} {S : Nat → Nat} {p s : Nat} (hp : p ≤ 5) (hs : s < 1000) (h : ar so p S) (hS : ∀ q, q < p → S q < 1000) : f_Tab_isTaken (iI (s : Nat)) (iI (p : Nat)) so = some (if (fst0 (fun i => decide (S i = s)) p).isSome then 1 else 0) := by
  unfold f_Tab_isTaken
  rw [lpS0 (L := fun f j => f_Tab_isTaken_L2 (iI (s : Nat)) (iI (p : Nat)) so f j) (P := fun i => decide (S i = s)) (n := p) (A := fun _ => (1 : Int32)) (B := ()) (by omega) (fun f j hj => by
    simp only [f_Tab_isTaken_L2]
    by_cases c : j < p
    · have b := hS j c
      rw [if_neg (show ¬ iI (p : Nat) ≤ iI (j : Nat) by rw [iI_le] <;> omega), if_pos c, iI_ck (show j < 5 by omega) (by omega), iI_cl (by omega), h j c]
      by_cases d : S j = s
      · rw [if_pos (by rw [d]), if_pos (decide_eq_true d)]
      · rw [if_neg (show ¬ iI (S j : Nat) = iI (s : Nat) by rw [iI_eq] <;> omega), if_neg (fun hh => d (of_decide_eq_true hh)), lt_eq, sm1]
    · rw [if_pos (show iI (p : Nat) ≤ iI (j : Nat) by rw [iI_le] <;> omega), if_neg c]), bd_some]
  cases fst0 (fun i => decide (S i = s)) p <;> rfl
theorem r_isUnsure {so : Nat → Int32} {S : Nat → Nat} {p s : Nat} (hp : p ≤ 4) (hs : s < 1000) (h : ar so p S) (hS : ∀ q, q < p → S q < 1000) : f_Tab_isUnsure (iI (s : Nat)) (iI (p : Nat)) so = some (if (fst0 (fun i => decide (S i = s)) p).isSome then 1 else 0) := by
  unfold f_Tab_isUnsure
  rw [lpS0 (L := fun f j => f_Tab_isUnsure_L2 (iI (s : Nat)) (iI (p : Nat)) so f j) (P := fun i => decide (S i = s)) (n := p) (A := fun _ => (1 : Int32)) (B := ()) (by omega) (fun f j hj => by
    simp only [f_Tab_isUnsure_L2]
    by_cases c : j < p
    · have b := hS j c
      rw [if_neg (show ¬ iI (p : Nat) ≤ iI (j : Nat) by rw [iI_le] <;> omega), if_pos c, iI_ck (show j < 4 by omega) (by omega), iI_cl (by omega), h j c]
      by_cases d : S j = s
      · rw [if_pos (by rw [d]), if_pos (decide_eq_true d)]
      · rw [if_neg (show ¬ iI (S j : Nat) = iI (s : Nat) by rw [iI_eq] <;> omega), if_neg (fun hh => d (of_decide_eq_true hh)), lt_eq, sm1]
    · rw [if_pos (show iI (p : Nat) ≤ iI (j : Nat) by rw [iI_le] <;> omega), if_neg c]), bd_some]
  cases fst0 (fun i => decide (S i = s)) p <;> rfl
theorem r_isTried {so : Nat → Int32} {S : Nat → Nat} {p s : Nat} (hp : p ≤ 6) (hs : s < 1000) (h : ar so p S) (hS : ∀ q, q < p → S q < 1000) : f_Tab_isTried (iI (s : Nat)) (iI (p : Nat)) so = some (if (fst0 (fun i => decide (S i = s)) p).isSome then 1 else 0) := by
  unfold f_Tab_isTried
  rw [lpS0 (L := fun f j => f_Tab_isTried_L2 (iI (s : Nat)) (iI (p : Nat)) so f j) (P := fun i => decide (S i = s)) (n := p) (A := fun _ => (1 : Int32)) (B := ()) (by omega) (fun f j hj => by
    simp only [f_Tab_isTried_L2]
    by_cases c : j < p
    · have b := hS j c
      rw [if_neg (show ¬ iI (p : Nat) ≤ iI (j : Nat) by rw [iI_le] <;> omega), if_pos c, iI_ck (show j < 6 by omega) (by omega), iI_cl (by omega), h j c]
      by_cases d : S j = s
      · rw [if_pos (by rw [d]), if_pos (decide_eq_true d)]
      · rw [if_neg (show ¬ iI (S j : Nat) = iI (s : Nat) by rw [iI_eq] <;> omega), if_neg (fun hh => d (of_decide_eq_true hh)), lt_eq, sm1]
    · rw [if_pos (show iI (p : Nat) ≤ iI (j : Nat) by rw [iI_le] <;> omega), if_neg c]), bd_some]
  cases fst0 (fun i => decide (S i = s)) p <;> rfl
theorem r_tpairOf {on ot : Nat → Int32} {O T : Nat → Nat} {n p q : Nat} (hn : n ≤ 10) (h1 : ar on n O) (h2 : ar ot n T) (b : ∀ k, k < n → O k < 5 ∧ T k < 5) (hp : p < 5) (hq : q < 5) : f_Tab_pairOf (iI (p : Nat)) (iI (q : Nat)) (iI (n : Nat)) on ot = some (iI (on1 (fst0 (isP O T p q) n))) := by
  unfold f_Tab_pairOf
  rw [lpS0 (L := fun f j => f_Tab_pairOf_L2 (iI (p : Nat)) (iI (q : Nat)) (iI (n : Nat)) on ot f j) (P := isP O T p q) (n := n) (A := fun k => iI (k : Nat)) (B := ()) (by omega) (fun f j hj => by
    simp only [f_Tab_pairOf_L2]
    by_cases c : j < n
    · have b1 := (b j c).1
      have b2 := (b j c).2
      rw [if_neg (show ¬ iI (n : Nat) ≤ iI (j : Nat) by rw [iI_le] <;> omega), if_pos c]
      simp only [iI_ck (show j < 10 by omega) (show 10 < 2147483648 by omega)]
      rw [iI_cl (by omega), h1 j c, h2 j c]
      have q1 : (iI (O j : Nat) = iI (p : Nat)) ↔ O j = p := by rw [iI_eq] <;> omega
      have q2 : (iI (O j : Nat) = iI (q : Nat)) ↔ O j = q := by rw [iI_eq] <;> omega
      have q3 : (iI (T j : Nat) = iI (p : Nat)) ↔ T j = p := by rw [iI_eq] <;> omega
      have q4 : (iI (T j : Nat) = iI (q : Nat)) ↔ T j = q := by rw [iI_eq] <;> omega
      simp only [q1, q2, q3, q4, lt_eq, sm1]
      unfold isP
      by_cases d5 : p = q
      · subst d5
        by_cases d1 : O j = p <;> by_cases d3 : T j = p <;> simp [d1, d3, bd]
      · have d6 : ¬ q = p := fun hh => d5 hh.symm
        by_cases d1 : O j = p <;> by_cases d2 : O j = q <;> by_cases d3 : T j = p <;> by_cases d4 : T j = q <;> simp [d1, d2, d3, d4, d5, d6, bd]
    · rw [if_pos (show iI (n : Nat) ≤ iI (j : Nat) by rw [iI_le] <;> omega), if_neg c]), bd_some]
  cases fst0 (isP O T p q) n <;> rfl
/-- the class's find, of two or of one -/
theorem q_find1 {on ot : Nat → Int32} {O T : Nat → Nat} {n p q : Nat} (hn : n ≤ 10) (h1 : ar on n O) (h2 : ar ot n T) (b : ∀ k, k < n → O k < 5 ∧ T k < 5 ∧ O k ≠ T k) (hp : p < 5) (hq : q < 5) : f_Now_find (iI (p : Nat)) (iI (q : Nat)) on ot (iI (n : Nat)) = some (iI (on2 (fst0 (isP O T p q) n))) := by
  by_cases c : p = q
  · subst c
    have e : fst0 (isP O T p p) n = none := by
      cases hh : fst0 (isP O T p p) n with
      | none => rfl
      | some k =>
        obtain ⟨g1, g2⟩ := fst_lt _ _ _ hh
        unfold isP at g2
        simp at g2
        exact absurd (g2.1.trans g2.2.symm) (b k g1).2.2
    rw [e]
    unfold f_Now_find
    rw [lpS0 (L := fun f j => f_Now_find_L2 (iI (p : Nat)) (iI (p : Nat)) on ot (iI (n : Nat)) f j) (P := fun _ => false) (n := n) (A := fun k => iI (k : Nat)) (B := ()) (by omega) (fun f j hj => by
      simp only [f_Now_find_L2]
      by_cases c : j < n
      · rw [if_neg (show ¬ iI (n : Nat) ≤ iI (j : Nat) by rw [iI_le] <;> omega), if_pos c, if_pos True.intro, bd_some, if_pos rfl, if_neg Bool.false_ne_true, lt_eq, sm1]
      · rw [if_pos (show iI (n : Nat) ≤ iI (j : Nat) by rw [iI_le] <;> omega), if_neg c]), bd_some]
    cases hh : fst0 (fun _ => false) n with
    | none => rfl
    | some k => exact absurd (fst_lt _ _ _ hh).2 Bool.false_ne_true
  · exact q_find hn h1 h2 (fun k hk => ⟨(b k hk).1, (b k hk).2.1⟩) hp hq c
