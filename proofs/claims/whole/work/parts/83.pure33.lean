/-! of some, the one of least cost, then of least bits -/
theorem fst_some {P : Nat → Bool} {n : Nat} : ∀ g j k, fst P n g j = some k → j ≤ k ∧ k < n ∧ P k = true ∧ ∀ i, j ≤ i → i < k → P i = false := by
  intro g
  induction g with
  | zero => intro j k h; cases h
  | succ g ih =>
    intro j k h
    rw [fst] at h
    split at h
    · rename_i c
      split at h
      · rename_i d; cases h; exact ⟨Nat.le_refl _, c, d, fun i h1 h2 => by omega⟩
      · rename_i d
        obtain ⟨a1, a2, a3, a4⟩ := ih _ _ h
        refine ⟨by omega, a2, a3, fun i h1 h2 => ?_⟩
        by_cases e : i = j
        · subst e; simpa using d
        · exact a4 i (by omega) h2
    · cases h
theorem fst_none {P : Nat → Bool} {n : Nat} : ∀ g j, n - j < g → fst P n g j = none → ∀ i, j ≤ i → i < n → P i = false := by
  intro g
  induction g with
  | zero => intro j h; omega
  | succ g ih =>
    intro j hg h i h1 h2
    rw [fst, if_pos (by omega)] at h
    split at h
    · cases h
    · rename_i d
      by_cases e : i = j
      · subst e; simpa using d
      · exact ih (j + 1) (by omega) h i (by omega) h2
theorem fst_skip {P : Nat → Bool} {n j g g' : Nat} (h : ∀ i, i < j → P i = false) (hg : n < g) (hg' : n - j < g') : fst P n g' j = fst P n g 0 := by
  cases e : fst P n g' j with
  | some k =>
    obtain ⟨a1, a2, a3, a4⟩ := fst_some _ _ _ e
    refine (fst_first _ _ _ (by omega) a2 (by omega) a3 (fun i _ hi => ?_)).symm
    by_cases c : i < j
    · exact h i c
    · exact a4 i (by omega) hi
  | none =>
    have h2 := fst_none _ _ hg' e
    cases e2 : fst P n g 0 with
    | none => rfl
    | some k =>
      obtain ⟨a1, a2, a3, a4⟩ := fst_some _ _ _ e2
      by_cases c : k < j
      · rw [h k c] at a3; cases a3
      · rw [h2 k (by omega) a2] at a3; cases a3
def lxL (q r : Nat × Nat) : Prop := q.1 < r.1 ∨ (q.1 = r.1 ∧ q.2 ≤ r.2)
def chF (o : Option (Nat × Nat)) (q : Nat × Nat) : Option (Nat × Nat) := match o with
  | none => some q
  | some r => if q.1 < r.1 ∨ (q.1 = r.1 ∧ q.2 < r.2) then some q else some r
def mnF (l : List (Nat × Nat)) : Option (Nat × Nat) := l.foldl chF none
theorem mnF_add (l : List (Nat × Nat)) (q : Nat × Nat) : mnF (l ++ [q]) = chF (mnF l) q := by unfold mnF; rw [List.foldl_append]; rfl
theorem mnF_spec : ∀ l : List (Nat × Nat), (mnF l = none → l = []) ∧ ∀ q, mnF l = some q → q ∈ l ∧ ∀ r ∈ l, lxL q r := by
  intro l
  suffices h : ∀ (l : List (Nat × Nat)) (o : Option (Nat × Nat)), (l.foldl chF o = none → l = [] ∧ o = none) ∧ ∀ q, l.foldl chF o = some q → (q ∈ l ∨ o = some q) ∧ (∀ r ∈ l, lxL q r) ∧ ∀ r, o = some r → lxL q r by
    obtain ⟨h1, h2⟩ := h l none
    refine ⟨fun e => (h1 e).1, fun q hq => ?_⟩
    obtain ⟨a1, a2, -⟩ := h2 q hq
    exact ⟨a1.resolve_right (fun e => by cases e), a2⟩
  intro l
  induction l with
  | nil => intro o; exact ⟨fun e => ⟨rfl, e⟩, fun q hq => ⟨Or.inr hq, (fun r hr => (by cases hr)), (fun r hr => (by rw [List.foldl_nil] at hq; rw [hq] at hr; cases hr; exact Or.inr ⟨rfl, Nat.le_refl _⟩))⟩⟩
  | cons a l ih =>
    intro o
    obtain ⟨h1, h2⟩ := ih (chF o a)
    rw [List.foldl_cons]
    have hch : ∃ r, chF o a = some r ∧ lxL r a ∧ (r = a ∨ o = some r) ∧ ∀ r', o = some r' → lxL r r' := by
      unfold chF
      cases o with
      | none => exact ⟨a, rfl, Or.inr ⟨rfl, Nat.le_refl _⟩, Or.inl rfl, fun r' e => by cases e⟩
      | some r =>
        simp only
        split
        · rename_i c
          exact ⟨a, rfl, Or.inr ⟨rfl, Nat.le_refl _⟩, Or.inl rfl, fun r' e => by cases e; unfold lxL; omega⟩
        · rename_i c
          exact ⟨r, rfl, by unfold lxL; omega, Or.inr rfl, fun r' e => by cases e; exact Or.inr ⟨rfl, Nat.le_refl _⟩⟩
    obtain ⟨r, e1, e2, e3, e4⟩ := hch
    refine ⟨fun e => ?_, fun q hq => ?_⟩
    · have := (h1 e).2
      rw [e1] at this; cases this
    · obtain ⟨a1, a2, a3⟩ := h2 q hq
      have hqr := a3 r e1
      have tr : ∀ {x y z : Nat × Nat}, lxL x y → lxL y z → lxL x z := fun {x y z} u w => by unfold lxL at *; omega
      refine ⟨?_, fun r' hr' => ?_, fun r' hr' => tr hqr (e4 r' hr')⟩
      · rcases a1 with a1 | a1
        · exact Or.inl (List.mem_cons_of_mem _ a1)
        · rw [e1] at a1; cases a1
          rcases e3 with e3 | e3
          · rw [e3]; exact Or.inl (by simp)
          · exact Or.inr e3
      · rcases List.mem_cons.mp hr' with e | e
        · rw [e]; exact tr hqr e2
        · exact a2 r' e
theorem mnF_ext {l l' : List (Nat × Nat)} (h : ∀ q, q ∈ l ↔ q ∈ l') : mnF l = mnF l' := by
  obtain ⟨a1, a2⟩ := mnF_spec l
  obtain ⟨b1, b2⟩ := mnF_spec l'
  cases e : mnF l with
  | none =>
    have := a1 e
    subst this
    cases e' : mnF l' with
    | none => rfl
    | some q => exact absurd ((h q).mpr (b2 q e').1) (by simp)
  | some q =>
    obtain ⟨c1, c2⟩ := a2 q e
    cases e' : mnF l' with
    | none =>
      have := b1 e'
      subst this
      exact absurd ((h q).mp c1) (by simp)
    | some q' =>
      obtain ⟨d1, d2⟩ := b2 q' e'
      have u := c2 q' ((h q').mpr d1)
      have w := d2 q ((h q).mp c1)
      unfold lxL at u w
      have e1 : q.1 = q'.1 := by omega
      have e2 : q.2 = q'.2 := by omega
      rw [Prod.ext e1 e2]
def oC (o : Option (Nat × Nat)) : Int32 := match o with
  | some q => iI (q.1 : Nat)
  | none => iI (-2)
def oB (o : Option (Nat × Nat)) : Int32 := match o with
  | some q => iI (q.2 : Nat)
  | none => iI 0
theorem q_consider {o : Option (Nat × Nat)} {c t : Nat} (hc : c < 1000000) (ht : t < 1000000) (ho : ∀ q, o = some q → q.1 < 1000000 ∧ q.2 < 1000000) : f_Choice_consider (iI c) (iI t) (oC o) (oB o) = some (oC (chF o (c, t)), oB (chF o (c, t))) := by
  unfold f_Choice_consider
  cases o with
  | none =>
    rw [if_pos (by show iI (-2) < 0; decide)]
    rfl
  | some q =>
    obtain ⟨h1, h2⟩ := ho q rfl
    rw [show oC (some q) = iI (q.1 : Nat) from rfl, show oB (some q) = iI (q.2 : Nat) from rfl, show chF (some q) (c, t) = (if c < q.1 ∨ (c = q.1 ∧ t < q.2) then some (c, t) else some q) from rfl]
    have n0 : ¬ iI (q.1 : Nat) < 0 := by rw [i_0, iI_lt] <;> omega
    simp only [if_neg n0]
    simp (disch := omega) only [iI_lt, iI_eq, iI_le]
    by_cases c1 : c < q.1
    · simp only [if_pos (show (c : Int) < (q.1 : Int) by omega), if_pos (show c < q.1 ∨ (c = q.1 ∧ t < q.2) from Or.inl c1), bd_some, if_true]; rfl
    · simp only [if_neg (show ¬ (c : Int) < (q.1 : Int) by omega)]
      by_cases c2 : c = q.1
      · simp only [if_pos (show (c : Int) = (q.1 : Int) by omega)]
        by_cases c3 : q.2 ≤ t
        · simp only [if_pos (show (q.2 : Int) ≤ (t : Int) by omega), if_neg (show ¬ (c < q.1 ∨ (c = q.1 ∧ t < q.2)) by omega), bd_some, Bool.false_eq_true, if_false]; rfl
        · simp only [if_neg (show ¬ (q.2 : Int) ≤ (t : Int) by omega), if_pos (show (c < q.1 ∨ (c = q.1 ∧ t < q.2)) by omega), bd_some, if_true]; rfl
      · simp only [if_neg (show ¬ (c : Int) = (q.1 : Int) by omega), if_neg (show ¬ (c < q.1 ∨ (c = q.1 ∧ t < q.2)) by omega), bd_some, Bool.false_eq_true, if_false]; rfl
theorem ml_can {can : Nat → Bool} {dj : Nat → Nat → Bool} {n b k : Nat} (h : b ∈ ml can dj n) (ht : b.testBit k = true) : k < n ∧ can k = true := by
  rcases (ml_mem n b).mp h with e | ⟨h1, h2, h3, e⟩ | ⟨h1, k1, h2, h3, h4, h5, -, e⟩
  · subst e; simp at ht
  · have := (one_uniq e k).mp ht; subst this; exact ⟨h2, h3⟩
  · have e' : b = 2 ^ k1 ||| 2 ^ h1 := by rw [e, Nat.or_comm]
    rcases (two_uniq h2 e' k).mp ht with q | q
    · subst q; exact ⟨by omega, h5⟩
    · subst q; exact ⟨h3, h4⟩
def cO (o : Option Nat) : Int32 := match o with
  | some c => iI (c : Nat)
  | none => iI (-1)
/-- the sets that can be had, each with its cost and its bits -/
def chL (B : Nat → Nat) (C : Nat → Option Nat) (T : Nat → Nat) (m need : Nat) : List (Nat × Nat) := ((ml (fun k => (bitsN (fun k => (C k).isSome) m).testBit k) (djP B) m).filter (fun b => pc10 b == need)).map (fun b => (sumN b (fun k => (C k).getD 0) 10, sumN b T 10))
theorem q_decide {bo co bi cl : Nat → Int32} {B : Nat → Nat} {C : Nat → Option Nat} {T : Nat → Nat} {m need : Nat} (hm : m ≤ 10) (hB : ar bo m B) (hC : ∀ k, k < m → co k = cO (C k)) (hT : ar bi m T) (bB : ∀ k, k < m → B k ∈ mxs) (inj : ∀ j k, j < m → k < m → B j = B k → j = k) (bC : ∀ k, k < m → ∀ c, C k = some c → c < 10000) (bT : ∀ k, k < m → T k < 1024) (hneed : need < 10) :
    ∃ cl' cnt, f_Choice_decide (iI need) bo co bi (iI m) cl = some (oC (mnF (chL B C T m need)), oB (mnF (chL B C T m need)), cl', cnt) := by
  -- what is allowed
  have k1 := lp (L := fun f j (st : Int32) => f_Choice_decide_L4 co (iI m) f st (iI (j : Int))) (n := m) (I := fun j st => st = iI (bitsN (fun k => (C k).isSome) j : Nat)) (Post := fun st => st = iI (bitsN (fun k => (C k).isSome) m : Nat)) (fun f j st hj hst => by
      subst hst
      refine Or.inl ⟨_, rfl, ?_⟩
      simp only [f_Choice_decide_L4]
      simp (disch := omega) only [iI_le, iI_ck, iI_cl, hC j hj]
      rw [if_neg (by omega), bitsN]
      simp only [lt]
      cases hcj : C j with
      | none =>
        rw [if_pos (by show iI (-1) < 0; decide), i_1, iI_add]
        simp
      | some c =>
        have hc := bC j hj c hcj
        have n0 : ¬ cO (some c) < 0 := by show ¬ iI (c : Nat) < 0; rw [i_0, iI_lt] <;> omega
        rw [if_neg n0, iI_shl1 (by omega), iI_or, i_1, iI_add]
        simp) (fun f st hst => by
      refine ⟨st, hst, ?_⟩
      simp only [f_Choice_decide_L4]
      simp (disch := omega) only [iI_le]
      rw [if_pos (by omega)]) fu 0 (0 : Int32) (by omega) (by have := fu_big; omega) rfl
  obtain ⟨st, rfl, e1⟩ := k1
  have e1 : f_Choice_decide_L4 co (iI m) fu (0 : Int32) (0 : Int32) = some (iI (bitsN (fun k => (C k).isSome) m : Nat)) := e1
  have hlen := ml_len26 (can := fun k => (bitsN (fun k => (C k).isSome) m).testBit k) bB inj
  obtain ⟨cl', e2, a2⟩ := q_fill (bi := cl) hm (bitsN_1024 _ hm) hB (fun k hk => by
    have := bB k hk
    have h2 : ∀ a ∈ mxs, a < 1024 := by decide
    exact h2 _ this) hlen
  have hmem : ∀ b ∈ ml (fun k => (bitsN (fun k => (C k).isSome) m).testBit k) (djP B) m, b < 1024 ∧ ∀ k, b.testBit k = true → k < m ∧ ∃ c, C k = some c := by
    intro b hb
    refine ⟨Nat.lt_of_lt_of_le (ml_lt hb) (two10 hm), fun k ht => ?_⟩
    obtain ⟨h1, h2⟩ := ml_can hb ht
    rw [bitsN_tb] at h2
    simp only [h1, decide_true, Bool.true_and] at h2
    exact ⟨h1, Option.isSome_iff_exists.mp h2⟩
  unfold chL
  generalize ml (fun k => (bitsN (fun k => (C k).isSome) m).testBit k) (djP B) m = l at *
  have hs1 : ∀ b ∈ l, f_X_sumOf (iI (b : Nat)) co = some (iI (sumN b (fun k => (C k).getD 0) 10 : Nat)) ∧ f_X_sumOf (iI (b : Nat)) bi = some (iI (sumN b T 10 : Nat)) ∧ sumN b (fun k => (C k).getD 0) 10 < 1000000 ∧ sumN b T 10 < 1000000 := by
    intro b hb
    obtain ⟨hb1, hb2⟩ := hmem b hb
    refine ⟨q_sumOf hb1 (fun k hk ht => ?_), q_sumOf hb1 (fun k hk ht => ?_), ?_, ?_⟩
    · obtain ⟨h1, c, h2⟩ := hb2 k ht
      have := bC k h1 c h2
      rw [hC k h1, h2]
      exact ⟨rfl, by show c < 100000; omega⟩
    · obtain ⟨h1, -⟩ := hb2 k ht
      exact ⟨hT k h1, by have := bT k h1; omega⟩
    · refine Nat.lt_of_le_of_lt (sumN_le (B := 10000) (fun k ht => ?_) 10) (by omega)
      obtain ⟨h1, c, h2⟩ := hb2 k ht
      have := bC k h1 c h2
      rw [h2]; show c ≤ 10000; omega
    · refine Nat.lt_of_le_of_lt (sumN_le (B := 1024) (fun k ht => ?_) 10) (by omega)
      obtain ⟨h1, -⟩ := hb2 k ht
      have := bT k h1; omega
  generalize hG : (fun b => (sumN b (fun k => (C k).getD 0) 10, sumN b T 10)) = G
  have hG1 : ∀ b, G b = (sumN b (fun k => (C k).getD 0) 10, sumN b T 10) := fun b => by rw [← hG]
  have k2 := lp (L := fun f j (st : Int32 × Int32) => f_Choice_decide_L62 (iI need) co bi cl' (iI (l.length : Nat)) f (iI (j : Int)) st.1 st.2) (n := l.length) (I := fun j st => st = (oC (mnF (((l.take j).filter (fun b => pc10 b == need)).map G)), oB (mnF (((l.take j).filter (fun b => pc10 b == need)).map G)))) (Post := fun st => st = (oC (mnF ((l.filter (fun b => pc10 b == need)).map G)), oB (mnF ((l.filter (fun b => pc10 b == need)).map G)))) (fun f j st hj hst => by
      subst hst
      obtain ⟨b, hb⟩ : ∃ b, l[j]? = some b := ⟨l[j], by simp⟩
      have hbl := List.mem_of_getElem? hb
      obtain ⟨hb1, -⟩ := hmem b hbl
      obtain ⟨s1, s2, s3, s4⟩ := hs1 b hbl
      have pcb := pc10_le b hb1
      refine Or.inl ⟨_, rfl, ?_⟩
      rw [tk hb]
      simp only [f_Choice_decide_L62]
      simp (disch := omega) only [iI_le, iI_ck, iI_cl, a2 j b hb]
      rw [if_neg (by omega), q_bitCount_d b hb1, bd_some]
      by_cases c : pc10 b = need
      · have cb : (pc10 b == need) = true := by simp [c]
        rw [if_pos (by rw [c]), s1, s2, bd_some, bd_some, q_consider s3 s4 (fun q hq => by
          have := (mnF_spec _).2 q hq |>.1
          rw [List.mem_map] at this
          obtain ⟨b', hb', e⟩ := this
          have hb'' := List.mem_of_mem_take (List.mem_filter.mp hb').1
          obtain ⟨-, -, q3, q4⟩ := hs1 b' hb''
          rw [← e, hG1]
          exact ⟨q3, q4⟩), bd_some, if_pos cb, List.map_append, List.map_cons, List.map_nil, mnF_add, hG1]
        simp only [lt, i_1, iI_add]
        rfl
      · have cb : ¬ (pc10 b == need) = true := by simp [c]
        rw [if_neg (by rw [iI_eq] <;> omega), if_neg cb, List.append_nil]
        simp only [lt, i_1, iI_add]
        rfl) (fun f st hst => by
      refine ⟨st, by rw [hst, List.take_length], ?_⟩
      simp only [f_Choice_decide_L62]
      simp (disch := omega) only [iI_le]
      rw [if_pos (by omega)]) fu 0 (oC none, oB none) (by omega) (by have := fu_big; omega) rfl
  obtain ⟨st, rfl, e3⟩ := k2
  have e3 : f_Choice_decide_L62 (iI need) co bi cl' (iI (l.length : Nat)) fu (0 : Int32) (-2 : Int32) (0 : Int32) = some (oC (mnF ((l.filter (fun b => pc10 b == need)).map G)), oB (mnF ((l.filter (fun b => pc10 b == need)).map G))) := e3
  refine ⟨cl', iI (l.length : Nat), ?_⟩
  unfold f_Choice_decide
  rw [e1, bd_some, e2, bd_some, e3, bd_some]
