/-! matches that none would leave -/
def mtc (can : Nat → Bool) (dj : Nat → Nat → Bool) (n b : Nat) : Prop := ∀ k, k < n → b.testBit k = true → can k = true ∧ ∀ j, j < k → b.testBit j = true → dj k j = true
theorem two_of : ∀ b : Nat, b < 1024 → pc10 b ≤ 2 → b = 0 ∨ (List.range 10).any (fun h => b == 2 ^ h || (List.range h).any (fun k => b == (2 ^ h ||| 2 ^ k))) = true := by decide +kernel
theorem pc_one : ∀ h : Nat, h < 10 → pc10 (2 ^ h) = 1 := by decide +kernel
theorem pc_two : ∀ h : Nat, h < 10 → ∀ k : Nat, k < h → pc10 (2 ^ h ||| 2 ^ k) = 2 := by decide +kernel
theorem djP_comm (B : Nat → Nat) (j k : Nat) : djP B j k = djP B k j := by unfold djP; rw [Nat.and_comm]
theorem ml_mtc {can can' : Nat → Bool} {B : Nat → Nat} {n b : Nat} (hn : n ≤ 10) (hb : b < 2 ^ n) (hc : ∀ k, k < n → can' k = can k) : (pc10 b ≤ 2 ∧ mtc can (djP B) n b) ↔ b ∈ ml can' (djP B) n := by
  have hb2 : b < 1024 := Nat.lt_of_lt_of_le hb (two10 hn)
  rw [ml_mem]
  constructor
  · rintro ⟨h1, h2⟩
    rcases two_of b hb2 h1 with e | e
    · exact Or.inl e
    · rw [List.any_eq_true] at e
      obtain ⟨h, -, e⟩ := e
      rw [Bool.or_eq_true, List.any_eq_true] at e
      rcases e with e | ⟨k, hk, e⟩
      · have e := beq_iff_eq.mp e
        have t1 : b.testBit h = true := (one_uniq e h).mpr rfl
        have hh := tb_lt hb t1
        exact Or.inr (Or.inl ⟨h, hh, by rw [hc h hh]; exact (h2 h hh t1).1, e⟩)
      · have hk := List.mem_range.mp hk
        have e := beq_iff_eq.mp e
        have e' : b = 2 ^ k ||| 2 ^ h := by rw [e, Nat.or_comm]
        have t1 : b.testBit h = true := (two_uniq hk e' h).mpr (Or.inr rfl)
        have t2 : b.testBit k = true := (two_uniq hk e' k).mpr (Or.inl rfl)
        have hh := tb_lt hb t1
        exact Or.inr (Or.inr ⟨h, k, hk, hh, by rw [hc h hh]; exact (h2 h hh t1).1, by rw [hc k (by omega)]; exact (h2 k (by omega) t2).1, by rw [djP_comm]; exact (h2 h hh t1).2 k hk t2, e⟩)
  · rintro (e | ⟨h, hh, c1, e⟩ | ⟨h, k, hk, hh, c1, c2, c3, e⟩)
    · subst e
      exact ⟨by decide, fun k _ ht => by simp at ht⟩
    · refine ⟨by rw [e, pc_one h (by omega)]; omega, fun i hi ht => ?_⟩
      have := (one_uniq e i).mp ht
      subst this
      refine ⟨by rw [← hc i hi]; exact c1, fun j hj htj => ?_⟩
      have := (one_uniq e j).mp htj
      omega
    · refine ⟨by rw [e, pc_two h (by omega) k hk]; omega, fun i hi ht => ?_⟩
      have e' : b = 2 ^ k ||| 2 ^ h := by rw [e, Nat.or_comm]
      refine ⟨?_, fun j hj htj => ?_⟩
      · rcases (two_uniq hk e' i).mp ht with q | q
        · subst q; rw [← hc i hi]; exact c2
        · subst q; rw [← hc i hi]; exact c1
      · rcases (two_uniq hk e' i).mp ht with q | q <;> rcases (two_uniq hk e' j).mp htj with r | r
        · omega
        · omega
        · subst q r; rw [djP_comm]; exact c3
        · omega
theorem up_ext : ∀ (l l' : List Nat), l.Pairwise (· < ·) → l'.Pairwise (· < ·) → (∀ b, b ∈ l ↔ b ∈ l') → l = l' := by
  intro l
  induction l with
  | nil =>
    intro l' _ _ h
    cases l' with
    | nil => rfl
    | cons a l' => exact absurd ((h a).mpr (by simp)) (by simp)
  | cons a l ih =>
    intro l' h1 h2 h
    cases l' with
    | nil => exact absurd ((h a).mp (by simp)) (by simp)
    | cons a' l' =>
      rw [List.pairwise_cons] at h1 h2
      have e : a = a' := by
        rcases List.mem_cons.mp ((h a).mp (by simp)) with q | q
        · exact q
        · rcases List.mem_cons.mp ((h a').mpr (by simp)) with r | r
          · exact r.symm
          · have := h1.1 _ r
            have := h2.1 _ q
            omega
      subst e
      rw [ih l' h1.2 h2.2 (fun b => ?_)]
      constructor
      · intro hb
        rcases List.mem_cons.mp ((h b).mp (List.mem_cons_of_mem _ hb)) with q | q
        · have := h1.1 _ hb; omega
        · exact q
      · intro hb
        rcases List.mem_cons.mp ((h b).mpr (List.mem_cons_of_mem _ hb)) with q | q
        · have := h2.1 _ hb; omega
        · exact q
theorem ml_range {can can' : Nat → Bool} {B : Nat → Nat} {n : Nat} {A : Nat → Bool} (hn : n ≤ 10) (hA : ∀ b, b < 2 ^ n → (A b = true ↔ pc10 b ≤ 2 ∧ mtc can (djP B) n b)) (hc : ∀ k, k < n → can' k = can k) : (List.range (2 ^ n)).filter A = ml can' (djP B) n := by
  refine up_ext _ _ (List.Pairwise.filter _ List.pairwise_lt_range) (ml_up n) (fun b => ?_)
  rw [List.mem_filter, List.mem_range]
  constructor
  · rintro ⟨h1, h2⟩
    exact (ml_mtc hn h1 hc).mp ((hA b h1).mp h2)
  · intro h
    have h1 := ml_lt h
    exact ⟨h1, (hA b h1).mpr ((ml_mtc hn h1 hc).mpr h)⟩
section
variable {so on ot ki ye sa v x sp' hd bi s1 s2 s3 s4 s9 : Nat → Int32} {s5 s6 s7 s8 s10 mm ms mc : Int32} {S O T K Y Z : Nat → Nat} {p n fb ns sl q q' k b : Nat}
theorem r_isMatch (hx : xv x S O T K Y Z p n fb) (ho : nok S O T K Y Z p n fb ns sl) (hb : b < 1024) : ∃ r, f_M_isMatch (iI b) x (iI sl) = some (b01 r) ∧ (r = true ↔ mtc (canP S O T K (H0 K Y Z) sl) (djP (bothP O T)) n b) := by
  have n10 := ho.1.2.1
  have inner : ∀ k, k < n → ∃ r, (r = .inr () ∨ r = .inl (0 : Int32)) ∧ (r = .inr () ↔ ∀ j, j < k → b.testBit j = true → djP (bothP O T) k j = true) ∧ f_M_isMatch_L36 (iI b) (iI k) x fu (0 : Int32) = some r := by
    intro k hk
    have key := lp (L := fun f j (_ : Unit) => f_M_isMatch_L36 (iI b) (iI k) x f (iI (j : Int))) (n := k) (I := fun j _ => ∀ i, i < j → b.testBit i = true → djP (bothP O T) k i = true) (Post := fun r => (r = .inr () ∨ r = .inl (0 : Int32)) ∧ (r = .inr () ↔ ∀ j, j < k → b.testBit j = true → djP (bothP O T) k j = true)) ?_ ?_ fu 0 () (by omega) (by have := fu_big; omega) (fun i hi => by omega)
    · obtain ⟨r, ⟨h1, h2⟩, he⟩ := key
      exact ⟨r, h1, h2, he⟩
    · intro f j st hj hst
      simp only [f_M_isMatch_L36]
      simp (disch := omega) only [iI_le]
      rw [if_neg (by omega), r_bit (by omega) (by omega), r_share hx ho.1 hk (by omega)]
      simp only [bd_some, b01_eq0, lt]
      cases hbj : b.testBit j
      · left
        refine ⟨(), fun i hi ht => ?_, by simp only [if_true, bd_some, i_1, iI_add]; rfl⟩
        by_cases d : i = j
        · subst d; rw [hbj] at ht; cases ht
        · exact hst i (by omega) ht
      · cases hd : djP (bothP O T) k j
        · right
          refine ⟨.inl 0, ⟨Or.inr rfl, ?_⟩, by simp [bd]⟩
          constructor
          · intro h; cases h
          · intro h; rw [h j hj hbj] at hd; cases hd
        · left
          refine ⟨(), fun i hi ht => ?_, by simp [bd, i_1, iI_add]⟩
          by_cases d : i = j
          · subst d; exact hd
          · exact hst i (by omega) ht
    · intro f st hst
      refine ⟨.inr (), ⟨Or.inl rfl, by simp only [true_iff]; exact hst⟩, ?_⟩
      simp only [f_M_isMatch_L36]
      simp (disch := omega) only [iI_le]
      rw [if_pos (by omega)]
  have key := lp (L := fun f j (_ : Unit) => f_M_isMatch_L2 (iI b) x (iI sl) f (iI (j : Int))) (n := n) (I := fun j _ => mtc (canP S O T K (H0 K Y Z) sl) (djP (bothP O T)) j b) (Post := fun r => (r = .inr () ∧ mtc (canP S O T K (H0 K Y Z) sl) (djP (bothP O T)) n b) ∨ (r = .inl (0 : Int32) ∧ ¬ mtc (canP S O T K (H0 K Y Z) sl) (djP (bothP O T)) n b)) ?_ ?_ fu 0 () (by omega) (by have := fu_big; omega) (fun i hi => by omega)
  · obtain ⟨r, hr, he⟩ := key
    unfold f_M_isMatch
    have he2 : f_M_isMatch_L2 (iI b) x (iI sl) fu (0 : Int32) = some r := he
    rw [he2]
    rcases hr with ⟨rfl, h⟩ | ⟨rfl, h⟩
    · exact ⟨true, rfl, by simp only [true_iff]; exact h⟩
    · exact ⟨false, rfl, by simp only [Bool.false_eq_true, false_iff]; exact h⟩
  · intro f j st hj hst
    obtain ⟨r, r1, r2, r3⟩ := inner j hj
    simp only [f_M_isMatch_L2]
    simp (disch := omega) only [ck55, cl55, hx.2.2.1, iI_le]
    rw [if_neg (by omega), r_bit (by omega) (by omega), r_isFeeding hx ho.1 hj (show sl < 10 by have := ho.2.2.2.1; omega), r3]
    simp only [bd_some, b01_eq0, lt]
    cases hbj : b.testBit j
    · left
      refine ⟨(), fun i hi ht => ?_, by simp only [if_true, i_1, iI_add]; rfl⟩
      by_cases d : i = j
      · subst d; rw [hbj] at ht; cases ht
      · exact hst i (by omega) ht
    · cases hcan : canP S O T K (H0 K Y Z) sl j
      · right
        refine ⟨.inl 0, Or.inr ⟨rfl, fun h => ?_⟩, by simp⟩
        rw [(h j hj hbj).1] at hcan; cases hcan
      · rcases r1 with r1 | r1
        · left
          have h3 := r2.mp r1
          refine ⟨(), fun i hi ht => ?_, by simp [r1, sn, i_1, iI_add]⟩
          by_cases d : i = j
          · subst d; exact ⟨hcan, h3⟩
          · exact hst i (by omega) ht
        · right
          refine ⟨.inl 0, Or.inr ⟨rfl, fun h => ?_⟩, by simp [r1, sn]⟩
          have := r2.mpr (h j hj hbj).2
          rw [r1] at this; cases this
  · intro f st hst
    refine ⟨.inr (), Or.inl ⟨rfl, hst⟩, ?_⟩
    simp only [f_M_isMatch_L2]
    simp (disch := omega) only [ck55, cl55, hx.2.2.1, iI_le]
    rw [if_pos (by omega)]
/-- what the class and the reference think of each set of pairs -/
theorem e_none (hc : cv so on ot ki ye sa S O T K Y Z p n) (hx : xv x S O T K Y Z p n fb) (ho : nok S O T K Y Z p n fb ns sl) (hh : ar hd n (H0 K Y Z)) : ∃ (A N : Nat → Bool), (∀ b : Nat, b < 1024 → ∃ z : Int, f_M_leaving (iI b) x (iI sl) = some (iI z) ∧ (iI z = iI (-2) ↔ N b = true)) ∧ (∀ b : Nat, b < 1024 → f_Scene_noneLeaves (iI b) on ot (iI n) hd (iI ((bitsN (canP S O T K (H0 K Y Z) sl) n : Nat) : Int)) = some (b01 (N b))) ∧ (∀ b : Nat, b < 1024 → f_M_isMatch (iI b) x (iI sl) = some (b01 (A b))) ∧ (List.range (2 ^ n)).filter (fun b => N b && (decide (pc10 b ≤ 2) && A b)) = (mlS S O T K (H0 K Y Z) sl n).filter N := by
  have n10 := ho.1.2.1
  have h1 : ∀ b : Nat, b < 1024 → ∃ N : Bool, (∃ z : Int, f_M_leaving (iI b) x (iI sl) = some (iI z) ∧ (iI z = iI (-2) ↔ N = true)) ∧ f_Scene_noneLeaves (iI b) on ot (iI n) hd (iI ((bitsN (canP S O T K (H0 K Y Z) sl) n : Nat) : Int)) = some (b01 N) := by
    intro b hb
    obtain ⟨o, e1, e2, e3⟩ := e_leaving hc hx ho hh hb
    refine ⟨o.isNone, ⟨on2 o, e1, ?_⟩, e2⟩
    cases o with
    | none => simp [on2]
    | some k =>
      have hk := e3 k rfl
      simp only [on2, Option.isNone_some, Bool.false_eq_true, iff_false]
      rw [iI_eq] <;> omega
  have h2 : ∀ b : Nat, b < 1024 → ∃ r, f_M_isMatch (iI b) x (iI sl) = some (b01 r) ∧ (r = true ↔ mtc (canP S O T K (H0 K Y Z) sl) (djP (bothP O T)) n b) := fun b hb => r_isMatch hx ho hb
  refine ⟨fun b => if h : b < 1024 then (h2 b h).choose else false, fun b => if h : b < 1024 then (h1 b h).choose else false, fun b hb => ?_, fun b hb => ?_, fun b hb => ?_, ?_⟩
  · simp only [dif_pos hb]; exact (h1 b hb).choose_spec.1
  · simp only [dif_pos hb]; exact (h1 b hb).choose_spec.2
  · simp only [dif_pos hb]; exact (h2 b hb).choose_spec.1
  · rw [← List.filter_filter]
    congr 1
    refine ml_range (can := canP S O T K (H0 K Y Z) sl) n10 (fun b hb => ?_) (fun k hk => by rw [bitsN_tb]; simp [hk])
    have hb2 := Nat.lt_of_lt_of_le hb (two10 n10)
    rw [Bool.and_eq_true, decide_eq_true_eq]
    simp only [dif_pos hb2]
    exact and_congr_right (fun _ => (h2 b hb2).choose_spec.2)
end
