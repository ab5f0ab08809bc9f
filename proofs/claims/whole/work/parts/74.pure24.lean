/-! how many matches none would leave; which -/
theorem tk {l : List Nat} {j b : Nat} (h : l[j]? = some b) (N : Nat → Bool) : (l.take (j + 1)).filter N = (l.take j).filter N ++ (if N b then [b] else []) := by
  rw [List.take_succ, h, List.filter_append]
  congr 1
  simp only [Option.toList_some, List.filter_cons, List.filter_nil]
theorem tk_ge {l : List Nat} {j b : Nat} (h : l[j]? = some b) (N : Nat → Bool) (hN : N b = true) : (l.filter N)[((l.take j).filter N).length]? = some b := by
  have e : l.filter N = (l.take j).filter N ++ (l.drop j).filter N := by rw [← List.filter_append, List.take_append_drop]
  have hj := (List.getElem?_eq_some_iff.mp h).1
  have e2 : l.drop j = b :: l.drop (j + 1) := by
    rw [List.drop_eq_getElem_cons hj]
    rw [(List.getElem?_eq_some_iff.mp h).2]
  rw [e, List.getElem?_append_right (Nat.le_refl _), Nat.sub_self, e2, List.filter_cons, if_pos hN]
  rfl
theorem len_tk (l : List Nat) (j : Nat) (N : Nat → Bool) : ((l.take j).filter N).length ≤ j := Nat.le_trans (List.length_filter_le _ _) (by rw [List.length_take]; omega)
section
variable {so on ot ki ye sa v x sp' hd bi s1 s2 s3 s4 s9 : Nat → Int32} {s5 s6 s7 s8 s10 mm ms mc : Int32} {S O T K Y Z : Nat → Nat} {p n fb ns sl q q' k b : Nat}
theorem q_stableL {l : List Nat} {N : Nat → Bool} {cb : Int32} (hl : l.length ≤ 26) (hbl : ∀ b ∈ l, b < 1024) (hbi : arL bi l) (hN : ∀ b : Nat, b < 1024 → f_Scene_noneLeaves (iI b) on ot (iI n) hd cb = some (b01 (N b))) :
    f_X_stable_L17 on ot (iI n) hd cb bi (iI (l.length : Nat)) fu (0 : Int32) (0 : Int32) = some (iI ((l.filter N).length : Nat)) := by
  have key := lp (L := fun f j (st : Int32) => f_X_stable_L17 on ot (iI n) hd cb bi (iI (l.length : Nat)) f st (iI (j : Int))) (n := l.length) (I := fun j st => st = iI (((l.take j).filter N).length : Nat)) (Post := fun r => r = iI ((l.filter N).length : Nat)) ?_ ?_ fu 0 (0 : Int32) (by omega) (by have := fu_big; omega) rfl
  · obtain ⟨r, rfl, he⟩ := key
    exact he
  · intro f j st hj hst
    subst hst
    obtain ⟨b, hb⟩ : ∃ b, l[j]? = some b := ⟨l[j], by simp⟩
    have hb2 := hbl b (List.mem_of_getElem? hb)
    refine Or.inl ⟨_, rfl, ?_⟩
    simp only [f_X_stable_L17]
    simp (disch := omega) only [iI_le, iI_ck, iI_cl, hbi j b hb]
    rw [if_neg (by omega), hN b hb2, tk hb]
    simp only [bd_some, b01_eq0, lt, i_1, iI_add]
    cases N b
    · simp
    · simp
  · intro f st hst
    refine ⟨st, by rw [hst, List.take_length], ?_⟩
    simp only [f_X_stable_L17]
    simp (disch := omega) only [iI_le]
    rw [if_pos (by omega)]
theorem r_stablesL {A N : Nat → Bool} {l1 : Int32} (hx : xv x S O T K Y Z p n fb) (n10 : n ≤ 10) (hN : ∀ b : Nat, b < 1024 → ∃ z : Int, f_M_leaving (iI b) x (iI sl) = some (iI z) ∧ (iI z = iI (-2) ↔ N b = true)) (hA : ∀ b : Nat, b < 1024 → f_M_isMatch (iI b) x (iI sl) = some (b01 (A b))) :
    ∃ r, f_M_stables_L13 l1 x (iI sl) fu (-1 : Int32) (0 : Int32) (0 : Int32) = some (r, iI ((((List.range (2 ^ n)).filter (fun b => N b && (decide (pc10 b ≤ 2) && A b))).length : Nat) : Int)) ∧ ∀ i : Nat, i < 2147483648 → l1 = iI i → r = (match ((List.range (2 ^ n)).filter (fun b => N b && (decide (pc10 b ≤ 2) && A b)))[i]? with | some b => iI (b : Nat) | none => iI (-1)) := by
  have h1024 := two10 n10
  have hpos := Nat.two_pow_pos n
  generalize hG : (fun b => N b && (decide (pc10 b ≤ 2) && A b)) = G
  have key := lp (L := fun f j (st : Int32 × Int32) => f_M_stables_L13 l1 x (iI sl) f st.1 (iI (j : Int)) st.2) (n := 2 ^ n) (I := fun j st => st.2 = iI ((((List.range j).filter G).length : Nat) : Int) ∧ ∀ i : Nat, i < 2147483648 → l1 = iI i → st.1 = (match ((List.range j).filter G)[i]? with | some b => iI (b : Nat) | none => iI (-1))) (Post := fun st => st.2 = iI ((((List.range (2 ^ n)).filter G).length : Nat) : Int) ∧ ∀ i : Nat, i < 2147483648 → l1 = iI i → st.1 = (match ((List.range (2 ^ n)).filter G)[i]? with | some b => iI (b : Nat) | none => iI (-1))) ?_ ?_ fu 0 ((-1 : Int32), (0 : Int32)) (by omega) (by have := fu_big; omega) ⟨rfl, fun i _ _ => rfl⟩
  · obtain ⟨r, ⟨h1, h2⟩, he⟩ := key
    exact ⟨r.1, by rw [← h1]; exact he, h2⟩
  · intro f j st hj hst
    obtain ⟨a1, a2⟩ := hst
    have hj2 : j < 1024 := by omega
    obtain ⟨z, b1, b2⟩ := hN j hj2
    have hle : ((List.range j).filter G).length ≤ j := Nat.le_trans (List.length_filter_le _ _) (by rw [List.length_range]; omega)
    have pcj := pc10_le j hj2
    have hGj : G j = (N j && (decide (pc10 j ≤ 2) && A j)) := by rw [← hG]
    have stp : f_M_stables_L13 l1 x (iI sl) (f + 1) st.1 (iI (j : Int)) st.2 = if G j = true then f_M_stables_L13 l1 x (iI sl) f (if st.2 = l1 then iI j else st.1) (iI ((j + 1 : Nat) : Int)) (st.2 + 1) else f_M_stables_L13 l1 x (iI sl) f st.1 (iI ((j + 1 : Nat) : Int)) st.2 := by
      rw [f_M_stables_L13]
      simp (disch := omega) only [ck55, cl55, hx.2.2.1]
      rw [iI_shl1 (by omega), if_neg (by rw [iI_le] <;> omega), r_bits j hj2, hA j hj2, b1, hGj]
      simp only [bd_some, b01_eq0, lt, i_1, i_m2, iI_add]
      by_cases c1 : pc10 j ≤ 2
      · have c2 : ¬ (2 : Int32) < iI (pc10 j : Nat) := by rw [i_2, iI_lt] <;> omega
        rw [if_neg c2]
        simp only [c1, decide_true, Bool.true_and]
        cases A j
        · simp [bd]
        · cases hNj : N j
          · have : ¬ iI z = iI (-2) := fun h => by rw [b2.mp h] at hNj; cases hNj
            simp [bd, this]
          · have : iI z = iI (-2) := b2.mpr hNj
            simp only [Bool.true_eq_false, if_false, bd_some, Bool.false_eq_true, this, if_true, Bool.and_true]
            split <;> rfl
      · have c2 : (2 : Int32) < iI (pc10 j : Nat) := by rw [i_2, iI_lt] <;> omega
        rw [if_pos c2]
        simp [c1, bd]
    left
    cases hg : G j
    · refine ⟨st, ?_, ?_⟩
      · rw [List.range_succ, List.filter_append, List.filter_cons, if_neg (by rw [hg]; simp), List.filter_nil, List.append_nil]
        exact ⟨a1, a2⟩
      · show f_M_stables_L13 l1 x (iI sl) (f + 1) st.1 (iI (j : Int)) st.2 = _
        rw [stp, hg]
        simp
    · refine ⟨(if st.2 = l1 then iI j else st.1, st.2 + 1), ?_, ?_⟩
      · rw [List.range_succ, List.filter_append, List.filter_cons, if_pos hg, List.filter_nil]
        refine ⟨?_, fun i hi he => ?_⟩
        · show st.2 + 1 = _
          rw [a1, i_1, iI_add, List.length_append]
          rfl
        · show (if st.2 = l1 then iI j else st.1) = _
          rw [a1, he]
          by_cases c : ((List.range j).filter G).length = i
          · subst c
            rw [if_pos rfl, List.getElem?_append_right (Nat.le_refl _), Nat.sub_self]
            rfl
          · rw [if_neg (by rw [iI_eq] <;> omega), a2 i hi he]
            by_cases d : i < ((List.range j).filter G).length
            · rw [List.getElem?_append_left d]
            · rw [List.getElem?_append_right (by omega), List.getElem?_eq_none (by omega), List.getElem?_eq_none (by simp; omega)]
      · show f_M_stables_L13 l1 x (iI sl) (f + 1) st.1 (iI (j : Int)) st.2 = _
        rw [stp, hg, if_pos rfl]
  · intro f st hst
    refine ⟨(st.1, st.2), hst, ?_⟩
    simp only [f_M_stables_L13]
    simp (disch := omega) only [ck55, cl55, hx.2.2.1]
    rw [iI_shl1 (by omega), if_pos (by rw [iI_le] <;> omega)]
theorem mlS_1024 (n10 : n ≤ 10) {b : Nat} {H : Nat → Nat} (h : b ∈ mlS S O T K H sl n) : b < 1024 := Nat.lt_of_lt_of_le (ml_lt h) (two10 n10)
theorem e_stable (h : PT so on ot ki ye sa v S O T K Y Z p n fb ns sl) : ∃ R R', f_X_stable (iI sl) (iI p) (iI fb) so on ot ki ye sa (iI n) s1 s2 s3 s4 s5 s6 s7 s8 s9 s10 = some R ∧ f_M_stable v x (iI sl) = some R' ∧ qz R.1 R.2.1 R'.1 R'.2.2.1 R'.2.2.2.1 := by
  obtain ⟨hc, hv, ho⟩ := h
  have p5 := ho.1.1
  have n10 := ho.1.2.1
  obtain ⟨x', w1, w2, -⟩ := r_worksX (x := x) hv ho
  obtain ⟨a1, a2, a3, a4, a5, w4, hbi, hh⟩ := q_settleNow (sso := s1) (shd := s2) (bo := s3) (sp := s4) (bi := s9) hc ho
  obtain ⟨A, N, g1, g2, g3, g4⟩ := e_none hc w2 ho hh
  have u1 := q_stableL (l := mlS S O T K (H0 K Y Z) sl n) (mlS_len p5 ho.2.1) (fun b hb => mlS_1024 n10 hb) hbi g2
  obtain ⟨r, u2, -⟩ := r_stablesL (l1 := (-1 : Int32)) w2 n10 g1 g3
  rw [g4] at u2
  rw [mlS_lmS] at u1
  unfold f_X_stable f_M_stable f_M_stables
  rw [q_noTable ho.2.2.2.2 ho.1.1, w1, w4]
  simp only [bd_some, eq_self, if_true]
  rw [u1, u2]
  exact ⟨_, _, rfl, rfl, qz_0 rfl⟩
theorem e_stableAt {mt : Int32} (h : PT so on ot ki ye sa v S O T K Y Z p n fb ns sl) (l1 : Int32) : ∃ R R', f_X_stableAt l1 (iI sl) (iI p) (iI fb) so on ot ki ye sa (iI n) s1 s2 s3 s4 s5 s6 s7 s8 s9 s10 = some R ∧ f_M_stableAt l1 v x mt (iI sl) = some R' ∧ qz R.1 R.2.1 R'.1 R'.2.2.1 R'.2.2.2.1 := by
  obtain ⟨hc, hv, ho⟩ := h
  have p5 := ho.1.1
  have n10 := ho.1.2.1
  obtain ⟨x', w1, w2, -⟩ := r_worksX (x := x) hv ho
  obtain ⟨a1, a2, a3, a4, a5, w4, hbi, hh⟩ := q_settleNow (sso := s1) (shd := s2) (bo := s3) (sp := s4) (bi := s9) hc ho
  obtain ⟨A, N, g1, g2, g3, g4⟩ := e_none hc w2 ho hh
  obtain ⟨r, u2, u3⟩ := r_stablesL (l1 := l1) w2 n10 g1 g3
  rw [g4] at u2 u3
  have hlen := mlS_len (S := S) (K := K) (H := H0 K Y Z) (sl := sl) p5 ho.2.1
  have hlt : ∀ b ∈ mlS S O T K (H0 K Y Z) sl n, b < 1024 := fun b hb => mlS_1024 n10 hb
  have hlm := mlS_lmS (S := S) (O := O) (T := T) (K := K) (H := H0 K Y Z) (sl := sl) (n := n)
  generalize mlS S O T K (H0 K Y Z) sl n = l at *
  generalize (lmS S O T K (H0 K Y Z) sl n).length + 1 = ln at *
  subst hlm
  -- the class's loop
  have key := lp (L := fun f j (st : Int32) => f_X_stableAt_L17 l1 0 on ot (iI n) a1 a2 a3 a4 (iI fb) (iI ((bitsN (canP S O T K (H0 K Y Z) sl) n : Nat) : Int)) (iI ((BS S O T K (H0 K Y Z) sl fb n).1 : Nat)) (iI ((BS S O T K (H0 K Y Z) sl fb n).2 : Nat)) a5 (iI (l.length : Nat)) f st (iI (j : Int))) (n := l.length) (I := fun j st => st = iI (((l.take j).filter N).length : Nat) ∧ ∀ c : Nat, c < ((l.take j).filter N).length → l1 ≠ iI c) (Post := fun r => (∃ R b c, r = .inl R ∧ R.2.1 = 0 ∧ c ≤ 26 ∧ l1 = iI (c : Nat) ∧ (l.filter N)[c]? = some b ∧ R.1 = iI (b : Nat)) ∨ (r = .inr () ∧ ∀ c : Nat, c < (l.filter N).length → l1 ≠ iI c)) ?_ ?_ fu 0 (0 : Int32) (by omega) (by have := fu_big; omega) ⟨rfl, fun c hc => by simp at hc⟩
  · obtain ⟨r0, hr0, he⟩ := key
    have he2 : f_X_stableAt_L17 l1 0 on ot (iI n) a1 a2 a3 a4 (iI fb) (iI ((bitsN (canP S O T K (H0 K Y Z) sl) n : Nat) : Int)) (iI ((BS S O T K (H0 K Y Z) sl fb n).1 : Nat)) (iI ((BS S O T K (H0 K Y Z) sl fb n).2 : Nat)) a5 (iI (l.length : Nat)) fu (0 : Int32) (0 : Int32) = some r0 := he
    unfold f_X_stableAt f_M_stableAt f_M_stables
    rw [q_noTable ho.2.2.2.2 ho.1.1, w1, w4]
    simp only [bd_some, eq_self, if_true]
    rw [he2, u2]
    simp only [bd_some]
    rcases hr0 with ⟨R, b, c, rfl, q1, q2, q3, q4, q5⟩ | ⟨rfl, q⟩
    · have hb := hlt b (List.mem_filter.mp (List.mem_of_getElem? q4)).1
      have hr := u3 c (by omega) q3
      rw [q4] at hr
      simp only at hr
      have hl0 : (0 : Int32) ≤ l1 := by rw [q3, i_0, iI_le] <;> omega
      rw [if_pos hl0, hr, i_m1, if_neg (by rw [iI_eq] <;> omega)]
      exact ⟨_, _, rfl, rfl, by
        show qz R.1 R.2.1 _ _ _
        rw [q1]; exact qz_0 q5⟩
    · by_cases hl0 : (0 : Int32) ≤ l1
      · obtain ⟨z, z1, z2, rfl⟩ := i_any l1
        rw [i_0, iI_le (by omega) (by omega) z1 z2] at hl0
        obtain ⟨i, rfl⟩ := Int.eq_ofNat_of_zero_le hl0
        have hr := u3 i (by omega) rfl
        have hnone : (l.filter N)[i]? = none := by
          cases hi : (l.filter N)[i]? with
          | none => rfl
          | some b => exact absurd rfl (q i (List.getElem?_eq_some_iff.mp hi).1)
        rw [hnone] at hr
        simp only at hr
        rw [if_pos (by rw [i_0, iI_le] <;> omega), hr, i_m1, if_pos rfl]
        exact ⟨_, _, rfl, rfl, qz_1⟩
      · rw [if_neg hl0]
        exact ⟨_, _, rfl, rfl, qz_1⟩
  · intro f j st hj hst
    obtain ⟨hst, hno⟩ := hst
    subst hst
    obtain ⟨b, hb⟩ : ∃ b, l[j]? = some b := ⟨l[j], by simp⟩
    have hb2 := hlt b (List.mem_of_getElem? hb)
    have hlen2 := len_tk l j N
    simp only [f_X_stableAt_L17]
    simp (disch := omega) only [iI_le, iI_ck, iI_cl, hbi j b hb]
    rw [if_neg (by omega), g2 b hb2]
    simp only [bd_some, b01_eq0, lt, i_1, iI_add]
    cases hN : N b
    · left
      refine ⟨_, ⟨rfl, ?_⟩, ?_⟩
      · rw [tk hb, hN]; simpa using hno
      · rw [tk hb, hN]; simp
    · by_cases c : iI ((((l.take j).filter N).length : Nat) : Int) = l1
      · right
        simp only [Bool.true_eq_false, if_false, if_pos c]
        exact ⟨_, Or.inl ⟨(iI (b : Nat), 0, a1, a2, a3, a4, iI (fb : Nat), iI ((bitsN (canP S O T K (H0 K Y Z) sl) n : Nat) : Int), iI ((BS S O T K (H0 K Y Z) sl fb n).1 : Nat), iI ((BS S O T K (H0 K Y Z) sl fb n).2 : Nat), a5, iI (l.length : Nat)), b, _, rfl, rfl, by omega, c.symm, tk_ge hb N hN, rfl⟩, rfl⟩
      · left
        rw [if_neg c]
        refine ⟨_, ⟨rfl, ?_⟩, ?_⟩
        · rw [tk hb, hN]
          intro c' hc'
          simp only [if_true, List.length_append, List.length_cons, List.length_nil] at hc'
          by_cases d : c' < ((l.take j).filter N).length
          · exact hno c' d
          · have : c' = ((l.take j).filter N).length := by omega
            subst this
            exact fun e => c e.symm
        · rw [tk hb, hN]; simp
  · intro f st hst
    refine ⟨.inr (), Or.inr ⟨rfl, by have := hst.2; rwa [List.take_length] at this⟩, ?_⟩
    simp only [f_X_stableAt_L17]
    simp (disch := omega) only [iI_le]
    rw [if_pos (by omega)]
end
