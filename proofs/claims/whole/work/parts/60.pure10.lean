theorem r_mL59 {x sp : Nat → Int32} {S O T K Y Z : Nat → Nat} {p n fb ns sl : Nat} (hx : xv x S O T K Y Z p n fb) (ho : xok S O T K Y Z p n fb ns) (hs : sl < 10) {can : Nat → Bool} {SL : Nat → Nat} (hS : ∀ i, i < n → SL i < 1000) (h1 : ∀ k, k < n → sp k = if can k then iI (SL k : Nat) else iI (-1)) :
    f_M_matching_L59 x sp fu (0 : Int32) (0 : Int32) (0 : Int32) (1 : Int32) = some (iI ((Fm SL (lm can (djP (bothP O T)) n n)).1 : Nat), iI ((Fm SL (lm can (djP (bothP O T)) n n)).2 : Nat), iI ((1 + (lm can (djP (bothP O T)) n n).length : Nat) : Int)) := by
  have n10 := ho.2.1
  generalize hd : djP (bothP O T) = dj
  have hm1 : ∀ k, k < n → (sp k = (-1 : Int32)) = (can k = false) := by
    intro k hk
    have := hS k hk
    rw [h1 k hk, i_m1]
    cases can k
    · simp
    · simp only [if_true, Bool.true_eq_false]
      refine propext ⟨fun h => ?_, fun h => by cases h⟩
      rw [iI_eq (by omega) (by omega) (by omega) (by omega)] at h
      omega
  have inner : ∀ k, k < n → can k = true → f_M_matching_L100 (iI (k : Nat)) x sp fu (iI ((k + 1 : Nat) : Int)) (iI ((Fm SL (lm can dj n k ++ [2 ^ k])).1 : Nat)) (iI ((Fm SL (lm can dj n k ++ [2 ^ k])).2 : Nat)) (iI ((1 + (lm can dj n k ++ [2 ^ k]).length : Nat) : Int)) = some (iI ((Fm SL (lm can dj n (k + 1))).1 : Nat), iI ((Fm SL (lm can dj n (k + 1))).2 : Nat), iI ((1 + (lm can dj n (k + 1)).length : Nat) : Int)) := by
    intro k hk hc
    have hfin : lm can dj n (k + 1) = (lm can dj n k ++ [2 ^ k]) ++ lmI can dj k n := by rw [lm, if_pos hc]; simp
    obtain ⟨l1, l2⟩ := lm_ok (can := can) (dj := dj) n10 hS k (by omega)
    have ok : ∀ j, j ≤ n → (∀ b ∈ (lm can dj n k ++ [2 ^ k]) ++ lmI can dj k j, b < 1024 ∧ sumN b SL 10 < 100000) ∧ ((lm can dj n k ++ [2 ^ k]) ++ lmI can dj k j).length ≤ 200 := by
      intro j hj
      obtain ⟨j1, j2⟩ := lmI_ok (can := can) (dj := dj) n10 hk hS j hj
      refine ⟨fun b hb => ?_, by simp; omega⟩
      rw [List.mem_append, List.mem_append] at hb
      rcases hb with (hb | hb) | hb
      · exact l1 b hb
      · simp at hb; subst hb
        have e1 := hS k hk
        exact ⟨p_lt (by omega), by rw [sumN_two, if_pos (by omega)]; omega⟩
      · exact j1 b hb
    have key := lp (L := fun f j (st : Int32 × Int32 × Int32) => f_M_matching_L100 (iI (k : Nat)) x sp f (iI (j : Int)) st.1 st.2.1 st.2.2) (n := n) (I := fun j st => k + 1 ≤ j ∧ st = (iI ((Fm SL ((lm can dj n k ++ [2 ^ k]) ++ lmI can dj k j)).1 : Nat), iI ((Fm SL ((lm can dj n k ++ [2 ^ k]) ++ lmI can dj k j)).2 : Nat), iI ((1 + ((lm can dj n k ++ [2 ^ k]) ++ lmI can dj k j).length : Nat) : Int))) (Post := fun r => r = (iI ((Fm SL (lm can dj n (k + 1))).1 : Nat), iI ((Fm SL (lm can dj n (k + 1))).2 : Nat), iI ((1 + (lm can dj n (k + 1)).length : Nat) : Int))) (fun f j st hj hst => ?_) (fun f st hst => ?_) fu (k + 1) (iI ((Fm SL (lm can dj n k ++ [2 ^ k])).1 : Nat), iI ((Fm SL (lm can dj n k ++ [2 ^ k])).2 : Nat), iI ((1 + (lm can dj n k ++ [2 ^ k]).length : Nat) : Int)) (by omega) (by have := fu_big; omega) ⟨by omega, by rw [lmI_0 can dj k (k + 1) (by omega), List.append_nil]⟩
    · obtain ⟨r, hr, he⟩ := key
      subst hr
      exact he
    · obtain ⟨hkj, hst⟩ := hst
      subst hst
      obtain ⟨o1, o2⟩ := ok j (by omega)
      obtain ⟨F1, F2⟩ := Fm_ok _ o1
      have sk := hS k hk
      have sj := hS j hj
      have stp : f_M_matching_L100 (iI (k : Nat)) x sp (f + 1) (iI (j : Int)) (iI ((Fm SL ((lm can dj n k ++ [2 ^ k]) ++ lmI can dj k j)).1 : Nat)) (iI ((Fm SL ((lm can dj n k ++ [2 ^ k]) ++ lmI can dj k j)).2 : Nat)) (iI ((1 + ((lm can dj n k ++ [2 ^ k]) ++ lmI can dj k j).length : Nat) : Int)) = if (can j && dj k j) = true then bd (f_M_tries (iI ((2 ^ k ||| 2 ^ j : Nat) : Int)) (iI ((SL k + SL j : Nat) : Int)) (iI ((Fm SL ((lm can dj n k ++ [2 ^ k]) ++ lmI can dj k j)).1 : Nat)) (iI ((Fm SL ((lm can dj n k ++ [2 ^ k]) ++ lmI can dj k j)).2 : Nat)) (iI ((1 + ((lm can dj n k ++ [2 ^ k]) ++ lmI can dj k j).length : Nat) : Int))) (fun x11 => f_M_matching_L100 (iI (k : Nat)) x sp f (iI ((j + 1 : Nat) : Int)) x11.1 x11.2.1 x11.2.2) else f_M_matching_L100 (iI (k : Nat)) x sp f (iI ((j + 1 : Nat) : Int)) (iI ((Fm SL ((lm can dj n k ++ [2 ^ k]) ++ lmI can dj k j)).1 : Nat)) (iI ((Fm SL ((lm can dj n k ++ [2 ^ k]) ++ lmI can dj k j)).2 : Nat)) (iI ((1 + ((lm can dj n k ++ [2 ^ k]) ++ lmI can dj k j).length : Nat) : Int)) := by
        rw [f_M_matching_L100]
        simp only [lt]
        simp (disch := omega) only [ck55, cl55, hx.2.2.1, iI_le, iI_ck, iI_cl]
        rw [if_neg (by omega), r_share hx ho hk hj, hd]
        have sh1 : (1 : Int32) <<< (iI (k : Int) &&& 31) = iI ((2 ^ k : Nat) : Int) := iI_shl1 (by omega)
        have sh2 : (1 : Int32) <<< (iI (j : Int) &&& 31) = iI ((2 ^ j : Nat) : Int) := iI_shl1 (by omega)
        rw [sh1, sh2, iI_or]
        simp only [bd, b01_eq0, hm1 j hj]
        simp only [i_1, iI_add]
        cases cj : can j
        · simp
        · rw [h1 k hk, h1 j hj, hc, cj]
          simp only [if_true, Bool.true_eq_false, if_false, iI_add, Bool.true_and]
          cases dj k j
          · simp
          · simp
      cases cc : (can j && dj k j)
      · refine Or.inl ⟨_, ⟨by omega, rfl⟩, ?_⟩
        rw [stp, cc, lmI, cc]
        simp
      · have hap : (lm can dj n k ++ [2 ^ k]) ++ lmI can dj k (j + 1) = ((lm can dj n k ++ [2 ^ k]) ++ lmI can dj k j) ++ [2 ^ k ||| 2 ^ j] := by
          rw [lmI, cc, show (decide (k < j)) = true by simp; omega]; simp
        have hlen : (((lm can dj n k ++ [2 ^ k]) ++ lmI can dj k j) ++ [2 ^ k ||| 2 ^ j]).length = ((lm can dj n k ++ [2 ^ k]) ++ lmI can dj k j).length + 1 := by
          rw [List.length_append]; rfl
        refine Or.inl ⟨_, ⟨by omega, rfl⟩, ?_⟩
        rw [stp, cc, if_pos rfl, r_tries (or_lt (by omega) (by omega)) F1 (by omega) F2 (by omega), hap, Fm_add, hlen]
        simp only [bd]
        rw [sumN_or (by omega), sumN_two, sumN_two, if_pos (by omega), if_pos (by omega)]
        rfl
    · obtain ⟨-, hst⟩ := hst
      subst hst
      refine ⟨_, rfl, ?_⟩
      rw [hfin, f_M_matching_L100]
      simp (disch := omega) only [ck55, cl55, hx.2.2.1, iI_le]
      rw [if_pos (by omega)]
  have key := lp (L := fun f j (st : Int32 × Int32 × Int32) => f_M_matching_L59 x sp f (iI (j : Int)) st.1 st.2.1 st.2.2) (n := n) (I := fun j st => st = (iI ((Fm SL (lm can dj n j)).1 : Nat), iI ((Fm SL (lm can dj n j)).2 : Nat), iI ((1 + (lm can dj n j).length : Nat) : Int))) (Post := fun r => r = (iI ((Fm SL (lm can dj n n)).1 : Nat), iI ((Fm SL (lm can dj n n)).2 : Nat), iI ((1 + (lm can dj n n).length : Nat) : Int))) (fun f j st hj hst => ?_) (fun f st hst => ?_) fu 0 (iI (0 : Nat), iI (0 : Nat), iI (1 : Nat)) (by omega) (by have := fu_big; omega) rfl
  · obtain ⟨r, hr, he⟩ := key
    subst hr
    exact he
  · subst hst
    obtain ⟨l1, l2⟩ := lm_ok (can := can) (dj := dj) n10 hS j (by omega)
    obtain ⟨F1, F2⟩ := Fm_ok _ l1
    have sj := hS j hj
    refine Or.inl ⟨_, rfl, ?_⟩
    have sh2 : (1 : Int32) <<< (iI (j : Int) &&& 31) = iI ((2 ^ j : Nat) : Int) := iI_shl1 (by omega)
    cases cj : can j
    · rw [show lm can dj n (j + 1) = lm can dj n j by rw [lm, cj]; simp]
      simp only [f_M_matching_L59, lt]
      simp (disch := omega) only [ck55, cl55, hx.2.2.1, iI_le, iI_ck, iI_cl]
      rw [if_neg (by omega)]
      simp only [hm1 j hj, cj, if_true]
      simp only [i_1, iI_add]
      rfl
    · have hin := inner j hj cj
      rw [Fm_add, List.length_append, sumN_two, if_pos (by omega)] at hin
      simp only [f_M_matching_L59, lt]
      simp (disch := omega) only [ck55, cl55, hx.2.2.1, iI_le, iI_ck, iI_cl]
      rw [if_neg (by omega)]
      simp only [hm1 j hj, cj, Bool.true_eq_false, if_false]
      rw [sh2, h1 j hj, cj, if_pos rfl, r_tries (p_lt (by omega)) F1 (by omega) F2 (by omega)]
      simp only [bd, i_1, iI_add]
      have hin2 : f_M_matching_L100 (iI (j : Int)) x sp fu (iI ((j : Int) + 1)) (iI ((trM ((Fm SL (lm can dj n j)).1, (Fm SL (lm can dj n j)).2) (2 ^ j) (SL j)).1 : Nat)) (iI ((trM ((Fm SL (lm can dj n j)).1, (Fm SL (lm can dj n j)).2) (2 ^ j) (SL j)).2 : Nat)) (iI ((1 + (lm can dj n j).length + 1 : Nat) : Int)) = some (iI ((Fm SL (lm can dj n (j + 1))).1 : Nat), iI ((Fm SL (lm can dj n (j + 1))).2 : Nat), iI ((1 + (lm can dj n (j + 1)).length : Nat) : Int)) := hin
      rw [hin2]
      rfl
  · subst hst
    refine ⟨_, rfl, ?_⟩
    rw [f_M_matching_L59]
    simp (disch := omega) only [ck55, cl55, hx.2.2.1, iI_le]
    rw [if_pos (by omega)]
