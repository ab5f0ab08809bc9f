/-! what a pair is, who feeds whom, whom one has by the best match -/
section
variable {so on ot ki ye sa v x sp' s1 s2 s3 s4 s9 : Nat → Int32} {s5 s6 s7 s8 s10 mm ms mc : Int32} {S O T K Y Z : Nat → Nat} {p n fb ns sl q q' : Nat}
theorem e_pair (h : PT so on ot ki ye sa v S O T K Y Z p n fb ns sl) (l l' : Int32) : ∃ R R', f_X_pair l l' (iI sl) (iI fb) so on ot ki ye sa (iI n) = some R ∧ f_M_pair l l' v x (iI ns) (iI sl) = some R' ∧ qz R.1 R.2 R'.1 R'.2.2.1 R'.2.2.2.1 := by
  obtain ⟨hc, hv, ho⟩ := h
  unfold f_X_pair f_M_pair
  rcases prs ho.1.2.1 hv.2.2.1 l with ⟨k, hk, rfl, e1, e2⟩ | ⟨e1, e2⟩
  · obtain ⟨x', w1, w2, -⟩ := r_worksX (x := x) hv ho
    have hh := r_handleOf w2 ho.1 hk
    have hF := r_isFeeding w2 ho.1 hk (show sl < 10 by have := ho.2.2.2.1; omega)
    have hS := r_slopsOf w2 ho.1 hk
    have hF2 := q_canFeedNow hc ho hk
    obtain ⟨c0, c1, c2, c3, c4, c5⟩ := hc
    obtain ⟨⟨p5, n10, ns10, f1, t1, b⟩, ho2, hzy, hsl, hp0⟩ := ho
    obtain ⟨b1, b2, b3, b4, b5, b6⟩ := b k hk
    have hh2 := q_handle n10 hk c3 c4 c5 b4 (by omega) (by omega)
    obtain ⟨x1, x2, x3, x4, x5⟩ := w2.2.1 k hk
    have t2 := t1 _ b1
    have t3 := t1 _ b2
    have hS2 := q_slopped (show S (O k) < 10 by omega) (show S (T k) < 10 by omega) (Nat.lt_of_lt_of_le f1 (two10 ns10))
    obtain ⟨z, z1, z2, rfl⟩ := i_any l'
    rw [e1, e2]
    simp only [bd_some, z10, eq_self, if_true, if_false]
    by_cases hz : 0 ≤ z ∧ z ≤ 7
    · have hin : f_M_in (iI z) 0 7 = some 1 := by
        have := r_in (a := z) (b := 0) (c := 7) (by omega) (by omega) (by omega)
        rw [show decide ((0 : Int) ≤ z ∧ z ≤ 7) = true by simp; exact hz] at this
        exact this
      rw [hin]
      simp only [bd_some, z10, if_false, Bool.false_eq_true]
      rw [w1]
      simp only [bd_some]
      have hz8 : z = 0 ∨ z = 1 ∨ z = 2 ∨ z = 3 ∨ z = 4 ∨ z = 5 ∨ z = 6 ∨ z = 7 := by omega
      rcases hz8 with rfl | rfl | rfl | rfl | rfl | rfl | rfl | rfl
      · rw [if_pos (by decide), if_pos (by decide)]
        simp (disch := omega) only [ck5, cl5, x1, iI_ck, iI_cl, c1 k hk]
        exact ⟨_, _, rfl, rfl, qz_0 rfl⟩
      · rw [if_neg (by decide), if_pos (by decide), if_neg (by decide), if_pos (by decide)]
        simp (disch := omega) only [ck15, cl15, x2, iI_ck, iI_cl, c2 k hk]
        exact ⟨_, _, rfl, rfl, qz_0 rfl⟩
      · rw [if_neg (by decide), if_neg (by decide), if_pos (by decide), if_neg (by decide), if_neg (by decide), if_pos (by decide)]
        simp (disch := omega) only [ck25, cl25, x3, iI_ck, iI_cl, c4 k hk]
        exact ⟨_, _, rfl, rfl, qz_0 rfl⟩
      · rw [if_neg (by decide), if_neg (by decide), if_neg (by decide), if_pos (by decide), if_neg (by decide), if_neg (by decide), if_neg (by decide), if_pos (by decide)]
        rw [hh, hh2]
        exact ⟨_, _, rfl, rfl, qz_0 rfl⟩
      · rw [if_neg (by decide), if_neg (by decide), if_neg (by decide), if_neg (by decide), if_pos (by decide), if_neg (by decide), if_neg (by decide), if_neg (by decide), if_neg (by decide), if_pos (by decide)]
        simp (disch := omega) only [ck45, cl45, x5, iI_ck, iI_cl, c3 k hk]
        exact ⟨_, _, rfl, rfl, qz_0 rfl⟩
      · rw [if_neg (by decide), if_neg (by decide), if_neg (by decide), if_neg (by decide), if_neg (by decide), if_pos (by decide), if_neg (by decide), if_neg (by decide), if_neg (by decide), if_neg (by decide), if_neg (by decide), if_pos (by decide)]
        simp (disch := omega) only [ck35, cl35, x4, iI_ck, iI_cl, c5 k hk]
        exact ⟨_, _, rfl, rfl, qz_0 rfl⟩
      · rw [if_neg (by decide), if_neg (by decide), if_neg (by decide), if_neg (by decide), if_neg (by decide), if_neg (by decide), if_pos (by decide), if_neg (by decide), if_neg (by decide), if_neg (by decide), if_neg (by decide), if_neg (by decide), if_neg (by decide), if_pos (by decide)]
        rw [hF, hF2]
        cases canP S O T K (H0 K Y Z) sl k
        · exact ⟨_, _, rfl, rfl, qz_0 rfl⟩
        · exact ⟨_, _, rfl, rfl, qz_0 rfl⟩
      · rw [if_neg (by decide), if_neg (by decide), if_neg (by decide), if_neg (by decide), if_neg (by decide), if_neg (by decide), if_neg (by decide), if_pos (by decide), if_neg (by decide), if_neg (by decide), if_neg (by decide), if_neg (by decide), if_neg (by decide), if_neg (by decide), if_neg (by decide)]
        simp (disch := omega) only [iI_ck, iI_cl, c1 k hk, c2 k hk, c0 _ b1, c0 _ b2]
        rw [hS2, hS]
        exact ⟨_, _, rfl, rfl, qz_0 rfl⟩
    · have hin : f_M_in (iI z) 0 7 = some 0 := by
        have h7 : ¬ iI z = iI 7 := by rw [iI_eq] <;> omega
        unfold f_M_in
        simp (disch := omega) only [i_0, i_7, iI_lt]
        by_cases c : z < 0
        · rw [if_pos c]; rfl
        · rw [if_neg c, if_pos (by omega)]; rfl
      rw [hin]
      simp only [bd_some, eq_self, if_true]
      simp (disch := omega) only [i_0, i_1, i_2, i_3, i_4, i_5, i_6, i_7, iI_eq]
      rw [if_neg (by omega), if_neg (by omega), if_neg (by omega), if_neg (by omega), if_neg (by omega), if_neg (by omega), if_neg (by omega), if_neg (by omega)]
      exact ⟨_, _, rfl, rfl, qz_1⟩
  · rw [e1, e2]; exact ⟨_, _, rfl, rfl, qz_1⟩
/-- a sum of two less one -/
theorem iI_less (a b c : Int) : iI a + iI b - iI c = iI (a + b - c) := by rw [iI_add, iI_sub]
theorem e_feederBits (hc : cv so on ot ki ye sa S O T K Y Z p n) (hx : xv x S O T K Y Z p n fb) (ho : nok S O T K Y Z p n fb ns sl) (hq : q < p) : ∃ r, f_X_feederBits (iI q) (iI sl) so on ot ki ye sa (iI n) = some r ∧ f_M_feedersOf (iI q) x (iI sl) = some r := by
  have p5 := ho.1.1
  have n10 := ho.1.2.1
  unfold f_X_feederBits f_M_feedersOf
  have key := lq (L := fun f j (st : Int32) => f_X_feederBits_L4 (iI q) (iI sl) so on ot ki ye sa (iI n) f st (iI (j : Int))) (L' := fun f j (st : Int32) => f_M_feedersOf_L4 (iI q) x (iI sl) f st (iI (j : Int))) (n := n) (K := fun x9 => some x9) (K' := fun x9 => some x9) (Post := fun r r' => r = r') (I := fun j a b => a = b) ?_ ?_ fu 0 (0 : Int32) (0 : Int32) (by omega) (by have := fu_big; omega) rfl
  · obtain ⟨r, r', e1, e2, rfl⟩ := key
    exact ⟨r, e1, e2⟩
  · intro f f' j st st' hj hst
    subst hst
    obtain ⟨b1, b2, b3, b4, b5, b6⟩ := ho.1.2.2.2.2.2 j hj
    obtain ⟨x1, x2, x3, x4, x5⟩ := hx.2.1 j hj
    have u1 := q_partner n10 hj hc.2.1 hc.2.2.1 (by omega) (by omega) (show q < 5 by omega)
    have u2 := q_canFeedNow hc ho hj
    have u3 := r_isFeeding hx ho.1 hj (show sl < 10 by have := ho.2.2.2.1; omega)
    have u4 := r_hasOne hx ho.1 hj (show q < 5 by omega)
    simp only [f_X_feederBits_L4, f_M_feedersOf_L4]
    simp (disch := omega) only [ck55, cl55, hx.2.2.1, iI_le]
    rw [if_neg (by omega), if_neg (by omega), u1, u4]
    simp only [bd_some]
    rw [u2, u3]
    simp (disch := omega) only [bd_some, b01_eq0, ck5, cl5, ck15, cl15, x1, x2, iI_less, lt]
    left
    by_cases d1 : O j = q
    · have hne : ¬ T j = q := by omega
      rw [if_pos d1]
      have n0 : ¬ iI (T j : Nat) < (0 : Int32) := by rw [i_0, iI_lt] <;> omega
      rw [if_neg n0]
      have e5 : (O j : Int) + (T j : Int) - (q : Int) = (T j : Int) := by omega
      rw [e5]
      cases canP S O T K (H0 K Y Z) sl j
      · exact ⟨st, st, rfl, by simp [bd, i_1, iI_add], by simp [bd, i_1, iI_add, d1]⟩
      · exact ⟨_, _, rfl, by simp [bd, i_1, iI_add]; rfl, by simp [bd, i_1, iI_add, d1]⟩
    · rw [if_neg d1]
      by_cases d2 : T j = q
      · rw [if_pos d2]
        have n0 : ¬ iI (O j : Nat) < (0 : Int32) := by rw [i_0, iI_lt] <;> omega
        rw [if_neg n0]
        have e5 : (O j : Int) + (T j : Int) - (q : Int) = (O j : Int) := by omega
        rw [e5]
        cases canP S O T K (H0 K Y Z) sl j
        · exact ⟨st, st, rfl, by simp [bd, i_1, iI_add], by simp [bd, i_1, iI_add, d2]⟩
        · exact ⟨_, _, rfl, by simp [bd, i_1, iI_add]; rfl, by simp [bd, i_1, iI_add, d2]⟩
      · rw [if_neg d2]
        have n0 : iI (-2) < (0 : Int32) := by decide
        rw [if_pos n0]
        exact ⟨st, st, rfl, by simp [bd, i_1, iI_add], by simp [bd, i_1, iI_add, d1, d2]⟩
  · intro f f' st st' hst
    simp only [f_X_feederBits_L4, f_M_feedersOf_L4]
    simp (disch := omega) only [ck55, cl55, hx.2.2.1, iI_le]
    rw [if_pos (by omega), if_pos (by omega)]
    exact ⟨_, _, _, _, rfl, rfl, rfl, rfl, hst⟩
theorem e_feeders (h : PT so on ot ki ye sa v S O T K Y Z p n fb ns sl) (l : Int32) : ∃ R R', f_X_feeders l (iI sl) (iI p) so on ot ki ye sa (iI n) = some R ∧ f_M_feeders l v x (iI sl) (iI p) = some R' ∧ qz R.1 R.2 R'.1 R'.2.2.1 R'.2.2.2.1 := by
  obtain ⟨hc, hv, ho⟩ := h
  have p5 := ho.1.1
  unfold f_X_feeders f_M_feeders
  rcases pers p5 l with ⟨q, hq, rfl, e1, e2⟩ | ⟨e1, e2⟩
  · obtain ⟨x', w1, w2, -⟩ := r_worksX (x := x) hv ho
    obtain ⟨r, u1, u2⟩ := e_feederBits hc w2 ho hq
    rw [e1, e2, w1, u1]
    simp only [bd_some, z10, eq_self, if_true, if_false]
    rw [u2]
    exact ⟨_, _, rfl, rfl, qz_0 rfl⟩
  · rw [e1, e2]; exact ⟨_, _, rfl, rfl, qz_1⟩
/-- whom one has by a match, which pair -/
theorem e_held (hc : cv so on ot ki ye sa S O T K Y Z p n) (hx : xv x S O T K Y Z p n fb) (ho : nok S O T K Y Z p n fb ns sl) (hq : q < p) {b : Nat} (hb : b < 1024) : (f_Scene_held (iI q) (iI b) on ot (iI n) = some (-2) ∧ f_M_mateBy (iI b) (iI q) x = some (-2) ∧ ∀ k, k < n → b.testBit k = true → ¬ (O k = q ∨ T k = q)) ∨ ∃ k, k < n ∧ b.testBit k = true ∧ (O k = q ∨ T k = q) ∧ f_Scene_held (iI q) (iI b) on ot (iI n) = some (iI (k : Nat)) ∧ f_M_mateBy (iI b) (iI q) x = some (iI ((if O k = q then T k else O k : Nat) : Int)) := by
  have p5 := ho.1.1
  have n10 := ho.1.2.1
  unfold f_Scene_held f_M_mateBy
  have key := lq (L := fun f j (_ : Unit) => f_Scene_held_L2 (iI q) (iI b) on ot (iI n) f (iI (j : Int))) (L' := fun f j (_ : Unit) => f_M_mateBy_L2 (iI b) (iI q) x f (iI (j : Int))) (n := n) (K := fun ox6 => sm ox6 (fun x6 => some (-2 : Int32))) (K' := fun ox6 => sm ox6 (fun x6 => some (-2 : Int32))) (Post := fun r r' => (r = -2 ∧ r' = -2 ∧ ∀ k, k < n → b.testBit k = true → ¬ (O k = q ∨ T k = q)) ∨ ∃ k, k < n ∧ b.testBit k = true ∧ (O k = q ∨ T k = q) ∧ r = iI (k : Nat) ∧ r' = iI ((if O k = q then T k else O k : Nat) : Int)) (I := fun j _ _ => ∀ k, k < j → b.testBit k = true → ¬ (O k = q ∨ T k = q)) ?_ ?_ fu 0 () () (by omega) (by have := fu_big; omega) (fun i hi => by omega)
  · obtain ⟨r, r', e1, e2, ⟨rfl, rfl, h⟩ | ⟨k, h1, h2, h3, rfl, rfl⟩⟩ := key
    · exact Or.inl ⟨e1, e2, h⟩
    · exact Or.inr ⟨k, h1, h2, h3, e1, e2⟩
  · intro f f' j st st' hj hst
    obtain ⟨b1, b2, b3, b4, b5, b6⟩ := ho.1.2.2.2.2.2 j hj
    obtain ⟨x1, x2, x3, x4, x5⟩ := hx.2.1 j hj
    have u1 := q_partner n10 hj hc.2.1 hc.2.2.1 (by omega) (by omega) (show q < 5 by omega)
    have u4 := r_hasOne hx ho.1 hj (show q < 5 by omega)
    simp only [f_Scene_held_L2, f_M_mateBy_L2]
    simp (disch := omega) only [ck55, cl55, hx.2.2.1, iI_le]
    rw [if_neg (by omega), if_neg (by omega), q_has (by omega) (by omega), r_bit (by omega) (by omega)]
    simp only [bd_some, b01_eq0]
    rw [u1, u4]
    simp (disch := omega) only [bd_some, b01_eq0, ck5, cl5, ck15, cl15, x1, x2, iI_less, lt]
    cases hbj : b.testBit j
    · left
      refine ⟨(), (), fun k hk hbk => ?_, by simp [bd, i_1, iI_add], by simp [bd, i_1, iI_add]⟩
      by_cases d : k = j
      · subst d; rw [hbj] at hbk; cases hbk
      · exact hst k (by omega) hbk
    · by_cases d1 : O j = q
      · have hne : ¬ T j = q := by omega
        right
        have n0 : ¬ iI (T j : Nat) < (0 : Int32) := by rw [i_0, iI_lt] <;> omega
        have e5 : (O j : Int) + (T j : Int) - (q : Int) = (T j : Int) := by omega
        rw [e5]
        refine ⟨.inl (iI j), .inl (iI (T j : Nat)), _, _, ?_, ?_, rfl, rfl, Or.inr ⟨j, hj, hbj, Or.inl d1, rfl, by rw [if_pos d1]⟩⟩
        · rw [if_pos d1]; simp [bd, n0]
        · simp [bd, d1]
      · by_cases d2 : T j = q
        · right
          have n0 : ¬ iI (O j : Nat) < (0 : Int32) := by rw [i_0, iI_lt] <;> omega
          have e5 : (O j : Int) + (T j : Int) - (q : Int) = (O j : Int) := by omega
          rw [e5]
          refine ⟨.inl (iI j), .inl (iI (O j : Nat)), _, _, ?_, ?_, rfl, rfl, Or.inr ⟨j, hj, hbj, Or.inr d2, rfl, by rw [if_neg d1]⟩⟩
          · rw [if_neg d1, if_pos d2]; simp [bd, n0]
          · simp [bd, d1, d2]
        · left
          have n0 : iI (-2) < (0 : Int32) := by decide
          refine ⟨(), (), fun k hk hbk => ?_, ?_, ?_⟩
          · by_cases d : k = j
            · subst d; intro h; rcases h with h | h <;> contradiction
            · exact hst k (by omega) hbk
          · rw [if_neg d1, if_neg d2]; simp [bd, n0, i_1, iI_add]
          · simp [bd, d1, d2, i_1, iI_add]
  · intro f f' st st' hst
    simp only [f_Scene_held_L2, f_M_mateBy_L2]
    simp (disch := omega) only [ck55, cl55, hx.2.2.1, iI_le]
    rw [if_pos (by omega), if_pos (by omega)]
    exact ⟨_, _, _, _, rfl, rfl, rfl, rfl, Or.inl ⟨rfl, rfl, hst⟩⟩
theorem BS_1024 (ho : nok S O T K Y Z p n fb ns sl) : (BS S O T K (H0 K Y Z) sl fb n).1 < 1024 := (BS_lt ho.1.2.1 (fun k hk => ⟨(ho.1.2.2.2.2.2 k hk).1, (ho.1.2.2.2.2.2 k hk).2.1⟩) (fun q hq => by have := ho.1.2.2.2.2.1 q hq; have := ho.1.2.2.1; omega)).1
theorem e_mate (h : PT so on ot ki ye sa v S O T K Y Z p n fb ns sl) (l : Int32) : ∃ R R', f_X_mate l (iI sl) (iI p) (iI fb) so on ot ki ye sa (iI n) s1 s2 s3 s4 s5 s6 s7 s8 s9 s10 = some R ∧ f_M_mate l v x mm ms mc sp' (iI ns) (iI sl) (iI p) = some R' ∧ qz R.1 R.2.1 R'.1 R'.2.2.1 R'.2.2.2.1 := by
  obtain ⟨hc, hv, ho⟩ := h
  have p5 := ho.1.1
  unfold f_X_mate f_M_mate
  rcases pers p5 l with ⟨q, hq, rfl, e1, e2⟩ | ⟨e1, e2⟩
  · obtain ⟨x', w1, w2, -⟩ := r_worksX (x := x) hv ho
    obtain ⟨sp2, w3⟩ := r_matchB (sp := sp') w2 ho.1 (show sl < 10 by have := ho.2.2.2.1; omega)
    obtain ⟨a1, a2, a3, a4, a5, w4, -⟩ := q_settleNow (sso := s1) (shd := s2) (bo := s3) (sp := s4) (bi := s9) hc ho
    rw [e1, e2, w1, w4]
    simp only [bd_some, z10, eq_self, if_true, if_false]
    rw [w3]
    simp only [bd_some]
    rcases e_held hc w2 ho hq (BS_1024 ho) with ⟨u1, u2, -⟩ | ⟨k, hk, hb, hor, u1, u2⟩
    · rw [u1, u2]
      exact ⟨_, _, rfl, rfl, qz_0 rfl⟩
    · obtain ⟨b1, b2, b3, b4, b5, b6⟩ := ho.1.2.2.2.2.2 k hk
      have n10 := ho.1.2.1
      rw [u1, u2]
      simp only [bd_some]
      rw [if_pos (by rw [i_0, iI_le] <;> omega), q_partner n10 hk hc.2.1 hc.2.2.1 (by omega) (by omega) (by omega)]
      refine ⟨_, _, rfl, rfl, qz_0 ?_⟩
      show (if O k = q then iI (T k) else if T k = q then iI (O k) else iI (-2)) = _
      by_cases d : O k = q
      · rw [if_pos d, if_pos d]
      · rw [if_neg d, if_neg d, if_pos (by omega)]
  · rw [e1, e2]; exact ⟨_, _, rfl, rfl, qz_1⟩
theorem e_starving (h : PT so on ot ki ye sa v S O T K Y Z p n fb ns sl) : ∃ R R', f_X_starving (iI sl) (iI p) (iI fb) so on ot ki ye sa (iI n) s1 s2 s3 s4 s5 s6 s7 s8 s9 s10 = some R ∧ f_M_starving v x sp' (iI ns) (iI sl) (iI p) = some R' ∧ qz R.1 R.2.1 R'.1 R'.2.2.1 R'.2.2.2.1 := by
  obtain ⟨hc, hv, ho⟩ := h
  have p5 := ho.1.1
  obtain ⟨x', w1, w2, -⟩ := r_worksX (x := x) hv ho
  obtain ⟨sp2, w3⟩ := r_matchB (sp := sp') w2 ho.1 (show sl < 10 by have := ho.2.2.2.1; omega)
  obtain ⟨a1, a2, a3, a4, a5, w4, -⟩ := q_settleNow (sso := s1) (shd := s2) (bo := s3) (sp := s4) (bi := s9) hc ho
  have hB := BS_1024 ho
  unfold f_X_starving f_M_starving
  rw [q_noTable ho.2.2.2.2 ho.1.1, w1, w4]
  simp only [bd_some, eq_self, if_true]
  rw [w3]
  simp only [bd_some]
  refine lq (L := fun f j (st : Int32) => f_X_starving_L17 (iI p) on ot (iI n) (iI ((BS S O T K (H0 K Y Z) sl fb n).1 : Nat)) f st (iI (j : Int))) (L' := fun f j (st : Int32) => f_M_starving_L31 x' (iI ((BS S O T K (H0 K Y Z) sl fb n).1 : Nat)) (iI p) f st (iI (j : Int))) (n := p) (I := fun j a b => a = b) ?_ ?_ fu 0 (0 : Int32) (0 : Int32) (by omega) (by have := fu_big; omega) rfl
  · intro f f' j st st' hj hst
    subst hst
    simp only [f_X_starving_L17, f_M_starving_L31]
    simp (disch := omega) only [iI_le]
    rw [if_neg (by omega), if_neg (by omega)]
    left
    rcases e_held hc w2 ho hj hB with ⟨u1, u2, -⟩ | ⟨k, hk, hb, hor, u1, u2⟩
    · rw [u1, u2]
      simp only [bd_some, lt]
      exact ⟨_, _, rfl, by simp only [i_1, iI_add]; rfl, by simp only [i_1, iI_add]; rfl⟩
    · obtain ⟨b1, b2, b3, b4, b5, b6⟩ := ho.1.2.2.2.2.2 k hk
      have n10 := ho.1.2.1
      have hlt : (if O k = j then T k else O k) < 5 := by split <;> omega
      rw [u1, u2]
      generalize (if O k = j then T k else O k) = y at *
      simp only [bd_some, lt]
      rw [if_pos (by rw [i_0, iI_le] <;> omega), i_m2, if_neg (by rw [iI_eq] <;> omega)]
      exact ⟨st, st, rfl, by simp only [i_1, iI_add]; rfl, by simp only [bd_some, Int32.or_zero, i_1, iI_add]; rfl⟩
  · intro f f' st st' hst
    simp only [f_X_starving_L17, f_M_starving_L31]
    simp (disch := omega) only [iI_le]
    rw [if_pos (by omega), if_pos (by omega)]
    exact ⟨_, _, _, _, rfl, rfl, rfl, rfl, qz_0 hst⟩
end
