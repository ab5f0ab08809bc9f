/-! a better seat, where a fork is best -/
theorem i_99999 : (99999 : Int32) = iI 99999 := by decide +kernel
theorem xv_fork {x : Nat → Int32} {S O T K Y Z : Nat → Nat} {p n fb fb' : Nat} (hp : p ≤ 5) (hn : n ≤ 10) (h : xv x S O T K Y Z p n fb) : xv (upd x 56 (iI (fb' : Nat))) S O T K Y Z p n fb' := by
  obtain ⟨h1, h2, h3, h4⟩ := h
  refine ⟨fun q hq => by rw [upd_n (by omega)]; exact h1 q hq, fun k hk => ?_, by rw [upd_n (by omega)]; exact h3, upd_s _ _ _⟩
  obtain ⟨a, b, c, d, f⟩ := h2 k hk
  exact ⟨by rw [upd_n (by omega)]; exact a, by rw [upd_n (by omega)]; exact b, by rw [upd_n (by omega)]; exact c, by rw [upd_n (by omega)]; exact d, by rw [upd_n (by omega)]; exact f⟩
section
variable {so on ot ki ye sa v x sp' s1 s2 s3 s4 s9 : Nat → Int32} {s5 s6 s7 s8 s10 mm ms mc : Int32} {S O T K Y Z : Nat → Nat} {p n fb ns sl q q' : Nat}
theorem e_better (h : PT so on ot ki ye sa v S O T K Y Z p n fb ns sl) (l : Int32) : ∃ R R', f_X_better l (iI ns) (iI sl) (iI p) (iI fb) so on ot ki ye sa (iI n) s1 s2 s3 s4 s5 s6 s7 s8 s9 s10 = some R ∧ f_M_better l v x mm ms mc sp' (iI ns) (iI sl) (iI p) = some R' ∧ qz R.1 R.2.1 R'.1 R'.2.2.1 R'.2.2.2.1 := by
  obtain ⟨hc, hv, ho⟩ := h
  have p5 := ho.1.1
  unfold f_X_better f_M_better
  rcases pers p5 l with ⟨q, hq, rfl, e1, e2⟩ | ⟨e1, e2⟩
  · obtain ⟨x', w1, w2, -⟩ := r_worksX (x := x) hv ho
    obtain ⟨sp2, w3⟩ := r_matchB (sp := sp') w2 ho.1 (show sl < 10 by have := ho.2.2.2.1; omega)
    obtain ⟨R, w4, w5⟩ := q_fedBehind (sso := s1) (shd := s2) (bo := s3) (sp := s4) (bi := s9) (t := 0) hc ho (by omega)
    have w4' : f_X_fedBehind (0 : Int32) (iI sl) (iI fb) so on ot ki ye sa (iI n) s1 s2 s3 s4 s9 = some R := w4
    rw [e1, e2, w1, w4']
    simp only [bd_some, z10, eq_self, if_true, if_false]
    rw [w3]
    simp only [bd_some, w5]
    have ns10 := ho.1.2.2.1
    refine lq (L := fun f j (st : Int32 × Int32 × (Nat → Int32) × (Nat → Int32) × (Nat → Int32) × (Nat → Int32) × Int32 × Int32 × Int32 × Int32 × (Nat → Int32) × Int32) => f_X_better_L22 (iI q) (iI ns) (iI sl) (iI p) (iI fb) so on ot ki ye sa (iI n) f st.1 st.2.1 (iI (j : Int)) st.2.2.1 st.2.2.2.1 st.2.2.2.2.1 st.2.2.2.2.2.1 st.2.2.2.2.2.2.1 st.2.2.2.2.2.2.2.1 st.2.2.2.2.2.2.2.2.1 st.2.2.2.2.2.2.2.2.2.1 st.2.2.2.2.2.2.2.2.2.2.1 st.2.2.2.2.2.2.2.2.2.2.2) (L' := fun f j (st : Int32 × Int32 × (Nat → Int32) × Int32 × Int32 × Int32 × (Nat → Int32)) => f_M_better_L34 (iI q) v (iI ns) (iI sl) (iI p) f st.1 st.2.1 (iI (j : Int)) st.2.2.1 st.2.2.2.1 st.2.2.2.2.1 st.2.2.2.2.2.1 st.2.2.2.2.2.2) (n := ns) (I := fun j a b => a.1 = b.2.1 ∧ a.2.1 = b.1 ∧ ∃ s, xv b.2.2.1 (setN S q s) O T K Y Z p n fb) ?_ ?_ fu 0 (_, _, R.2) (_, _, x', _, _, _, sp2) (by omega) (by have := fu_big; omega) ⟨rfl, rfl, S q, by rw [setN_id]; exact w2⟩
    · intro f f' j st st' hj hst
      obtain ⟨i1, i2, s, i3⟩ := hst
      obtain ⟨bb, u1, u2, -⟩ := e_isFree hc hv ho (show j < 1000 by omega)
      simp only [f_X_better_L22, f_M_better_L34]
      simp (disch := omega) only [iI_le]
      rw [if_neg (by omega), if_neg (by omega), u1, u2]
      simp only [bd_some, b01_eq0]
      cases bb
      · left
        refine ⟨(st.1, st.2.1, st.2.2), st', ⟨i1, i2, s, i3⟩, by simp only [lt, i_1, iI_add]; rfl, by simp only [lt, i_1, iI_add]; rfl⟩
      · obtain ⟨c0, c1, c2, c3, c4, c5⟩ := hc
        obtain ⟨⟨p5, n10, ns10, f1, t1, b⟩, ho2, hzy, hsl, hp0⟩ := ho
        obtain ⟨so', hd', g1, a1, a2⟩ := q_lay (sso := st.2.2.1) (shd := st.2.2.2.1) (fb := iI fb) n10 p5 c0 c3 c4 c5 (fun k hk => by have := b k hk; omega)
        have hH : ∀ k, k < n → K k < 3 ∧ H0 K Y Z k < 100000 := fun k hk => ⟨(b k hk).2.2.2.1, H0_lt (b k hk).2.2.2.2.1⟩
        have t2 : ∀ i, i < p → setN S q j i < 10 := fun i hi => Nat.lt_of_lt_of_le (setN_lt t1 hj i hi) ns10
        obtain ⟨bo', sp3, bi', g2, a3⟩ := q_settleB (bo := st.2.2.2.2.1) (sp := st.2.2.2.2.2.1) (bi := st.2.2.2.2.2.2.2.2.2.2.1) n10 p5 (ar_set (q := q) (s := j) a1) c1 c2 c3 a2 hH ho2 t2 (show sl < 10 by omega) (Nat.lt_of_lt_of_le f1 (two10 ns10))
        have hB := BS_lt (K := K) (H := H0 K Y Z) (sl := sl) (fb := fb) n10 (fun k hk => ⟨(b k hk).1, (b k hk).2.1⟩) t2
        have i4 := xv_set (q := q) (s := j) p5 hq i3
        rw [setN_2] at i4
        obtain ⟨sp4, g3⟩ := r_matchB (sp := st'.2.2.2.2.2.2) i4 (xok_seat (show xok S O T K Y Z p n fb ns from ⟨p5, n10, ns10, f1, t1, b⟩) (setN_lt t1 hj)) (show sl < 10 by omega)
        simp only [Bool.not_true, Bool.true_eq_false, if_false, if_true]
        rw [g1]
        simp only [bd_some]
        simp (disch := omega) only [iI_ck, iI_cl]
        rw [g2, g3]
        simp only [bd_some]
        rw [q_fedCount hB.1]
        simp only [bd_some, lt, i1, i2, i_1, iI_add]
        generalize iI ((2 * pc10 (BS (setN S q j) O T K (H0 K Y Z) sl fb n).1 : Nat) : Int) = z
        left
        by_cases c : st'.1 < z
        · rw [if_pos c, if_neg (nle_of_lt c)]
          exact ⟨(iI j, z, _, _, _, _, _, _, _, _, _, _), (z, iI j, _, _, _, _, _), ⟨rfl, rfl, j, i4⟩, rfl, rfl⟩
        · rw [if_neg c, if_pos (le_of_nlt c)]
          exact ⟨(st'.2.1, st'.1, _, _, _, _, _, _, _, _, _, _), (st'.1, st'.2.1, _, _, _, _, _), ⟨rfl, rfl, j, i4⟩, rfl, rfl⟩
    · intro f f' st st' hst
      simp only [f_X_better_L22, f_M_better_L34]
      simp (disch := omega) only [iI_le]
      rw [if_pos (by omega), if_pos (by omega)]
      exact ⟨_, _, _, _, rfl, rfl, rfl, rfl, qz_0 hst.1⟩
  · rw [e1, e2]; exact ⟨_, _, rfl, rfl, qz_1⟩
theorem e_forkAt (h : PT so on ot ki ye sa v S O T K Y Z p n fb ns sl) : ∃ R R', f_X_forkAt (iI ns) (iI sl) (iI p) (iI fb) so on ot ki ye sa (iI n) s1 s2 s3 s4 s5 s6 s7 s8 s9 s10 = some R ∧ f_M_forkAt v x mm ms mc sp' (iI ns) (iI sl) = some R' ∧ qz R.1 R.2.1 R'.1 R'.2.2.1 R'.2.2.2.1 := by
  obtain ⟨hc, hv, ho⟩ := h
  have p5 := ho.1.1
  obtain ⟨x', w1, w2, -⟩ := r_worksX (x := x) hv ho
  unfold f_X_forkAt f_M_forkAt
  rw [q_noTable ho.2.2.2.2 ho.1.1, w1]
  simp only [bd_some, eq_self, if_true]
  have ns10 := ho.1.2.2.1
  refine lq (L := fun f j (st : Int32 × Int32 × (Nat → Int32) × (Nat → Int32) × (Nat → Int32) × (Nat → Int32) × Int32 × Int32 × Int32 × Int32 × (Nat → Int32) × Int32) => f_X_forkAt_L16 (iI ns) (iI sl) (iI fb) so on ot ki ye sa (iI n) f st.1 st.2.1 (iI (j : Int)) st.2.2.1 st.2.2.2.1 st.2.2.2.2.1 st.2.2.2.2.2.1 st.2.2.2.2.2.2.1 st.2.2.2.2.2.2.2.1 st.2.2.2.2.2.2.2.2.1 st.2.2.2.2.2.2.2.2.2.1 st.2.2.2.2.2.2.2.2.2.2.1 st.2.2.2.2.2.2.2.2.2.2.2) (L' := fun f j (st : Int32 × Int32 × (Nat → Int32) × Int32 × Int32 × Int32 × (Nat → Int32)) => f_M_forkAt_L31 v (iI ns) (iI sl) f st.1 st.2.1 (iI (j : Int)) st.2.2.1 st.2.2.2.1 st.2.2.2.2.1 st.2.2.2.2.2.1 st.2.2.2.2.2.2) (n := ns) (I := fun j a b => a.1 = b.2.1 ∧ ((a.1 = iI (-2) ∧ b.1 = iI 99999) ∨ (¬ a.1 = iI (-2) ∧ a.2.1 = b.1)) ∧ ∃ fb', xv b.2.2.1 S O T K Y Z p n fb') ?_ ?_ fu 0 (_, _, s1, s2, s3, s4, s5, s6, s7, s8, s9, s10) (_, _, x', mm, ms, mc, sp') (by omega) (by have := fu_big; omega) ⟨rfl, Or.inl ⟨i_m2, i_99999⟩, fb, w2⟩
  · intro f f' j st st' hj hst
    obtain ⟨i1, i2, fb', i3⟩ := hst
    obtain ⟨c0, c1, c2, c3, c4, c5⟩ := hc
    obtain ⟨⟨p5, n10, ns10, f1, t1, b⟩, ho2, hzy, hsl, hp0⟩ := ho
    have fbl : fb < 1024 := Nat.lt_of_lt_of_le f1 (two10 ns10)
    simp only [f_X_forkAt_L16, f_M_forkAt_L31]
    simp (disch := omega) only [iI_le, ck56, cl56, hv.2.2.2]
    rw [if_neg (by omega), if_neg (by omega), q_has (by omega) (by omega), r_bit (by omega) (by omega)]
    simp only [bd_some, b01_eq0]
    cases hb : fb.testBit j
    · obtain ⟨so', hd', g1, a1, a2⟩ := q_lay (sso := st.2.2.1) (shd := st.2.2.2.1) (fb := iI fb) n10 p5 c0 c3 c4 c5 (fun k hk => by have := b k hk; omega)
      have hH : ∀ k, k < n → K k < 3 ∧ H0 K Y Z k < 100000 := fun k hk => ⟨(b k hk).2.2.2.1, H0_lt (b k hk).2.2.2.2.1⟩
      have t2 : ∀ i, i < p → S i < 10 := fun i hi => Nat.lt_of_lt_of_le (t1 i hi) ns10
      have f2 : fb ||| 2 ^ j < 2 ^ ns := Nat.or_lt_two_pow f1 (Nat.pow_lt_pow_right (by omega) hj)
      obtain ⟨bo', sp3, bi', g2, a3⟩ := q_settleB (bo := st.2.2.2.2.1) (sp := st.2.2.2.2.2.1) (bi := st.2.2.2.2.2.2.2.2.2.2.1) n10 p5 a1 c1 c2 c3 a2 hH ho2 t2 (show sl < 10 by omega) (Nat.lt_of_lt_of_le f2 (two10 ns10))
      have hB := BS_sl (K := K) (H := H0 K Y Z) (sl := sl) (fb := fb ||| 2 ^ j) n10 (fun k hk => ⟨(b k hk).1, (b k hk).2.1⟩) t2
      have i4 := xv_fork (fb' := fb ||| 2 ^ j) p5 n10 i3
      obtain ⟨sp4, g3⟩ := r_matchB (sp := st'.2.2.2.2.2.2) i4 (show xok S O T K Y Z p n (fb ||| 2 ^ j) ns from ⟨p5, n10, ns10, f2, t1, b⟩) (show sl < 10 by omega)
      simp only [if_true]
      rw [g1]
      simp only [bd_some, lt]
      rw [iI_shl1 (by omega), iI_or, g2, g3]
      simp only [bd_some, i1, i_1, iI_add]
      generalize (BS S O T K (H0 K Y Z) sl (fb ||| 2 ^ j) n).2 = z at *
      left
      rcases i2 with ⟨i2, i5⟩ | ⟨i2, i5⟩
      · rw [i1] at i2
        rw [i_m2, i2, i5]
        simp only [eq_self, if_true, bd_some]
        rw [if_pos (by rw [iI_lt] <;> omega)]
        exact ⟨(iI j, iI z, _, _, _, _, _, _, _, _, _, _), (iI z, iI j, _, _, _, _, _), ⟨rfl, Or.inr ⟨by rw [iI_eq] <;> omega, rfl⟩, _, i4⟩, rfl, rfl⟩
      · rw [i1] at i2
        rw [i_m2, if_neg i2, i5]
        by_cases c : iI (z : Int) < st'.1
        · rw [if_neg (nle_of_lt c), if_pos c]
          exact ⟨(iI j, iI z, _, _, _, _, _, _, _, _, _, _), (iI z, iI j, _, _, _, _, _), ⟨rfl, Or.inr ⟨by rw [iI_eq] <;> omega, rfl⟩, _, i4⟩, rfl, rfl⟩
        · rw [if_pos (le_of_nlt c), if_neg c]
          exact ⟨(st'.2.1, st'.1, _, _, _, _, _, _, _, _, _, _), (st'.1, st'.2.1, _, _, _, _, _), ⟨rfl, Or.inr ⟨i2, rfl⟩, _, i4⟩, rfl, rfl⟩
    · left
      refine ⟨st, st', ⟨i1, i2, fb', i3⟩, by simp only [lt, i_1, iI_add]; rfl, by simp only [lt, i_1, iI_add]; rfl⟩
  · intro f f' st st' hst
    simp only [f_X_forkAt_L16, f_M_forkAt_L31]
    simp (disch := omega) only [iI_le]
    rw [if_pos (by omega), if_pos (by omega)]
    exact ⟨_, _, _, _, rfl, rfl, rfl, rfl, qz_0 hst.1⟩
end
