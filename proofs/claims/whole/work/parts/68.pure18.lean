/-! who is fed, by years, by the best match -/
section
variable {so on ot ki ye sa v x sp' s1 s2 s3 s4 s9 : Nat → Int32} {s5 s6 s7 s8 s10 mm ms mc : Int32} {S O T K Y Z : Nat → Nat} {p n fb ns sl : Nat}
theorem e_fed (h : PT so on ot ki ye sa v S O T K Y Z p n fb ns sl) : ∃ R R', f_X_fed (iI sl) (iI p) (iI fb) so on ot ki ye sa (iI n) s1 s2 s3 s4 s5 s6 s7 s8 s9 s10 = some R ∧ f_M_fed v x sp' (iI ns) (iI sl) = some R' ∧ qz R.1 R.2.1 R'.1 R'.2.2.1 R'.2.2.2.1 := by
  obtain ⟨hc, hv, ho⟩ := h
  obtain ⟨x', w1, w2, -⟩ := r_worksX (x := x) hv ho
  obtain ⟨sp2, w3⟩ := r_matchB (sp := sp') w2 ho.1 (show sl < 10 by have := ho.2.2.2.1; omega)
  obtain ⟨R, w4, w5⟩ := q_fedBehind (sso := s1) (shd := s2) (bo := s3) (sp := s4) (bi := s9) (t := 0) hc ho (by omega)
  unfold f_X_fed f_M_fed
  rw [q_noTable ho.2.2.2.2 ho.1.1, w1, show (0 : Int32) = iI ((0 : Nat) : Int) from rfl, w4]
  simp only [bd_some]
  rw [w3]
  exact ⟨_, _, rfl, rfl, qz_0 w5⟩
theorem e_match (h : PT so on ot ki ye sa v S O T K Y Z p n fb ns sl) : ∃ R R', f_X_match (iI sl) (iI p) (iI fb) so on ot ki ye sa (iI n) s1 s2 s3 s4 s5 s6 s7 s8 s9 s10 = some R ∧ f_M_match v x sp' (iI ns) (iI sl) = some R' ∧ qz R.1 R.2.1 R'.1 R'.2.2.1 R'.2.2.2.1 := by
  obtain ⟨hc, hv, ho⟩ := h
  obtain ⟨x', w1, w2, -⟩ := r_worksX (x := x) hv ho
  obtain ⟨sp2, w3⟩ := r_matchB (sp := sp') w2 ho.1 (show sl < 10 by have := ho.2.2.2.1; omega)
  obtain ⟨a1, a2, a3, a4, a5, w4, -⟩ := q_settleNow (sso := s1) (shd := s2) (bo := s3) (sp := s4) (bi := s9) hc ho
  unfold f_X_match f_M_match
  rw [q_noTable ho.2.2.2.2 ho.1.1, w1, w4]
  simp only [bd_some]
  rw [w3]
  exact ⟨_, _, rfl, rfl, qz_0 rfl⟩
theorem e_slops (h : PT so on ot ki ye sa v S O T K Y Z p n fb ns sl) : ∃ R R', f_X_slops (iI sl) (iI p) (iI fb) so on ot ki ye sa (iI n) s1 s2 s3 s4 s5 s6 s7 s8 s9 s10 = some R ∧ f_M_slops v x sp' (iI ns) (iI sl) = some R' ∧ qz R.1 R.2.1 R'.1 R'.2.2.1 R'.2.2.2.1 := by
  obtain ⟨hc, hv, ho⟩ := h
  obtain ⟨x', w1, w2, -⟩ := r_worksX (x := x) hv ho
  obtain ⟨sp2, w3⟩ := r_matchB (sp := sp') w2 ho.1 (show sl < 10 by have := ho.2.2.2.1; omega)
  obtain ⟨a1, a2, a3, a4, a5, w4, -⟩ := q_settleNow (sso := s1) (shd := s2) (bo := s3) (sp := s4) (bi := s9) hc ho
  unfold f_X_slops f_M_slops
  rw [q_noTable ho.2.2.2.2 ho.1.1, w1, w4]
  simp only [bd_some]
  rw [w3]
  exact ⟨_, _, rfl, rfl, qz_0 rfl⟩
theorem e_matches (h : PT so on ot ki ye sa v S O T K Y Z p n fb ns sl) : ∃ R R', f_X_matches (iI sl) (iI p) (iI fb) so on ot ki ye sa (iI n) s1 s2 s3 s4 s5 s6 s7 s8 s9 s10 = some R ∧ f_M_matches v x sp' (iI ns) (iI sl) = some R' ∧ qz R.1 R.2.1 R'.1 R'.2.2.1 R'.2.2.2.1 := by
  obtain ⟨hc, hv, ho⟩ := h
  obtain ⟨x', w1, w2, -⟩ := r_worksX (x := x) hv ho
  obtain ⟨sp2, w3⟩ := r_matchB (sp := sp') w2 ho.1 (show sl < 10 by have := ho.2.2.2.1; omega)
  obtain ⟨a1, a2, a3, a4, a5, w4, -⟩ := q_settleNow (sso := s1) (shd := s2) (bo := s3) (sp := s4) (bi := s9) hc ho
  unfold f_X_matches f_M_matches
  rw [q_noTable ho.2.2.2.2 ho.1.1, w1, w4]
  simp only [bd_some]
  rw [w3]
  exact ⟨_, _, rfl, rfl, qz_0 rfl⟩
theorem e_fedIn (h : PT so on ot ki ye sa v S O T K Y Z p n fb ns sl) (l : Int32) : ∃ R R', f_X_fedIn l (iI sl) (iI p) (iI fb) so on ot ki ye sa (iI n) s1 s2 s3 s4 s5 s6 s7 s8 s9 s10 = some R ∧ f_M_fedIn l v x mm ms mc sp' (iI ns) (iI sl) = some R' ∧ qz R.1 R.2.1 R'.1 R'.2.2.1 R'.2.2.2.1 := by
  obtain ⟨hc, hv, ho⟩ := h
  unfold f_X_fedIn f_M_fedIn
  rw [q_noTable ho.2.2.2.2 ho.1.1]
  simp only [bd_some, eq_self, if_true]
  rcases yrs l with ⟨t, ht, rfl, e3, e4⟩ | ⟨e3, e4⟩
  · obtain ⟨x', R', w1, w2, w3⟩ := r_fedIn (x := x) (sp := sp') (t := t) hv ho (by omega)
    obtain ⟨R, w4, w5⟩ := q_fedBehind (sso := s1) (shd := s2) (bo := s3) (sp := s4) (bi := s9) (t := t) hc ho (by omega)
    rw [e3, e4]
    simp only [bd_some, z10, if_false]
    rw [if_pos (by decide), w1, w4]
    simp only [bd_some]
    rw [w2]
    exact ⟨_, _, rfl, rfl, qz_0 (w5.trans w3.symm)⟩
  · rw [e3, e4]; exact ⟨_, _, rfl, rfl, qz_2⟩
theorem e_bestYear (h : PT so on ot ki ye sa v S O T K Y Z p n fb ns sl) : ∃ R R', f_X_bestYear (iI sl) (iI p) (iI fb) so on ot ki ye sa (iI n) s1 s2 s3 s4 s5 s6 s7 s8 s9 s10 = some R ∧ f_M_bestYear v x mm ms mc sp' (iI ns) (iI sl) = some R' ∧ qz R.1 R.2.1 R'.1 R'.2.2.1 R'.2.2.2.1 := by
  obtain ⟨hc, hv, ho⟩ := h
  unfold f_X_bestYear f_M_bestYear
  rw [q_noTable ho.2.2.2.2 ho.1.1]
  simp only [bd_some, eq_self, if_true]
  refine lq (L := fun f j (st : Int32 × Int32 × (Nat → Int32) × (Nat → Int32) × (Nat → Int32) × (Nat → Int32) × Int32 × Int32 × Int32 × Int32 × (Nat → Int32) × Int32) => f_X_bestYear_L15 (iI sl) (iI fb) so on ot ki ye sa (iI n) f st.1 st.2.1 (iI (j : Int)) st.2.2.1 st.2.2.2.1 st.2.2.2.2.1 st.2.2.2.2.2.1 st.2.2.2.2.2.2.1 st.2.2.2.2.2.2.2.1 st.2.2.2.2.2.2.2.2.1 st.2.2.2.2.2.2.2.2.2.1 st.2.2.2.2.2.2.2.2.2.2.1 st.2.2.2.2.2.2.2.2.2.2.2) (L' := fun f j (st : Int32 × Int32 × (Nat → Int32) × Int32 × Int32 × Int32 × (Nat → Int32)) => f_M_bestYear_L24 v (iI ns) (iI sl) f st.1 st.2.1 (iI (j : Int)) st.2.2.1 st.2.2.2.1 st.2.2.2.2.1 st.2.2.2.2.2.1 st.2.2.2.2.2.2) (n := 61) (I := fun _ a b => a.1 = b.1 ∧ a.2.1 = b.2.1) ?_ ?_ fu 0 ((0 : Int32), (-1 : Int32), s1, s2, s3, s4, s5, s6, s7, s8, s9, s10) ((0 : Int32), (-1 : Int32), x, mm, ms, mc, sp') (by omega) (by have := fu_big; omega) ⟨rfl, rfl⟩
  · intro f f' j st st' hj hst
    obtain ⟨x', R', w1, w2, w3⟩ := r_fedIn (x := st'.2.2.1) (sp := st'.2.2.2.2.2.2) (t := j) hv ho (by omega)
    obtain ⟨R, w4, w5⟩ := q_fedBehind (sso := st.2.2.1) (shd := st.2.2.2.1) (bo := st.2.2.2.2.1) (sp := st.2.2.2.2.2.1) (bi := st.2.2.2.2.2.2.2.2.2.2.1) (t := j) hc ho (by omega)
    simp only [f_X_bestYear_L15, f_M_bestYear_L24, i_60]
    simp (disch := omega) only [iI_lt]
    rw [if_neg (by omega), if_neg (by omega), w1, w4]
    simp only [bd_some]
    rw [w2]
    simp only [bd_some, lt, w5, w3, hst.1, hst.2, i_1, iI_add]
    by_cases c : st'.2.1 < iI ((2 * pc10 (BS S O T K (fun k => hnd K Y Z k j) sl fb n).1 : Nat) : Int)
    · left
      rw [if_pos c, if_neg (fun h => absurd c (Int32.not_lt.mpr h))]
      exact ⟨(iI j, iI ((2 * pc10 (BS S O T K (fun k => hnd K Y Z k j) sl fb n).1 : Nat) : Int), R.2), (iI j, iI ((2 * pc10 (BS S O T K (fun k => hnd K Y Z k j) sl fb n).1 : Nat) : Int), x', R'.2), ⟨rfl, rfl⟩, rfl, rfl⟩
    · left
      rw [if_neg c, if_pos (Int32.not_lt.mp c)]
      exact ⟨(st'.1, st'.2.1, R.2), (st'.1, st'.2.1, x', R'.2), ⟨rfl, rfl⟩, rfl, rfl⟩
  · intro f f' st st' hst
    simp only [f_X_bestYear_L15, f_M_bestYear_L24, i_60]
    simp (disch := omega) only [iI_lt]
    rw [if_pos (by omega), if_pos (by omega)]
    exact ⟨_, _, _, _, rfl, rfl, rfl, rfl, qz_0 hst.1⟩
theorem e_allIn {mt mw : Int32} (h : PT so on ot ki ye sa v S O T K Y Z p n fb ns sl) : ∃ R R', f_X_allIn (iI sl) (iI p) (iI fb) so on ot ki ye sa (iI n) s1 s2 s3 s4 s5 s6 s7 s8 s9 s10 = some R ∧ f_M_allIn mt mw v x mm ms mc sp' (iI ns) (iI sl) (iI p) = some R' ∧ qz R.1 R.2.1 R'.1 R'.2.2.1 R'.2.2.2.1 := by
  obtain ⟨hc, hv, ho⟩ := h
  have p5 := ho.1.1
  unfold f_X_allIn f_M_allIn
  rw [q_noTable ho.2.2.2.2 ho.1.1]
  simp only [bd_some, eq_self, if_true]
  refine lq (L := fun f j (st : (Nat → Int32) × (Nat → Int32) × (Nat → Int32) × (Nat → Int32) × Int32 × Int32 × Int32 × Int32 × (Nat → Int32) × Int32) => f_X_allIn_L11 0 (iI sl) (iI p) (iI fb) so on ot ki ye sa (iI n) f (iI (j : Int)) st.1 st.2.1 st.2.2.1 st.2.2.2.1 st.2.2.2.2.1 st.2.2.2.2.2.1 st.2.2.2.2.2.2.1 st.2.2.2.2.2.2.2.1 st.2.2.2.2.2.2.2.2.1 st.2.2.2.2.2.2.2.2.2) (L' := fun f j (st : (Nat → Int32) × Int32 × Int32 × Int32 × (Nat → Int32)) => f_M_allIn_L20 0 mt mw v (iI ns) (iI sl) (iI p) f (iI (j : Int)) st.1 st.2.1 st.2.2.1 st.2.2.2.1 st.2.2.2.2) (n := 61) (I := fun _ _ _ => True) ?_ ?_ fu 0 (s1, s2, s3, s4, s5, s6, s7, s8, s9, s10) (x, mm, ms, mc, sp') (by omega) (by have := fu_big; omega) trivial
  · intro f f' j st st' hj hst
    obtain ⟨x', R', w1, w2, w3⟩ := r_fedIn (x := st'.1) (sp := st'.2.2.2.2) (t := j) hv ho (by omega)
    obtain ⟨R, w4, w5⟩ := q_fedBehind (sso := st.1) (shd := st.2.1) (bo := st.2.2.1) (sp := st.2.2.2.1) (bi := st.2.2.2.2.2.2.2.2.1) (t := j) hc ho (by omega)
    have hB := pc10_le _ (BS_lt (S := S) (K := K) (H := fun k => hnd K Y Z k j) (sl := sl) (fb := fb) ho.1.2.1 (fun k hk => ⟨(ho.1.2.2.2.2.2 k hk).1, (ho.1.2.2.2.2.2 k hk).2.1⟩) (fun q hq => by have := ho.1.2.2.2.2.1 q hq; have := ho.1.2.2.1; omega)).1
    simp only [f_X_allIn_L11, f_M_allIn_L20, i_60]
    simp (disch := omega) only [iI_lt]
    rw [if_neg (by omega), if_neg (by omega), w1, w4]
    simp only [bd_some]
    rw [w2]
    simp only [bd_some, lt, w5, w3]
    generalize pc10 (BS S O T K (fun k => hnd K Y Z k j) sl fb n).1 = z at *
    simp (disch := omega) only [i_1, iI_add, iI_sub, iI_lt]
    by_cases c : (1 : Int) < (p : Int) - ((2 * z : Nat) : Int)
    · left
      rw [if_pos c, if_pos (by omega)]
      exact ⟨R.2, (x', R'.2), trivial, rfl, rfl⟩
    · right
      rw [if_neg c, if_neg (by omega)]
      exact ⟨_, _, _, _, rfl, rfl, rfl, rfl, qz_0 rfl⟩
  · intro f f' st st' hst
    simp only [f_X_allIn_L11, f_M_allIn_L20, i_60]
    simp (disch := omega) only [iI_lt]
    rw [if_pos (by omega), if_pos (by omega)]
    exact ⟨_, _, _, _, rfl, rfl, rfl, rfl, qz_0 rfl⟩
end
