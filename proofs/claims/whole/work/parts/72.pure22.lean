/-! who would leave a match -/
theorem fst_first {P : Nat → Bool} {n : Nat} : ∀ f j k, j ≤ k → k < n → n - j < f → P k = true → (∀ i, j ≤ i → i < k → P i = false) → fst P n f j = some k := by
  intro f
  induction f with
  | zero => intro j k _ _ h; omega
  | succ f ih =>
    intro j k h1 h2 h3 h4 h5
    rw [fst, if_pos (by omega)]
    by_cases c : j = k
    · subst c; rw [if_pos h4]
    · rw [if_neg (by rw [h5 j (by omega) (by omega)]; simp)]
      exact ih (j + 1) k (by omega) h2 (by omega) h4 (fun i hi hi2 => h5 i (by omega) hi2)
theorem isP_both {O T : Nat → Nat} {a b k : Nat} (h : isP O T a b k = true) : bothP O T k = 2 ^ a ||| 2 ^ b := by
  unfold isP at h
  simp only [Bool.or_eq_true, Bool.and_eq_true, beq_iff_eq] at h
  unfold bothP
  rcases h with ⟨h1, h2⟩ | ⟨h1, h2⟩
  · rw [h1, h2]
  · rw [h1, h2, Nat.or_comm]
theorem fst0_pair {O T : Nat → Nat} {p n a b k : Nat} (ho : pok O T p n) (hk : k < n) (h : isP O T a b k = true) : fst0 (isP O T a b) n = some k := by
  unfold fst0
  refine fst_first (n + 1) 0 k (by omega) hk (by omega) h (fun i _ hi => ?_)
  cases c : isP O T a b i
  · rfl
  · have := ho.2 i k (by omega) hk (by rw [isP_both c, isP_both h])
    omega
theorem isP_of {O T : Nat → Nat} {a c k : Nat} (h : (O k = a ∧ T k = c) ∨ (O k = c ∧ T k = a)) : isP O T a c k = true := by
  unfold isP
  simp only [Bool.or_eq_true, Bool.and_eq_true, beq_iff_eq]
  exact h
section
variable {so on ot ki ye sa v x sp' hd s1 s2 s3 s4 s9 : Nat → Int32} {s5 s6 s7 s8 s10 mm ms mc : Int32} {S O T K Y Z : Nat → Nat} {p n fb ns sl q q' k b : Nat}
theorem e_rather (hc : cv so on ot ki ye sa S O T K Y Z p n) (hx : xv x S O T K Y Z p n fb) (ho : nok S O T K Y Z p n fb ns sl) (hh : ar hd n (H0 K Y Z)) (hk : k < n) {a c : Nat} (hb : b < 1024) (hac : (O k = a ∧ T k = c) ∨ (O k = c ∧ T k = a)) : ∃ r, f_Scene_wouldRather (iI a) (iI k) (iI b) on ot (iI n) hd = some (b01 r) ∧ f_M_isRather (iI b) (iI a) (iI c) x = some (b01 r) := by
  obtain ⟨k1, k2, k3, k4, k5, k6⟩ := ho.1.2.2.2.2.2 k hk
  have p5 := ho.1.1
  have n10 := ho.1.2.1
  have hap : a < p := by omega
  unfold f_Scene_wouldRather f_M_isRather
  rcases e_held hc hx ho hap hb with ⟨u1, u2, -⟩ | ⟨h, hhn, hb', hor, u1, u2⟩
  · rw [u1, u2]
    exact ⟨true, rfl, rfl⟩
  · obtain ⟨h1, h2, h3, h4, h5, h6⟩ := ho.1.2.2.2.2.2 h hhn
    have hm : (if O h = a then T h else O h) < 5 := by split <;> omega
    have hma : a ≠ (if O h = a then T h else O h) := by split <;> omega
    have hmp : isP O T a (if O h = a then T h else O h) h = true := isP_of (by split <;> omega)
    have e1 : f_Now_partner (iI k) (iI a) on ot = some (iI c) := by
      rw [q_partner n10 hk hc.2.1 hc.2.2.1 (by omega) (by omega) (by omega)]
      rcases hac with ⟨d1, d2⟩ | ⟨d1, d2⟩
      · rw [if_pos d1, d2]
      · rw [if_neg (by omega), if_pos d2, d1]
    have e2 : f_Now_partner (iI h) (iI a) on ot = some (iI ((if O h = a then T h else O h : Nat) : Int)) := by
      rw [q_partner n10 hhn hc.2.1 hc.2.2.1 (by omega) (by omega) (by omega)]
      by_cases d : O h = a
      · rw [if_pos d, if_pos d]
      · rw [if_neg d, if_neg d, if_pos (by omega)]
    have e3 : f_M_pairBy (iI a) (iI c) x = some (iI (k : Nat)) := by
      rw [r_pairBy hx ho.1 (by omega) (by omega) (by omega), fst0_pair ho.2.1 hk (isP_of hac)]
      rfl
    have e4 : f_M_pairBy (iI a) (iI ((if O h = a then T h else O h : Nat) : Int)) x = some (iI (h : Nat)) := by
      rw [r_pairBy hx ho.1 (by omega) (by omega) hma, fst0_pair ho.2.1 hhn hmp]
      rfl
    have e5 := r_handleOf hx ho.1 hk
    have e6 := r_handleOf hx ho.1 hhn
    have g1 : H0 K Y Z k < 100000 := H0_lt k5
    have g2 : H0 K Y Z h < 100000 := H0_lt h5
    have g3 := hh k hk
    have g4 := hh h hhn
    change f_M_handleOf (iI k) x = some (iI (H0 K Y Z k : Nat)) at e5
    change f_M_handleOf (iI h) x = some (iI (H0 K Y Z h : Nat)) at e6
    rw [u1, u2]
    simp only [bd_some]
    have hm2 : ¬ iI ((if O h = a then T h else O h : Nat) : Int) = iI (-2) := by rw [iI_eq] <;> omega
    rw [if_pos (by rw [i_0, iI_le] <;> omega), i_m2, if_neg hm2, e1, e2, e3, e4]
    simp only [bd_some]
    rw [e5, e6]
    simp only [bd_some, lt]
    rw [iI_ck (by omega) (by omega), iI_ck (by omega) (by omega), iI_ck (by omega) (by omega), iI_ck (by omega) (by omega), iI_cl (by omega), iI_cl (by omega), g3, g4]
    generalize (if O h = a then T h else O h) = m at *
    generalize H0 K Y Z k = A at *
    generalize H0 K Y Z h = B at *
    simp (disch := omega) only [i_0, iI_sub, iI_lt, iI_eq, iI_le]
    by_cases d1 : A = B
    · have d2 : ¬ (0 : Int) < (A : Int) - B := by omega
      have d3 : (A : Int) - B = 0 := by omega
      have d4 : (A : Int) = B := by omega
      rw [if_pos d4, if_neg d2, if_pos d3]
      by_cases d5 : (m : Int) ≤ c
      · rw [if_pos d5, if_pos d5]; exact ⟨false, rfl, rfl⟩
      · rw [if_neg d5, if_neg d5]; exact ⟨true, rfl, rfl⟩
    · have d4 : ¬ (A : Int) = B := by omega
      rw [if_neg d4]
      by_cases d5 : (A : Int) ≤ B
      · rw [if_pos d5, if_neg (by omega), if_neg (by omega)]; exact ⟨false, rfl, rfl⟩
      · rw [if_neg d5, if_pos (by omega)]; exact ⟨true, rfl, rfl⟩
/-- whether pair k would leave, as both see it (the reference within its loop) -/
theorem e_wouldLeave {α : Type} (hc : cv so on ot ki ye sa S O T K Y Z p n) (hx : xv x S O T K Y Z p n fb) (ho : nok S O T K Y Z p n fb ns sl) (hh : ar hd n (H0 K Y Z)) (hk : k < n) (hb : b < 1024) : ∃ r, f_Scene_wouldLeave (iI k) (iI b) on ot (iI n) hd (iI ((bitsN (canP S O T K (H0 K Y Z) sl) n : Nat) : Int)) = some (b01 r) ∧ ∀ kk : Bool → Option α, bd (f_M_bit (iI b) (iI k)) (fun x1 => bd (if x1 = 0 then bd (f_M_isFeeding (iI k) x (iI sl)) (fun x7 => if x7 = 0 then some true else ck ((5 : Int32) + iI k) 58 (ck ((15 : Int32) + iI k) 58 (bd (f_M_isRather (iI b) (x ((5 : Int32) + iI k).toNatClampNeg) (x ((15 : Int32) + iI k).toNatClampNeg) x) (fun x8 => if x8 = 0 then some true else ck ((15 : Int32) + iI k) 58 (ck ((5 : Int32) + iI k) 58 (bd (f_M_isRather (iI b) (x ((15 : Int32) + iI k).toNatClampNeg) (x ((5 : Int32) + iI k).toNatClampNeg) x) (fun x9 => if x9 = 0 then some true else some false))))))) else some true : Option Bool) kk) = kk (!r) := by
  obtain ⟨k1, k2, k3, k4, k5, k6⟩ := ho.1.2.2.2.2.2 k hk
  obtain ⟨x1, x2, x3, x4, x5⟩ := hx.2.1 k hk
  have p5 := ho.1.1
  have n10 := ho.1.2.1
  obtain ⟨r1, a1, a2⟩ := e_rather hc hx ho hh hk hb (Or.inl ⟨rfl, rfl⟩)
  obtain ⟨r2, a3, a4⟩ := e_rather hc hx ho hh hk hb (Or.inr ⟨rfl, rfl⟩)
  have hcan : (bitsN (canP S O T K (H0 K Y Z) sl) n).testBit k = canP S O T K (H0 K Y Z) sl k := by rw [bitsN_tb]; simp [hk]
  have hbn := bitsN_1024 (canP S O T K (H0 K Y Z) sl) n10
  have hF := r_isFeeding hx ho.1 hk (show sl < 10 by have := ho.2.2.2.1; omega)
  refine ⟨canP S O T K (H0 K Y Z) sl k && (!b.testBit k && (r1 && r2)), ?_, fun kk => ?_⟩
  · unfold f_Scene_wouldLeave
    rw [q_has (by omega) (by omega), q_has (by omega) (by omega), hcan]
    simp (disch := omega) only [bd_some, b01_eq0, iI_ck, iI_cl, hc.2.1 k hk, hc.2.2.1 k hk]
    rw [a1, a3]
    simp only [bd_some, b01_eq0]
    cases canP S O T K (H0 K Y Z) sl k <;> cases b.testBit k <;> cases r1 <;> cases r2 <;> rfl
  · rw [r_bit (by omega) (by omega), hF]
    simp (disch := omega) only [bd_some, b01_eq0, ck5, cl5, ck15, cl15, x1, x2]
    rw [a2, a4]
    simp only [bd_some, b01_eq0]
    cases canP S O T K (H0 K Y Z) sl k <;> cases b.testBit k <;> cases r1 <;> cases r2 <;> rfl
/-- the first that would leave; none -/
theorem e_leaving (hc : cv so on ot ki ye sa S O T K Y Z p n) (hx : xv x S O T K Y Z p n fb) (ho : nok S O T K Y Z p n fb ns sl) (hh : ar hd n (H0 K Y Z)) (hb : b < 1024) : ∃ o : Option Nat, f_M_leaving (iI b) x (iI sl) = some (iI (on2 o)) ∧ f_Scene_noneLeaves (iI b) on ot (iI n) hd (iI ((bitsN (canP S O T K (H0 K Y Z) sl) n : Nat) : Int)) = some (b01 o.isNone) ∧ ∀ k, o = some k → k < n := by
  have n10 := ho.1.2.1
  unfold f_M_leaving f_Scene_noneLeaves
  have key := lq (L := fun f j (_ : Unit) => f_M_leaving_L2 (iI b) x (iI sl) f (iI (j : Int))) (L' := fun f j (_ : Unit) => f_Scene_noneLeaves_L2 (iI b) on ot (iI n) hd (iI ((bitsN (canP S O T K (H0 K Y Z) sl) n : Nat) : Int)) f (iI (j : Int))) (n := n) (K := fun ox10 => sm ox10 (fun x10 => some (-2 : Int32))) (K' := fun ox3 => sm ox3 (fun x3 => some (1 : Int32))) (Post := fun r r' => ∃ o : Option Nat, r = iI (on2 o) ∧ r' = b01 o.isNone ∧ ∀ k, o = some k → k < n) (I := fun _ _ _ => True) ?_ ?_ fu 0 () () (by omega) (by have := fu_big; omega) trivial
  · obtain ⟨r, r', e1, e2, o, rfl, rfl, e3⟩ := key
    exact ⟨o, e1, e2, e3⟩
  · intro f f' j st st' hj _
    obtain ⟨r, a1, a2⟩ := e_wouldLeave (α := Int32 ⊕ Unit) hc hx ho hh hj hb
    simp only [f_M_leaving_L2, f_Scene_noneLeaves_L2]
    rw [a2]
    simp (disch := omega) only [ck55, cl55, hx.2.2.1, iI_le]
    simp only [if_neg (show ¬ (n : Int) ≤ (j : Int) by omega)]
    rw [a1]
    simp only [bd_some, b01_eq0]
    cases r
    · left; exact ⟨(), (), trivial, by simp only [lt, i_1, iI_add]; rfl, by simp only [lt, i_1, iI_add]; rfl⟩
    · right; exact ⟨_, _, _, _, rfl, rfl, rfl, rfl, some j, rfl, rfl, fun k hk => by cases hk; exact hj⟩
  · intro f f' st st' _
    simp only [f_M_leaving_L2, f_Scene_noneLeaves_L2]
    simp (disch := omega) only [ck55, cl55, hx.2.2.1, iI_le]
    rw [if_pos (by omega), if_pos (by omega)]
    exact ⟨_, _, _, _, rfl, rfl, rfl, rfl, none, rfl, rfl, fun k hk => by cases hk⟩
theorem e_leaves (h : PT so on ot ki ye sa v S O T K Y Z p n fb ns sl) : ∃ R R', f_X_leaves (iI sl) (iI p) (iI fb) so on ot ki ye sa (iI n) s1 s2 s3 s4 s5 s6 s7 s8 s9 s10 = some R ∧ f_M_leaves v x sp' (iI ns) (iI sl) = some R' ∧ qz R.1 R.2.1 R'.1 R'.2.2.1 R'.2.2.2.1 := by
  obtain ⟨hc, hv, ho⟩ := h
  have p5 := ho.1.1
  have n10 := ho.1.2.1
  obtain ⟨x', w1, w2, -⟩ := r_worksX (x := x) hv ho
  obtain ⟨sp2, w3⟩ := r_matchB (sp := sp') w2 ho.1 (show sl < 10 by have := ho.2.2.2.1; omega)
  obtain ⟨a1, a2, a3, a4, a5, w4, -, hh⟩ := q_settleNow (sso := s1) (shd := s2) (bo := s3) (sp := s4) (bi := s9) hc ho
  have hB := BS_1024 ho
  unfold f_X_leaves f_M_leaves f_M_leaving
  rw [q_noTable ho.2.2.2.2 ho.1.1, w1, w4]
  simp only [bd_some, eq_self, if_true]
  rw [w3]
  simp only [bd_some]
  have key := lq (L := fun f j (_ : Unit) => f_X_leaves_L15 0 on ot (iI n) a1 a2 a3 a4 (iI fb) (iI ((bitsN (canP S O T K (H0 K Y Z) sl) n : Nat) : Int)) (iI ((BS S O T K (H0 K Y Z) sl fb n).1 : Nat)) (iI ((BS S O T K (H0 K Y Z) sl fb n).2 : Nat)) a5 (iI (((lmS S O T K (H0 K Y Z) sl n).length + 1 : Nat) : Int)) f (iI (j : Int))) (L' := fun f j (_ : Unit) => f_M_leaving_L2 (iI ((BS S O T K (H0 K Y Z) sl fb n).1 : Nat)) x' (iI sl) f (iI (j : Int))) (n := n) (K := fun ox5 => sm ox5 (fun x5 => some ((-2 : Int32), (0 : Int32), a1, a2, a3, a4, iI (fb : Int), iI ((bitsN (canP S O T K (H0 K Y Z) sl) n : Nat) : Int), iI ((BS S O T K (H0 K Y Z) sl fb n).1 : Nat), iI ((BS S O T K (H0 K Y Z) sl fb n).2 : Nat), a5, iI (((lmS S O T K (H0 K Y Z) sl n).length + 1 : Nat) : Int)))) (K' := fun ox3 => sm ox3 (fun x3 => some (-2 : Int32))) (Post := fun r r' => r.1 = r' ∧ r.2.1 = 0) (I := fun _ _ _ => True) ?_ ?_ fu 0 () () (by omega) (by have := fu_big; omega) trivial
  · obtain ⟨r, r', e1, e2, h1, h2⟩ := key
    refine ⟨r, _, e1, by
      have e2' : bd (f_M_leaving_L2 (iI ((BS S O T K (H0 K Y Z) sl fb n).1 : Nat)) x' (iI sl) fu (0 : Int32)) (fun ox3 => sm ox3 (fun x3 => some (-2 : Int32))) = some r' := e2
      rw [e2']
      rfl, ?_⟩
    rw [h2]
    exact qz_0 h1
  · intro f f' j st st' hj _
    obtain ⟨r, b1, b2⟩ := e_wouldLeave (α := Int32 ⊕ Unit) hc w2 ho hh hj hB
    simp only [f_M_leaving_L2, f_X_leaves_L15]
    rw [b2]
    simp (disch := omega) only [ck55, cl55, w2.2.2.1, iI_le]
    simp only [if_neg (show ¬ (n : Int) ≤ (j : Int) by omega)]
    rw [b1]
    simp only [bd_some, b01_eq0]
    cases r
    · left; exact ⟨(), (), trivial, by simp only [lt, i_1, iI_add]; rfl, by simp only [lt, i_1, iI_add]; rfl⟩
    · right; exact ⟨_, _, _, _, rfl, rfl, rfl, rfl, rfl, rfl⟩
  · intro f f' st st' _
    simp only [f_M_leaving_L2, f_X_leaves_L15]
    simp (disch := omega) only [ck55, cl55, w2.2.2.1, iI_le]
    rw [if_pos (by omega), if_pos (by omega)]
    exact ⟨_, _, _, _, rfl, rfl, rfl, rfl, rfl, rfl⟩
end
