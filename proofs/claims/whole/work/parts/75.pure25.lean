/-! what was told: unsure years, what was tried -/
def yU (Y U M : Nat → Nat) (set : Nat) : Nat → Nat → Nat
  | 0 => Y
  | i + 1 => if set.testBit i then setN (yU Y U M set i) (U i) (M i) else yU Y U M set i
theorem yU_0 (Y U M : Nat → Nat) : ∀ i, yU Y U M 0 i = Y := by
  intro i
  induction i with
  | zero => rfl
  | succ i ih => rw [yU, if_neg (by simp), ih]
theorem yU_lt {Y U M : Nat → Nat} {set u k B : Nat} (h1 : Y k < B) (h2 : ∀ i, i < u → M i < B) : ∀ i, i ≤ u → yU Y U M set i k < B := by
  intro i
  induction i with
  | zero => intro _; exact h1
  | succ i ih =>
    intro hi
    rw [yU]
    split
    · unfold setN; split
      · exact h2 i (by omega)
      · exact ih (by omega)
    · exact ih (by omega)
abbrev z0 : Nat → Nat := fun _ => 0
def bR (bup buy btp bso bon bot bki bye bsa tse ton tot tye tki tun tma ttr : Nat → Int32) (S O T K Y U M R : Nat → Nat) (p n u r fd fb ns sl : Nat) : Prop :=
  cv bso bon bot bki bye bsa S O T K Y z0 p n ∧ nok S O T K Y z0 p n fb ns sl ∧ (ar tse p S ∧ ar ton n O ∧ ar tot n T ∧ ar tye n Y ∧ ar tki n K) ∧ u ≤ 4 ∧ (∀ i, i < u → bup i = iI (U i) ∧ buy i = iI (M i) ∧ tun i = iI (U i) ∧ tma i = iI (M i) ∧ U i < n ∧ M i < 1000) ∧ r ≤ 6 ∧ (∀ i, i < r → btp i = iI (R i) ∧ ttr i = iI (R i) ∧ R i < n) ∧ fd < 64
section
variable {bup buy btp bso bon bot bki bye bsa tse ton tot tye tki tun tma ttr x : Nat → Int32} {S O T K Y U M R : Nat → Nat} {p n u r fd fb ns sl set : Nat}
theorem r_told1 : ∃ x1, f_M_asTold_L2 fu (0 : Int32) x = some x1 ∧ ∀ i, i < 58 → x1 i = iI ((0 : Nat) : Int) := by
  -- all 0
  have k1 := lp (L := fun f j (st : (Nat → Int32)) => f_M_asTold_L2  f (iI (j : Int)) st) (n := 58) (I := fun j st => ∀ i, i < j → st i = iI ((0 : Nat) : Int)) (Post := fun st => ∀ i, i < 58 → st i = iI ((0 : Nat) : Int)) (fun f j st hj hst => by
      refine Or.inl ⟨upd st j (iI ((0 : Nat) : Int)), fun i hi => ?_, ?_⟩
      · by_cases c : i = j
        · subst c; exact upd_s _ _ _
        · rw [upd_n c]; exact hst i (by omega)
      · simp only [f_M_asTold_L2, lt]
        rw [show (58 : Int32) = iI 58 from rfl]
        simp (disch := omega) only [iI_le, iI_ck, iI_cl, i_1, iI_add]
        rw [if_neg (by omega)]
        rfl) (fun f st hst => by
      refine ⟨st, hst, ?_⟩
      simp only [f_M_asTold_L2]
      rw [show (58 : Int32) = iI 58 from rfl]
      simp (disch := omega) only [iI_le]
      rw [if_pos (by omega)]) fu 0 x (by omega) (by have := fu_big; omega) (fun i hi => by omega)
  obtain ⟨x1, h1, e1⟩ := k1
  exact ⟨x1, e1, h1⟩
theorem r_told2 {x1 : Nat → Int32} (h1 : ∀ i, i < 58 → x1 i = iI ((0 : Nat) : Int)) : ∃ x2, f_M_asTold_L23 tse fu (0 : Int32) x1 = some x2 ∧ (∀ i, i < 5 → x2 i = tse i) ∧ ∀ i, 5 ≤ i → i < 58 → x2 i = iI ((0 : Nat) : Int) := by
  -- the seats
  have k2 := lp (L := fun f j (st : (Nat → Int32)) => f_M_asTold_L23 tse f (iI (j : Int)) st) (n := 5) (I := fun j st => (∀ i, i < j → st i = tse i) ∧ ∀ i, 5 ≤ i → i < 58 → st i = iI ((0 : Nat) : Int)) (Post := fun st => (∀ i, i < 5 → st i = tse i) ∧ ∀ i, 5 ≤ i → i < 58 → st i = iI ((0 : Nat) : Int)) (fun f j st hj hst => by
      refine Or.inl ⟨upd st j (tse j), ⟨fun i hi => ?_, fun i hi hi2 => ?_⟩, ?_⟩
      · by_cases c : i = j
        · subst c; exact upd_s _ _ _
        · rw [upd_n c]; exact hst.1 i (by omega)
      · rw [upd_n (by omega)]; exact hst.2 i hi hi2
      · simp only [f_M_asTold_L23, lt]
        simp (disch := omega) only [i_5, iI_le, iI_ck, iI_cl, i_1, iI_add]
        rw [if_neg (by omega)]
        rfl) (fun f st hst => by
      refine ⟨st, hst, ?_⟩
      simp only [f_M_asTold_L23]
      simp (disch := omega) only [i_5, iI_le]
      rw [if_pos (by omega)]) fu 0 x1 (by omega) (by have := fu_big; omega) ⟨fun i hi => by omega, fun i _ hi => h1 i hi⟩
  obtain ⟨x2, h2, e2⟩ := k2
  exact ⟨x2, e2, h2⟩
theorem r_told3 {x2 : Nat → Int32} (n10 : n ≤ 10) (t2 : ar ton n O) (t3 : ar tot n T) (t4 : ar tye n Y) (t5 : ar tki n K) (h2 : (∀ i, i < 5 → x2 i = tse i) ∧ ∀ i, 5 ≤ i → i < 58 → x2 i = iI ((0 : Nat) : Int)) : ∃ x3, f_M_asTold_L51 (iI n) ton tot tye tki fu (0 : Int32) x2 = some x3 ∧ (∀ i, i < 5 → x3 i = tse i) ∧ (∀ i, i < n → x3 (5 + i) = iI (O i) ∧ x3 (15 + i) = iI (T i) ∧ x3 (25 + i) = iI (Y i) ∧ x3 (45 + i) = iI (K i)) ∧ (∀ i, i < 10 → x3 (35 + i) = iI ((0 : Nat) : Int)) ∧ x3 57 = iI ((0 : Nat) : Int) := by
  -- the pairs
  have k3 := lp (L := fun f j (st : (Nat → Int32)) => f_M_asTold_L51 (iI n) ton tot tye tki f (iI (j : Int)) st) (n := n) (I := fun j st => (∀ i, i < 5 → st i = tse i) ∧ (∀ i, i < j → st (5 + i) = iI (O i) ∧ st (15 + i) = iI (T i) ∧ st (25 + i) = iI (Y i) ∧ st (45 + i) = iI (K i)) ∧ (∀ i, i < 10 → st (35 + i) = iI ((0 : Nat) : Int)) ∧ st 57 = iI ((0 : Nat) : Int)) (Post := fun st => (∀ i, i < 5 → st i = tse i) ∧ (∀ i, i < n → st (5 + i) = iI (O i) ∧ st (15 + i) = iI (T i) ∧ st (25 + i) = iI (Y i) ∧ st (45 + i) = iI (K i)) ∧ (∀ i, i < 10 → st (35 + i) = iI ((0 : Nat) : Int)) ∧ st 57 = iI ((0 : Nat) : Int)) (fun f j st hj hst => by
      obtain ⟨g1, g2, g3, g4⟩ := hst
      refine Or.inl ⟨upd (upd (upd (upd st (5 + j) (iI (O j))) (15 + j) (iI (T j))) (25 + j) (iI (Y j))) (45 + j) (iI (K j)), ⟨fun i hi => ?_, fun i hi => ?_, fun i hi => ?_, ?_⟩, ?_⟩
      · rw [upd_n (by omega), upd_n (by omega), upd_n (by omega), upd_n (by omega)]; exact g1 i hi
      · by_cases c : i = j
        · subst c
          refine ⟨?_, ?_, ?_, upd_s _ _ _⟩
          · rw [upd_n (by omega), upd_n (by omega), upd_n (by omega)]; exact upd_s _ _ _
          · rw [upd_n (by omega), upd_n (by omega)]; exact upd_s _ _ _
          · rw [upd_n (by omega)]; exact upd_s _ _ _
        · obtain ⟨a, b, c', d⟩ := g2 i (by omega)
          refine ⟨?_, ?_, ?_, ?_⟩
          · rw [upd_n (by omega), upd_n (by omega), upd_n (by omega), upd_n (by omega)]; exact a
          · rw [upd_n (by omega), upd_n (by omega), upd_n (by omega), upd_n (by omega)]; exact b
          · rw [upd_n (by omega), upd_n (by omega), upd_n (by omega), upd_n (by omega)]; exact c'
          · rw [upd_n (by omega), upd_n (by omega), upd_n (by omega), upd_n (by omega)]; exact d
      · rw [upd_n (by omega), upd_n (by omega), upd_n (by omega), upd_n (by omega)]; exact g3 i hi
      · rw [upd_n (by omega), upd_n (by omega), upd_n (by omega), upd_n (by omega)]; exact g4
      · simp only [f_M_asTold_L51, lt]
        simp (disch := omega) only [iI_le, iI_ck, iI_cl, ck5, ck15, ck25, ck45, cl5, cl15, cl25, cl45, t2 j hj, t3 j hj, t4 j hj, t5 j hj, i_1, iI_add]
        rw [if_neg (by omega)]
        rfl) (fun f st hst => by
      refine ⟨st, hst, ?_⟩
      simp only [f_M_asTold_L51]
      simp (disch := omega) only [iI_le]
      rw [if_pos (by omega)]) fu 0 x2 (by omega) (by have := fu_big; omega) ⟨h2.1, fun i hi => by omega, fun i hi => h2.2 _ (by omega) (by omega), h2.2 57 (by omega) (by omega)⟩
  obtain ⟨x3, h3, e3⟩ := k3
  exact ⟨x3, e3, h3⟩
theorem r_told4 {x3 : Nat → Int32} (n10 : n ≤ 10) (hset : set < 1024) (hu : u ≤ 4) (hU : ∀ i, i < u → bup i = iI (U i) ∧ buy i = iI (M i) ∧ tun i = iI (U i) ∧ tma i = iI (M i) ∧ U i < n ∧ M i < 1000) (a2 : ∀ i, i < n → x3 (25 + i) = iI (Y i)) : ∃ x4, f_M_asTold_L141 (iI set) (iI u) tun tma fu (0 : Int32) x3 = some x4 ∧ (∀ i, i < 58 → ¬ (25 ≤ i ∧ i < 35) → x4 i = x3 i) ∧ ∀ i, i < n → x4 (25 + i) = iI (yU Y U M set u i) := by
  -- the unsure
  have k4 := lp (L := fun f j (st : (Nat → Int32)) => f_M_asTold_L141 (iI set) (iI u) tun tma f (iI (j : Int)) st) (n := u) (I := fun j st => (∀ i, i < 58 → ¬ (25 ≤ i ∧ i < 35) → st i = x3 i) ∧ ∀ i, i < n → st (25 + i) = iI (yU Y U M set j i)) (Post := fun st => (∀ i, i < 58 → ¬ (25 ≤ i ∧ i < 35) → st i = x3 i) ∧ ∀ i, i < n → st (25 + i) = iI (yU Y U M set u i)) (fun f j st hj hst => by
      obtain ⟨b1, b2, b3, b4, b5, b6⟩ := hU j hj
      simp only [f_M_asTold_L141]
      simp (disch := omega) only [iI_le]
      rw [if_neg (by omega), r_bit (by omega) (by omega)]
      simp only [bd_some, b01_eq0, lt]
      left
      cases hb : set.testBit j
      · exact ⟨st, ⟨hst.1, fun i hi => by rw [yU, hb]; exact hst.2 i hi⟩, by simp only [if_true, i_1, iI_add]; rfl⟩
      · refine ⟨upd st (25 + U j) (iI (M j)), ⟨fun i hi hi2 => ?_, fun i hi => ?_⟩, ?_⟩
        · rw [upd_n (by omega)]; exact hst.1 i hi hi2
        · rw [yU, hb, if_pos rfl]
          unfold setN
          by_cases c : i = U j
          · subst c; rw [if_pos rfl]; exact upd_s _ _ _
          · rw [if_neg c, upd_n (by omega)]; exact hst.2 i hi
        · simp (disch := omega) only [Bool.true_eq_false, if_false, iI_ck, iI_cl, b3, b4, ck25, cl25, i_1, iI_add]
          rfl) (fun f st hst => by
      refine ⟨st, hst, ?_⟩
      simp only [f_M_asTold_L141]
      simp (disch := omega) only [iI_le]
      rw [if_pos (by omega)]) fu 0 x3 (by omega) (by have := fu_big; omega) ⟨fun i _ _ => rfl, fun i hi => a2 i hi⟩
  obtain ⟨x4, h4, e4⟩ := k4
  exact ⟨x4, e4, h4⟩
theorem r_told5 {l1 tp tf tu : Int32} {x1 x2 x3 x4 : Nat → Int32} (e1 : f_M_asTold_L2 fu (0 : Int32) x = some x1) (e2 : f_M_asTold_L23 tse fu (0 : Int32) x1 = some x2) (e3 : f_M_asTold_L51 tp ton tot tye tki fu (0 : Int32) x2 = some x3) (e4 : f_M_asTold_L141 l1 tu tun tma fu (0 : Int32) x3 = some x4) : f_M_asTold l1 x tp tf tu tse ton tot tye tki tun tma = some (upd (upd x4 55 tp) 56 tf) := by
  unfold f_M_asTold
  rw [e1, bd_some, e2, bd_some, e3, bd_some, e4, bd_some, ck55, ck56, cl55, cl56]
theorem r_asTold (h : bR bup buy btp bso bon bot bki bye bsa tse ton tot tye tki tun tma ttr S O T K Y U M R p n u r fd fb ns sl) (hset : set < 1024) : ∃ x', f_M_asTold (iI set) x (iI n) (iI fb) (iI u) tse ton tot tye tki tun tma = some x' ∧ xv x' S O T K (yU Y U M set u) z0 p n fb ∧ x' 57 = iI ((0 : Nat) : Int) := by
  obtain ⟨-, ho, ⟨t1, t2, t3, t4, t5⟩, hu, hU, -⟩ := h
  have p5 := ho.1.1
  have n10 := ho.1.2.1
  obtain ⟨x1, e1, h1⟩ := r_told1 (x := x)
  obtain ⟨x2, e2, h2⟩ := r_told2 (tse := tse) h1
  obtain ⟨x3, e3, a1, a2, a3, a4⟩ := r_told3 n10 t2 t3 t4 t5 h2
  obtain ⟨x4, e4, c1, c2⟩ := r_told4 n10 hset hu hU (fun i hi => (a2 i hi).2.2.1)
  refine ⟨_, r_told5 e1 e2 e3 e4, ⟨fun q hq => ?_, fun k hk => ?_, ?_, upd_s _ _ _⟩, ?_⟩
  · rw [upd_n (by omega), upd_n (by omega), c1 q (by omega) (by omega), a1 q (by omega)]; exact t1 q hq
  · obtain ⟨g1, g2, g3, g4⟩ := a2 k hk
    refine ⟨?_, ?_, ?_, ?_, ?_⟩
    · rw [upd_n (by omega), upd_n (by omega), c1 _ (by omega) (by omega)]; exact g1
    · rw [upd_n (by omega), upd_n (by omega), c1 _ (by omega) (by omega)]; exact g2
    · rw [upd_n (by omega), upd_n (by omega)]; exact c2 k hk
    · rw [upd_n (by omega), upd_n (by omega), c1 _ (by omega) (by omega)]; exact a3 k (by omega)
    · rw [upd_n (by omega), upd_n (by omega), c1 _ (by omega) (by omega)]; exact g4
  · rw [upd_n (by omega)]; exact upd_s _ _ _
  · rw [upd_n (by omega), upd_n (by omega), c1 _ (by omega) (by omega)]; exact a4
theorem xok_U (h : bR bup buy btp bso bon bot bki bye bsa tse ton tot tye tki tun tma ttr S O T K Y U M R p n u r fd fb ns sl) : xok S O T K (yU Y U M set u) z0 p n fb ns := by
  obtain ⟨-, ho, -, hu, hU, -⟩ := h
  obtain ⟨⟨p5, n10, ns10, f1, s1, b⟩, -, hzy, -⟩ := ho
  refine ⟨p5, n10, ns10, f1, s1, fun k hk => ?_⟩
  have h1 := b k hk
  have h2 := hzy k hk
  exact ⟨h1.1, h1.2.1, h1.2.2.1, h1.2.2.2.1, Nat.lt_of_lt_of_le (yU_lt (B := 5000) h2.2 (fun i hi => by have := (hU i hi).2.2.2.2.2; omega) u (Nat.le_refl _)) (by omega), by show (0 : Nat) < 10000; omega⟩
/-- whether what was tried came so -/
def soP (S O T K Y U M R : Nat → Nat) (u fd sl set i : Nat) : Bool := (canP S O T K (H0 K (yU Y U M set u) z0) sl (R i)) == fd.testBit i
theorem q_isSo {i : Nat} (h : bR bup buy btp bso bon bot bki bye bsa tse ton tot tye tki tun tma ttr S O T K Y U M R p n u r fd fb ns sl) (hset : set < 1024) (hi : i < r) : f_Fitter_isSo (iI i) (iI set) bup buy btp (iI sl) (iI u) (iI fd) bso bon bot bki bye bsa = some (b01 (soP S O T K Y U M R u fd sl set i)) := by
  have hxo := xok_U (set := set) h
  obtain ⟨⟨c0, c1, c2, c3, c4, c5⟩, ho, -, hu, hU, hr, hR, hfd⟩ := h
  obtain ⟨⟨p5, n10, ns10, f1, s1, b⟩, ho2, hzy, hsl, hp0⟩ := ho
  obtain ⟨r1, r2, hk⟩ := hR i hi
  obtain ⟨b1, b2, b3, b4, b5, b6⟩ := b _ hk
  have t1 := s1 _ b1
  have t2 := s1 _ b2
  have hY : ∀ j, j ≤ u → yU Y U M set j (R i) < 5000 := yU_lt (hzy _ hk).2 (fun i hi => by have := (hU i hi).2.2.2.2.2; omega)
  have key := lp (L := fun f j (st : Int32) => f_Fitter_isSo_L30 (iI set) (iI (R i)) bup buy (iI u) bki f st (iI (j : Int))) (n := u) (I := fun j st => st = iI (H0 K (yU Y U M set j) z0 (R i) : Nat)) (Post := fun st => st = iI (H0 K (yU Y U M set u) z0 (R i) : Nat)) (fun f j st hj hst => by
      subst hst
      obtain ⟨u1, u2, u3, u4, u5, u6⟩ := hU j hj
      refine Or.inl ⟨_, rfl, ?_⟩
      simp only [f_Fitter_isSo_L30]
      simp (disch := omega) only [iI_le]
      rw [if_neg (by omega), q_has (by omega) (by omega), yU]
      simp (disch := omega) only [bd_some, b01_eq0, lt, iI_ck, iI_cl, u1, u2, c3 _ hk, i_1, iI_add, i_2, iI_eq]
      cases hb : set.testBit j
      · simp [bd]
      · by_cases d1 : U j = R i
        · by_cases d2 : K (R i) = 2
          · have e1 : (U j : Int) = (R i : Int) := by omega
            have e2 : (K (R i) : Int) = 2 := by omega
            simp only [Bool.true_eq_false, if_false, if_true, if_pos e1, if_pos e2, bd_some]
            unfold H0 hnd
            rw [if_pos d2, if_pos d2]
            rfl
          · have e1 : (U j : Int) = (R i : Int) := by omega
            have e2 : ¬ (K (R i) : Int) = 2 := by omega
            simp only [Bool.true_eq_false, if_false, if_true, if_pos e1, if_neg e2, bd_some, Bool.false_eq_true]
            unfold H0 hnd setN
            rw [if_neg d2, if_pos d1.symm]
            rfl
        · have e1 : ¬ (U j : Int) = (R i : Int) := by omega
          simp only [Bool.true_eq_false, if_false, if_true, if_neg e1, bd_some]
          have e3 : setN (yU Y U M set j) (U j) (M j) (R i) = yU Y U M set j (R i) := by unfold setN; rw [if_neg (fun e => d1 e.symm)]
          have e4 : H0 K (setN (yU Y U M set j) (U j) (M j)) z0 (R i) = H0 K (yU Y U M set j) z0 (R i) := by unfold H0 hnd; rw [e3]
          rw [e4]
          rfl) (fun f st hst => by
      refine ⟨st, hst, ?_⟩
      simp only [f_Fitter_isSo_L30]
      simp (disch := omega) only [iI_le]
      rw [if_pos (by omega)]) fu 0 (iI (H0 K Y z0 (R i) : Nat)) (by omega) (by have := fu_big; omega) rfl
  obtain ⟨st, rfl, he⟩ := key
  have he2 : f_Fitter_isSo_L30 (iI set) (iI (R i)) bup buy (iI u) bki fu (iI (H0 K Y z0 (R i) : Nat)) (0 : Int32) = some (iI (H0 K (yU Y U M set u) z0 (R i) : Nat)) := he
  have hq := q_handle n10 hk c3 c4 c5 b4 (by omega) (by show (0 : Nat) < 100000; omega)
  change f_Now_handle (iI (R i)) bki bye bsa = some (iI (H0 K Y z0 (R i) : Nat)) at hq
  have hH : H0 K (yU Y U M set u) z0 (R i) < 100000 := H0_lt (by have := hY u (Nat.le_refl _); omega)
  unfold f_Fitter_isSo
  simp (disch := omega) only [iI_ck, iI_cl, lt, r1]
  rw [hq]
  simp only [bd_some]
  rw [he2]
  simp only [bd_some]
  rw [q_far n10 p5 hk c0 c1 c2 b1 b2 (by omega) (by omega)]
  simp only [bd_some]
  rw [c3 _ hk, q_reaches b4 hH (Nat.lt_trans (dst_lt (by omega) (by omega)) (by omega)) (by omega), q_has (by omega) (by omega)]
  simp only [bd_some]
  unfold soP canP
  cases rch (K (R i)) (H0 K (yU Y U M set u) z0 (R i)) (dst (S (O (R i))) (S (T (R i)))) sl <;> cases fd.testBit i <;> rfl
end
