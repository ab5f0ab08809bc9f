/-! questions about unsure years -/
theorem fiL_le {S O T K Y U M R : Nat → Nat} {u r fd sl : Nat} (hu : u ≤ 4) : (fiL S O T K Y U M R u r fd sl).length ≤ 16 := Nat.le_trans (rg_le _) (two4 hu)
theorem fiL_lt {S O T K Y U M R : Nat → Nat} {u r fd sl b : Nat} (hu : u ≤ 4) (h : b ∈ fiL S O T K Y U M R u r fd sl) : b < 16 := by
  have := (List.mem_filter.mp h).1
  rw [List.mem_range] at this
  exact Nat.lt_of_lt_of_le this (two4 hu)
section
variable {bup buy btp bso bon bot bki bye bsa tse ton tot tye tki tun tma ttr x fs oi : Nat → Int32} {S O T K Y U M R : Nat → Nat} {p n u r fd fb ns sl set : Nat} {fc m1 m2 m3 : Int32}
theorem e_fits (h : bR bup buy btp bso bon bot bki bye bsa tse ton tot tye tki tun tma ttr S O T K Y U M R p n u r fd fb ns sl) : ∃ R' R'', f_X_fits bup buy btp (iI sl) (iI p) (iI u) (iI r) (iI fd) bso bon bot bki bye bsa fs fc = some R' ∧ f_M_fits x oi (iI sl) (iI n) (iI fb) (iI u) (iI r) (iI fd) tse ton tot tye tki tun tma ttr = some R'' ∧ qz R'.1 R'.2.1 R''.1 R''.2.2.1 R''.2.2.2.1 := by
  have ho := h.2.1
  obtain ⟨fs', e1, e2⟩ := q_collect (fs := fs) h
  obtain ⟨Q, g1, g2, -⟩ := r_fitting (l1 := (-1 : Int32)) (x := x) (oi := oi) h
  unfold f_X_fits f_M_fits
  rw [q_noTable ho.2.2.2.2 ho.1.1, e1, g1]
  exact ⟨_, _, rfl, rfl, qz_0 g2.symm⟩
theorem e_fitAt (h : bR bup buy btp bso bon bot bki bye bsa tse ton tot tye tki tun tma ttr S O T K Y U M R p n u r fd fb ns sl) (l1 : Int32) : ∃ R' R'', f_X_fitAt l1 bup buy btp (iI sl) (iI p) (iI u) (iI r) (iI fd) bso bon bot bki bye bsa fs fc = some R' ∧ f_M_fitAt l1 x m1 m2 m3 oi (iI sl) (iI n) (iI fb) (iI u) (iI r) (iI fd) tse ton tot tye tki tun tma ttr = some R'' ∧ qz R'.1 R'.2.1 R''.1 R''.2.2.1 R''.2.2.2.1 := by
  have ho := h.2.1
  have hu := h.2.2.2.1
  obtain ⟨fs', e1, e2⟩ := q_collect (fs := fs) h
  obtain ⟨Q, g1, g2, g3, -⟩ := r_fitting (l1 := l1) (x := x) (oi := oi) h
  have hle := fiL_le (S := S) (O := O) (T := T) (K := K) (Y := Y) (U := U) (M := M) (R := R) (r := r) (fd := fd) (sl := sl) hu
  have hlt : ∀ b ∈ fiL S O T K Y U M R u r fd sl, b < 16 := fun b hb => fiL_lt hu hb
  generalize fiL S O T K Y U M R u r fd sl = F at *
  unfold f_X_fitAt f_M_fitAt
  rw [q_noTable ho.2.2.2.2 ho.1.1, e1, g1]
  simp only [bd_some, eq_self, if_true]
  obtain ⟨z, z1, z2, rfl⟩ := i_any l1
  simp (disch := omega) only [i_0, iI_lt, iI_le]
  by_cases c1 : z < 0
  · rw [if_pos c1, if_neg (by omega)]
    exact ⟨_, _, rfl, rfl, qz_1⟩
  · obtain ⟨i, rfl⟩ := Int.eq_ofNat_of_zero_le (show 0 ≤ z by omega)
    have g4 := g3 i (by omega) rfl
    rw [if_neg c1, if_pos (show (0 : Int) ≤ (i : Int) by omega)]
    by_cases c2 : F.length ≤ i
    · rw [if_pos (by omega)]
      rw [List.getElem?_eq_none c2] at g4
      simp only at g4
      rw [g4, i_m1, if_pos rfl]
      exact ⟨_, _, rfl, rfl, qz_1⟩
    · obtain ⟨b, hb⟩ : ∃ b, F[i]? = some b := ⟨F[i], by simp⟩
      have hb2 := hlt b (List.mem_of_getElem? hb)
      rw [hb] at g4
      simp only at g4
      rw [if_neg (by omega), g4, i_m1, if_neg (by rw [iI_eq] <;> omega)]
      simp (disch := omega) only [bd_some, Bool.false_eq_true, if_false, iI_ck, iI_cl, e2 i b hb]
      exact ⟨_, _, rfl, rfl, qz_0 rfl⟩
theorem tkF {α : Type} {F : List Nat} {j b : Nat} (h : F[j]? = some b) (g : α → Nat → α) (a : α) : (F.take (j + 1)).foldl g a = g ((F.take j).foldl g a) b := by
  rw [List.take_succ, h, List.foldl_append]
  rfl
theorem e_could (h : bR bup buy btp bso bon bot bki bye bsa tse ton tot tye tki tun tma ttr S O T K Y U M R p n u r fd fb ns sl) : ∃ R' R'', f_X_could bup buy btp (iI sl) (iI p) (iI u) (iI r) (iI fd) bso bon bot bki bye bsa fs fc = some R' ∧ f_M_could x oi (iI sl) (iI n) (iI fb) (iI u) (iI r) (iI fd) tse ton tot tye tki tun tma ttr = some R'' ∧ qz R'.1 R'.2.1 R''.1 R''.2.2.1 R''.2.2.2.1 := by
  have ho := h.2.1
  have hu := h.2.2.2.1
  obtain ⟨fs', e1, e2⟩ := q_collect (fs := fs) h
  obtain ⟨Q, g1, g2, -, g4, -⟩ := r_fitting (l1 := (-1 : Int32)) (x := x) (oi := oi) h
  have hle := fiL_le (S := S) (O := O) (T := T) (K := K) (Y := Y) (U := U) (M := M) (R := R) (r := r) (fd := fd) (sl := sl) hu
  generalize fiL S O T K Y U M R u r fd sl = F at *
  have key := lp (L := fun f j (st : Int32) => f_X_could_L20 fs' (iI (F.length : Nat)) f st (iI (j : Int))) (n := F.length) (I := fun j st => st = (F.take j).foldl (fun a b => a ||| iI (b : Nat)) 0) (Post := fun st => st = F.foldl (fun a b => a ||| iI (b : Nat)) 0) (fun f j st hj hst => by
      subst hst
      obtain ⟨b, hb⟩ : ∃ b, F[j]? = some b := ⟨F[j], by simp⟩
      refine Or.inl ⟨_, rfl, ?_⟩
      rw [tkF hb]
      simp only [f_X_could_L20]
      simp (disch := omega) only [iI_le, iI_ck, iI_cl, e2 j b hb, lt, i_1, iI_add]
      rw [if_neg (by omega)]
      rfl) (fun f st hst => by
      refine ⟨st, by rw [hst, List.take_length], ?_⟩
      simp only [f_X_could_L20]
      simp (disch := omega) only [iI_le]
      rw [if_pos (by omega)]) fu 0 (0 : Int32) (by omega) (by have := fu_big; omega) rfl
  obtain ⟨st, rfl, he⟩ := key
  have he2 : f_X_could_L20 fs' (iI (F.length : Nat)) fu (0 : Int32) (0 : Int32) = some (F.foldl (fun a b => a ||| iI (b : Nat)) 0) := he
  unfold f_X_could f_M_could
  rw [q_noTable ho.2.2.2.2 ho.1.1, e1, g1]
  simp only [bd_some, eq_self, if_true]
  rw [he2]
  exact ⟨_, _, rfl, rfl, qz_0 g4.symm⟩
theorem e_surely (h : bR bup buy btp bso bon bot bki bye bsa tse ton tot tye tki tun tma ttr S O T K Y U M R p n u r fd fb ns sl) : ∃ R' R'', f_X_surely bup buy btp (iI sl) (iI p) (iI u) (iI r) (iI fd) bso bon bot bki bye bsa fs fc = some R' ∧ f_M_surely x oi (iI sl) (iI n) (iI fb) (iI u) (iI r) (iI fd) tse ton tot tye tki tun tma ttr = some R'' ∧ qz R'.1 R'.2.1 R''.1 R''.2.2.1 R''.2.2.2.1 := by
  have ho := h.2.1
  have hu := h.2.2.2.1
  obtain ⟨fs', e1, e2⟩ := q_collect (fs := fs) h
  obtain ⟨Q, g1, g2, -, -, g5, -⟩ := r_fitting (l1 := (-1 : Int32)) (x := x) (oi := oi) h
  have hle := fiL_le (S := S) (O := O) (T := T) (K := K) (Y := Y) (U := U) (M := M) (R := R) (r := r) (fd := fd) (sl := sl) hu
  generalize fiL S O T K Y U M R u r fd sl = F at *
  have key : ∀ s0 : Int32, f_X_surely_L44 fs' (iI (F.length : Nat)) fu s0 (0 : Int32) = some (F.foldl (fun a b => a &&& iI (b : Nat)) s0) := by
    intro s0
    have key := lp (L := fun f j (st : Int32) => f_X_surely_L44 fs' (iI (F.length : Nat)) f st (iI (j : Int))) (n := F.length) (I := fun j st => st = (F.take j).foldl (fun a b => a &&& iI (b : Nat)) s0) (Post := fun st => st = F.foldl (fun a b => a &&& iI (b : Nat)) s0) (fun f j st hj hst => by
      subst hst
      obtain ⟨b, hb⟩ : ∃ b, F[j]? = some b := ⟨F[j], by simp⟩
      refine Or.inl ⟨_, rfl, ?_⟩
      rw [tkF hb]
      simp only [f_X_surely_L44]
      simp (disch := omega) only [iI_le, iI_ck, iI_cl, e2 j b hb, lt, i_1, iI_add]
      rw [if_neg (by omega)]
      rfl) (fun f st hst => by
      refine ⟨st, by rw [hst, List.take_length], ?_⟩
      simp only [f_X_surely_L44]
      simp (disch := omega) only [iI_le]
      rw [if_pos (by omega)]) fu 0 s0 (by omega) (by have := fu_big; omega) rfl
    obtain ⟨st, rfl, he⟩ := key
    exact he
  unfold f_X_surely f_M_surely
  rw [q_noTable ho.2.2.2.2 ho.1.1, e1, g1]
  simp only [bd_some, eq_self, if_true]
  rw [iI_shl1 (by omega)]
  by_cases c : F.length = 0
  · rw [if_pos (by rw [c]; rfl), bd_some, key]
    refine ⟨_, _, rfl, rfl, qz_0 ?_⟩
    rw [g5, if_pos c, List.length_eq_zero_iff.mp c]
    rfl
  · rw [if_neg (by rw [i_0, iI_eq] <;> omega), bd_some, key]
    refine ⟨_, _, rfl, rfl, qz_0 ?_⟩
    rw [g5, if_neg c]
/-- how many are left at worst -/
def mlf (F : List Nat) (k : Nat) : Nat := max (F.filter (fun b => b.testBit k)).length (F.length - (F.filter (fun b => b.testBit k)).length)
theorem q_mostLeft {F : List Nat} {fs' : Nat → Int32} {k : Nat} (hle : F.length ≤ 16) (hlt : ∀ b ∈ F, b < 16) (hk : k < 4) (e2 : arL fs' F) : f_Fitter_mostLeft (iI k) fs' (iI (F.length : Nat)) = some (iI (mlf F k : Nat)) := by
  have key := lp (L := fun f j (st : Int32) => f_Fitter_mostLeft_L4 (iI k) fs' (iI (F.length : Nat)) f st (iI (j : Int))) (n := F.length) (I := fun j st => st = iI (((F.take j).filter (fun b => b.testBit k)).length : Nat)) (Post := fun st => st = iI ((F.filter (fun b => b.testBit k)).length : Nat)) (fun f j st hj hst => by
      subst hst
      obtain ⟨b, hb⟩ : ∃ b, F[j]? = some b := ⟨F[j], by simp⟩
      have hb2 := hlt b (List.mem_of_getElem? hb)
      refine Or.inl ⟨_, rfl, ?_⟩
      rw [tk hb]
      simp only [f_Fitter_mostLeft_L4]
      simp (disch := omega) only [iI_le, iI_ck, iI_cl, e2 j b hb]
      rw [if_neg (by omega), q_has (by omega) (by omega)]
      simp only [bd_some, b01_eq0, lt, i_1, iI_add]
      cases b.testBit k
      · simp
      · simp) (fun f st hst => by
      refine ⟨st, by rw [hst, List.take_length], ?_⟩
      simp only [f_Fitter_mostLeft_L4]
      simp (disch := omega) only [iI_le]
      rw [if_pos (by omega)]) fu 0 (0 : Int32) (by omega) (by have := fu_big; omega) rfl
  obtain ⟨st, rfl, he⟩ := key
  have he2 : f_Fitter_mostLeft_L4 (iI k) fs' (iI (F.length : Nat)) fu (0 : Int32) (0 : Int32) = some (iI ((F.filter (fun b => b.testBit k)).length : Nat)) := he
  have hw : (F.filter (fun b => b.testBit k)).length ≤ F.length := List.length_filter_le _ _
  unfold f_Fitter_mostLeft mlf
  rw [he2, bd_some]
  generalize (F.filter (fun b => b.testBit k)).length = w at *
  simp (disch := omega) only [iI_sub, iI_lt]
  congr 1
  by_cases c : (w : Int) < (F.length : Int) - w
  · rw [if_pos c]; congr 1; omega
  · rw [if_neg c]; congr 1; omega
theorem e_asks (h : bR bup buy btp bso bon bot bki bye bsa tse ton tot tye tki tun tma ttr S O T K Y U M R p n u r fd fb ns sl) : ∃ (fs' : Nat → Int32) (Q : (Nat → Int32) × Int32 × Int32 × Int32 × (Nat → Int32)) (q l : Int32), f_Fitter_collect bup buy btp (iI sl) (iI u) (iI r) (iI fd) bso bon bot bki bye bsa fs = some (fs', iI ((fiL S O T K Y U M R u r fd sl).length : Nat)) ∧ f_Fitter_bestQuestion (iI u) fs' (iI ((fiL S O T K Y U M R u r fd sl).length : Nat)) = some q ∧ f_M_asks x oi (iI sl) (iI n) (iI fb) (iI u) (iI r) (iI fd) tse ton tot tye tki tun tma ttr = some (q, Q.1, Q.2.1, Q.2.2.1, Q.2.2.2.1, Q.2.2.2.2, l) ∧ ((q = iI (-2) ∧ l = iI (-2)) ∨ ∃ k, k < u ∧ q = iI (k : Nat) ∧ f_Fitter_mostLeft q fs' (iI ((fiL S O T K Y U M R u r fd sl).length : Nat)) = some l) := by
  have hu := h.2.2.2.1
  obtain ⟨fs', e1, e2⟩ := q_collect (fs := fs) h
  obtain ⟨Q, g1, g2, -, -, -, g6⟩ := r_fitting (l1 := (-1 : Int32)) (x := x) (oi := oi) h
  have hle := fiL_le (S := S) (O := O) (T := T) (K := K) (Y := Y) (U := U) (M := M) (R := R) (r := r) (fd := fd) (sl := sl) hu
  have hlt : ∀ b ∈ fiL S O T K Y U M R u r fd sl, b < 16 := fun b hb => fiL_lt hu hb
  generalize fiL S O T K Y U M R u r fd sl = F at *
  unfold f_Fitter_bestQuestion f_M_asks
  rw [g1, bd_some, g2]
  have key := lq (L := fun f j (st : Int32 × Int32) => f_Fitter_bestQuestion_L7 (iI u) fs' (iI (F.length : Nat)) f st.1 st.2 (iI (j : Int))) (L' := fun f j (st : Int32 × Int32) => f_M_asks_L17 (iI (F.length : Nat)) Q.2.2.2.2.2 (iI u) f st.1 (iI (j : Int)) st.2) (n := u) (K := fun x6 => some x6) (K' := fun x7 => some (x7.1, Q.2.1, iI (F.length : Nat), Q.2.2.2.1, Q.2.2.2.2.1, Q.2.2.2.2.2, x7.2)) (Post := fun q R => ∃ l, R = (q, Q.2.1, iI (F.length : Nat), Q.2.2.2.1, Q.2.2.2.2.1, Q.2.2.2.2.2, l) ∧ ((q = iI (-2) ∧ l = iI (-2)) ∨ ∃ k, k < u ∧ q = iI (k : Nat) ∧ l = iI (mlf F k : Nat))) (I := fun j a b => a.1 = b.1 ∧ ((b.1 = iI (-2) ∧ b.2 = iI (-2)) ∨ ∃ k, k < u ∧ b.1 = iI (k : Nat) ∧ b.2 = iI (mlf F k : Nat) ∧ a.2 = b.2)) ?_ ?_ fu 0 ((-2 : Int32), (0 : Int32)) ((-2 : Int32), (-2 : Int32)) (by omega) (by have := fu_big; omega) ⟨rfl, Or.inl ⟨i_m2, i_m2⟩⟩
  · obtain ⟨q, R', k1, k2, l, rfl, k3⟩ := key
    refine ⟨fs', (Q.2.1, iI (F.length : Nat), Q.2.2.2.1, Q.2.2.2.2.1, Q.2.2.2.2.2), q, l, e1, k1, k2, ?_⟩
    rcases k3 with k3 | ⟨k, hk, rfl, rfl⟩
    · exact Or.inl k3
    · exact Or.inr ⟨k, hk, rfl, q_mostLeft hle hlt (by omega) e2⟩
  · intro f f' j st st' hj hst
    obtain ⟨i1, i2⟩ := hst
    have hm := q_mostLeft hle hlt (show j < 4 by omega) e2
    have hw : (F.filter (fun b => b.testBit j)).length ≤ F.length := List.length_filter_le _ _
    have hmm : (if iI ((F.filter (fun b => b.testBit j)).length : Nat) ≤ iI (F.length : Nat) - iI ((F.filter (fun b => b.testBit j)).length : Nat) then some (iI (F.length : Nat) - iI ((F.filter (fun b => b.testBit j)).length : Nat)) else some (iI ((F.filter (fun b => b.testBit j)).length : Nat)) : Option Int32) = some (iI (mlf F j : Nat)) := by
      unfold mlf
      generalize (F.filter (fun b => b.testBit j)).length = w at *
      simp (disch := omega) only [iI_sub, iI_le]
      by_cases c : (w : Int) ≤ (F.length : Int) - w
      · rw [if_pos c]; congr 2; omega
      · rw [if_neg c]; congr 2; omega
    have hmle : mlf F j ≤ 16 := by unfold mlf; omega
    simp only [f_Fitter_bestQuestion_L7, f_M_asks_L17]
    simp (disch := omega) only [iI_ck, iI_cl, g6 j hj]
    rw [hmm, hm]
    simp (disch := omega) only [i_0, iI_le]
    simp only [if_neg (show ¬ (u : Int) ≤ (j : Int) by omega)]
    by_cases c0 : F.length = 0
    · right
      simp only [if_pos (show (F.length : Int) ≤ 0 by omega), bd_some, if_true]
      refine ⟨_, _, _, _, rfl, rfl, rfl, rfl, st'.2, by rw [i1], ?_⟩
      rw [i1]
      rcases i2 with i2 | ⟨k, hk, i3, i4, -⟩
      · exact Or.inl i2
      · exact Or.inr ⟨k, hk, i3, i4⟩
    · left
      simp only [if_neg (show ¬ (F.length : Int) ≤ 0 by omega), bd_some, Bool.false_eq_true, if_false, lt, i_1, iI_add, i1, i_m2]
      rcases i2 with ⟨i2, i3⟩ | ⟨k, hk, i3, i4, i5⟩
      · have n0 : iI (-2) < iI 0 := by decide
        simp only [i2, if_pos n0, eq_self, if_true, bd_some]
        exact ⟨(iI j, iI (mlf F j : Nat)), (iI j, iI (mlf F j : Nat)), ⟨rfl, Or.inr ⟨j, hj, rfl, rfl, rfl⟩⟩, rfl, rfl⟩
      · have hk2 : mlf F k ≤ 16 := by unfold mlf; have : (F.filter (fun b => b.testBit k)).length ≤ F.length := List.length_filter_le _ _; omega
        have n0 : ¬ iI (k : Nat) < iI 0 := by rw [iI_lt] <;> omega
        have n1 : ¬ iI (k : Nat) = iI (-2) := by rw [iI_eq] <;> omega
        rw [i5, i4, i3]
        simp only [n0, n1, if_false]
        simp (disch := omega) only [iI_le, iI_lt]
        by_cases c : mlf F j < mlf F k
        · simp only [if_pos (show (mlf F j : Int) < (mlf F k : Int) by omega), if_neg (show ¬ (mlf F k : Int) ≤ (mlf F j : Int) by omega), bd_some, if_true]
          exact ⟨(iI j, iI (mlf F j : Nat)), (iI j, iI (mlf F j : Nat)), ⟨rfl, Or.inr ⟨j, hj, rfl, rfl, rfl⟩⟩, rfl, rfl⟩
        · simp only [if_neg (show ¬ (mlf F j : Int) < (mlf F k : Int) by omega), if_pos (show (mlf F k : Int) ≤ (mlf F j : Int) by omega), bd_some, Bool.false_eq_true, if_false]
          exact ⟨(iI k, iI (mlf F k : Nat)), (iI k, iI (mlf F k : Nat)), ⟨rfl, Or.inr ⟨k, hk, rfl, rfl, rfl⟩⟩, rfl, rfl⟩
  · intro f f' st st' hst
    obtain ⟨i1, i2⟩ := hst
    simp only [f_Fitter_bestQuestion_L7, f_M_asks_L17]
    simp (disch := omega) only [iI_le]
    simp only [if_pos (show (u : Int) ≤ (u : Int) by omega), bd_some, if_true]
    refine ⟨_, _, _, _, rfl, rfl, rfl, rfl, st'.2, by rw [i1], ?_⟩
    rw [i1]
    rcases i2 with i2 | ⟨k, hk, i3, i4, -⟩
    · exact Or.inl i2
    · exact Or.inr ⟨k, hk, i3, i4⟩
theorem e_ask (h : bR bup buy btp bso bon bot bki bye bsa tse ton tot tye tki tun tma ttr S O T K Y U M R p n u r fd fb ns sl) : ∃ R' R'', f_X_ask bup buy btp (iI sl) (iI p) (iI u) (iI r) (iI fd) bso bon bot bki bye bsa fs fc = some R' ∧ f_M_ask x oi (iI sl) (iI n) (iI fb) (iI u) (iI r) (iI fd) tse ton tot tye tki tun tma ttr = some R'' ∧ qz R'.1 R'.2.1 R''.1 R''.2.2.1 R''.2.2.2.1 := by
  have ho := h.2.1
  obtain ⟨fs', Q, q, l, e1, e2, e3, -⟩ := e_asks (x := x) (fs := fs) (oi := oi) h
  unfold f_X_ask f_M_ask
  rw [q_noTable ho.2.2.2.2 ho.1.1, e1, e3]
  simp only [bd_some, eq_self, if_true]
  rw [e2]
  exact ⟨_, _, rfl, rfl, qz_0 rfl⟩
theorem e_askLeaves (h : bR bup buy btp bso bon bot bki bye bsa tse ton tot tye tki tun tma ttr S O T K Y U M R p n u r fd fb ns sl) : ∃ R' R'', f_X_askLeaves bup buy btp (iI sl) (iI p) (iI u) (iI r) (iI fd) bso bon bot bki bye bsa fs fc = some R' ∧ f_M_askLeaves x oi (iI sl) (iI n) (iI fb) (iI u) (iI r) (iI fd) tse ton tot tye tki tun tma ttr = some R'' ∧ qz R'.1 R'.2.1 R''.1 R''.2.2.1 R''.2.2.2.1 := by
  have ho := h.2.1
  have hu := h.2.2.2.1
  obtain ⟨fs', Q, q, l, e1, e2, e3, e4⟩ := e_asks (x := x) (fs := fs) (oi := oi) h
  unfold f_X_askLeaves f_M_askLeaves
  rw [q_noTable ho.2.2.2.2 ho.1.1, e1, e3]
  simp only [bd_some, eq_self, if_true]
  rw [e2]
  simp only [bd_some]
  rcases e4 with ⟨rfl, rfl⟩ | ⟨k, hk, rfl, e4⟩
  · exact ⟨_, _, rfl, rfl, qz_0 rfl⟩
  · rw [if_pos (by rw [i_0, iI_le] <;> omega), e4]
    exact ⟨_, _, rfl, rfl, qz_0 rfl⟩
end
