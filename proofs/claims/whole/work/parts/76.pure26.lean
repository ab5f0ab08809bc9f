/-! which years fit -/
theorem lpF {ρ : Type} {L : Nat → Nat → Option ρ} {P : Nat → Bool} {n : Nat} {A : Nat → ρ} {B : ρ} (hs : ∀ f j, j < n → L (f + 1) j = if P j = true then some (A j) else L f (j + 1)) (hx : ∀ f, L (f + 1) n = some B) : ∀ f j g, j ≤ n → n - j < f → n - j < g → L f j = some (match fst P n g j with | some k => A k | none => B) := by
  intro f
  induction f with
  | zero => intro j g _ h; omega
  | succ f ih =>
    intro j g h1 h2 h3
    obtain ⟨g', rfl⟩ : ∃ g', g = g' + 1 := ⟨g - 1, by omega⟩
    rw [fst]
    by_cases hj : j = n
    · subst hj
      rw [hx f, if_neg (by omega)]
    · rw [hs f j (by omega), if_pos (show j < n by omega)]
      cases P j
      · simp only [Bool.false_eq_true, if_false]
        exact ih (j + 1) g' (by omega) (by omega) (by omega)
      · simp only [if_true]
theorem fst_lt {P : Nat → Bool} {n : Nat} : ∀ g j k, fst P n g j = some k → k < n ∧ P k = true := by
  intro g
  induction g with
  | zero => intro j k h; cases h
  | succ g ih =>
    intro j k h
    rw [fst] at h
    split at h
    · rename_i c
      split at h
      · rename_i d; cases h; exact ⟨c, d⟩
      · exact ih _ _ h
    · cases h
def woP (S O T K Y U M R : Nat → Nat) (u r fd sl set : Nat) : Option Nat := fst0 (fun i => !soP S O T K Y U M R u fd sl set i) r
def fiP (S O T K Y U M R : Nat → Nat) (u r fd sl set : Nat) : Bool := (woP S O T K Y U M R u r fd sl set).isNone
section
variable {bup buy btp bso bon bot bki bye bsa tse ton tot tye tki tun tma ttr x fs oi : Nat → Int32} {S O T K Y U M R : Nat → Nat} {p n u r fd fb ns sl set : Nat}
theorem q_isFit (h : bR bup buy btp bso bon bot bki bye bsa tse ton tot tye tki tun tma ttr S O T K Y U M R p n u r fd fb ns sl) (hset : set < 1024) : f_Fitter_isFit (iI set) bup buy btp (iI sl) (iI u) (iI r) (iI fd) bso bon bot bki bye bsa = some (b01 (fiP S O T K Y U M R u r fd sl set)) := by
  have hr := h.2.2.2.2.2.1
  have key := lpF (L := fun f j => f_Fitter_isFit_L2 (iI set) bup buy btp (iI sl) (iI u) (iI r) (iI fd) bso bon bot bki bye bsa f (iI (j : Int))) (P := fun i => !soP S O T K Y U M R u fd sl set i) (n := r) (A := fun _ => .inl (0 : Int32)) (B := .inr ()) (fun f j hj => by
      simp only [f_Fitter_isFit_L2]
      simp (disch := omega) only [iI_le]
      rw [if_neg (by omega), q_isSo h hset hj]
      simp only [bd_some, b01_eq0, lt, i_1, iI_add]
      cases soP S O T K Y U M R u fd sl set j
      · rfl
      · rfl) (fun f => by
      simp only [f_Fitter_isFit_L2]
      simp (disch := omega) only [iI_le]
      rw [if_pos (by omega)]) fu 0 (r + 1) (by omega) (by have := fu_big; omega) (by omega)
  have key2 : f_Fitter_isFit_L2 (iI set) bup buy btp (iI sl) (iI u) (iI r) (iI fd) bso bon bot bki bye bsa fu (0 : Int32) = _ := key
  unfold f_Fitter_isFit fiP woP fst0
  rw [key2]
  cases fst (fun i => !soP S O T K Y U M R u fd sl set i) r (r + 1) 0 <;> rfl
theorem r_wrongTried (h : bR bup buy btp bso bon bot bki bye bsa tse ton tot tye tki tun tma ttr S O T K Y U M R p n u r fd fb ns sl) (hset : set < 1024) : ∃ x', f_M_wrongTried (iI set) x (iI sl) (iI n) (iI fb) (iI u) (iI r) (iI fd) tse ton tot tye tki tun tma ttr = some (iI (on2 (woP S O T K Y U M R u r fd sl set)), x') := by
  have hr := h.2.2.2.2.2.1
  have hfd := h.2.2.2.2.2.2.2
  obtain ⟨x', e1, h1, -⟩ := r_asTold (x := x) h hset
  have key := lpF (L := fun f j => f_M_wrongTried_L7 x' (iI sl) (iI r) (iI fd) ttr f (iI (j : Int))) (P := fun i => !soP S O T K Y U M R u fd sl set i) (n := r) (A := fun j => .inl (iI (j : Int), x')) (B := .inr ()) (fun f j hj => by
      obtain ⟨r1, r2, hk⟩ := h.2.2.2.2.2.2.1 j hj
      simp only [f_M_wrongTried_L7]
      simp (disch := omega) only [iI_le, iI_ck, iI_cl, r2]
      rw [if_neg (by omega), r_isFeeding h1 (xok_U h) hk (show sl < 10 by have := h.2.1.2.2.2.1; omega), r_bit (by omega) (by omega)]
      simp only [bd_some, lt, i_1, iI_add]
      unfold soP
      cases canP S O T K (H0 K (yU Y U M set u) z0) sl (R j) <;> cases fd.testBit j <;> rfl) (fun f => by
      simp only [f_M_wrongTried_L7]
      simp (disch := omega) only [iI_le]
      rw [if_pos (by omega)]) fu 0 (r + 1) (by omega) (by have := fu_big; omega) (by omega)
  have key2 : f_M_wrongTried_L7 x' (iI sl) (iI r) (iI fd) ttr fu (0 : Int32) = _ := key
  unfold f_M_wrongTried woP fst0
  rw [e1, bd_some, key2]
  cases fst (fun i => !soP S O T K Y U M R u fd sl set i) r (r + 1) 0 <;> exact ⟨_, rfl⟩
theorem wo_none (h : r ≤ 6) : (iI (on2 (woP S O T K Y U M R u r fd sl set)) = iI (-2)) = (fiP S O T K Y U M R u r fd sl set = true) := by
  unfold fiP
  cases hw : woP S O T K Y U M R u r fd sl set with
  | none => simp [on2]
  | some k =>
    have := (fst_lt _ _ _ hw).1
    simp only [on2, Option.isNone_some, Bool.false_eq_true]
    refine propext ⟨fun e => ?_, fun e => e.elim⟩
    rw [iI_eq] at e <;> omega
theorem e_judge (h : bR bup buy btp bso bon bot bki bye bsa tse ton tot tye tki tun tma ttr S O T K Y U M R p n u r fd fb ns sl) : ∃ R' R'', f_X_judge bup buy btp (iI sl) (iI p) (iI u) (iI r) (iI fd) bso bon bot bki bye bsa = some R' ∧ f_M_judge x (iI sl) (iI n) (iI fb) (iI u) (iI r) (iI fd) tse ton tot tye tki tun tma ttr = some R'' ∧ qz R'.1 R'.2 R''.1 R''.2.2.1 R''.2.2.2.1 := by
  have hr := h.2.2.2.2.2.1
  have ho := h.2.1
  obtain ⟨x', e1⟩ := r_wrongTried (x := x) (set := 0) h (by omega)
  have e1 : f_M_wrongTried (0 : Int32) x (iI sl) (iI n) (iI fb) (iI u) (iI r) (iI fd) tse ton tot tye tki tun tma ttr = _ := e1
  have key := lpF (L := fun f j => f_X_judge_L11 0 bup buy btp (iI sl) (iI u) (iI r) (iI fd) bso bon bot bki bye bsa f (iI (j : Int))) (P := fun i => !soP S O T K Y U M R u fd sl 0 i) (n := r) (A := fun j => .inl (iI (j : Int), (0 : Int32))) (B := .inr ()) (fun f j hj => by
      have hq := q_isSo (set := 0) h (by omega) hj
      have hq : f_Fitter_isSo (iI j) (0 : Int32) bup buy btp (iI sl) (iI u) (iI fd) bso bon bot bki bye bsa = _ := hq
      simp only [f_X_judge_L11]
      simp (disch := omega) only [iI_le]
      rw [if_neg (by omega), hq]
      simp only [bd_some, b01_eq0, lt, i_1, iI_add]
      cases soP S O T K Y U M R u fd sl 0 j
      · rfl
      · rfl) (fun f => by
      simp only [f_X_judge_L11]
      simp (disch := omega) only [iI_le]
      rw [if_pos (by omega)]) fu 0 (r + 1) (by omega) (by have := fu_big; omega) (by omega)
  have key2 : f_X_judge_L11 0 bup buy btp (iI sl) (iI u) (iI r) (iI fd) bso bon bot bki bye bsa fu (0 : Int32) = _ := key
  unfold f_X_judge f_M_judge
  rw [q_noTable ho.2.2.2.2 ho.1.1, e1]
  simp only [bd_some, eq_self, if_true]
  rw [key2]
  unfold woP fst0
  cases fst (fun i => !soP S O T K Y U M R u fd sl 0 i) r (r + 1) 0
  · exact ⟨_, _, rfl, rfl, qz_0 rfl⟩
  · exact ⟨_, _, rfl, rfl, qz_0 rfl⟩
/-- the sets that fit -/
def fiL (S O T K Y U M R : Nat → Nat) (u r fd sl : Nat) : List Nat := (List.range (2 ^ u)).filter (fiP S O T K Y U M R u r fd sl)
theorem two4 {u : Nat} (h : u ≤ 4) : 2 ^ u ≤ 16 := Nat.pow_le_pow_right (n := 2) (j := 4) (by decide) h
theorem rg {G : Nat → Bool} (j : Nat) : (List.range (j + 1)).filter G = (List.range j).filter G ++ (if G j then [j] else []) := by
  rw [List.range_succ, List.filter_append, List.filter_cons, List.filter_nil]
theorem rg_le {G : Nat → Bool} (j : Nat) : ((List.range j).filter G).length ≤ j := Nat.le_trans (List.length_filter_le _ _) (by rw [List.length_range]; omega)
theorem q_collect (h : bR bup buy btp bso bon bot bki bye bsa tse ton tot tye tki tun tma ttr S O T K Y U M R p n u r fd fb ns sl) : ∃ fs', f_Fitter_collect bup buy btp (iI sl) (iI u) (iI r) (iI fd) bso bon bot bki bye bsa fs = some (fs', iI ((fiL S O T K Y U M R u r fd sl).length : Nat)) ∧ arL fs' (fiL S O T K Y U M R u r fd sl) := by
  have hu := h.2.2.2.1
  have h16 := two4 hu
  have hpos := Nat.two_pow_pos u
  generalize hG : fiP S O T K Y U M R u r fd sl = G
  have key := lp (L := fun f j (st : (Nat → Int32) × Int32) => f_Fitter_collect_L7 bup buy btp (iI sl) (iI u) (iI r) (iI fd) bso bon bot bki bye bsa f (iI (j : Int)) st.1 st.2) (n := 2 ^ u) (I := fun j st => arL st.1 ((List.range j).filter G) ∧ st.2 = iI (((List.range j).filter G).length : Nat)) (Post := fun st => arL st.1 ((List.range (2 ^ u)).filter G) ∧ st.2 = iI (((List.range (2 ^ u)).filter G).length : Nat)) (fun f j st hj hst => by
      obtain ⟨a1, a2⟩ := hst
      have hle := rg_le (G := G) j
      simp only [f_Fitter_collect_L7]
      rw [iI_shl1 (by omega), if_neg (by rw [iI_le] <;> omega), a2, i_16, if_neg (by rw [iI_le] <;> omega), q_isFit h (by omega), hG, rg]
      simp only [bd_some, Bool.false_eq_true, if_false, b01_eq0, lt]
      left
      cases hg : G j
      · exact ⟨(st.1, iI (((List.range j).filter G).length : Nat)), ⟨by simpa using a1, by simp⟩, by simp only [if_true, i_1, iI_add]; rfl⟩
      · refine ⟨(upd st.1 ((List.range j).filter G).length (iI (j : Nat)), iI (((List.range j).filter G ++ [j]).length : Nat)), ⟨by simpa using arL_add a1, by simp⟩, ?_⟩
        simp (disch := omega) only [Bool.true_eq_false, if_false, iI_ck, iI_cl, i_1, iI_add]
        simp) (fun f st hst => by
      refine ⟨(st.1, st.2), hst, ?_⟩
      simp only [f_Fitter_collect_L7]
      rw [iI_shl1 (by omega), if_pos (by rw [iI_le] <;> omega)]
      rfl) fu 0 (fs, (0 : Int32)) (by omega) (by have := fu_big; omega) ⟨fun j v hv => by simp at hv, rfl⟩
  obtain ⟨st, ⟨h1, h2⟩, he⟩ := key
  have he2 : f_Fitter_collect_L7 bup buy btp (iI sl) (iI u) (iI r) (iI fd) bso bon bot bki bye bsa fu (0 : Int32) fs (0 : Int32) = some st := he
  unfold f_Fitter_collect fiL
  rw [he2, hG]
  exact ⟨st.1, by rw [bd_some, h2], h1⟩
/-- how many fit, the i-th, all in one, what all share, in how many each is otherwise -/
theorem r_fitting {l1 : Int32} (h : bR bup buy btp bso bon bot bki bye bsa tse ton tot tye tki tun tma ttr S O T K Y U M R p n u r fd fb ns sl) : ∃ R', f_M_fitting l1 x oi (iI sl) (iI n) (iI fb) (iI u) (iI r) (iI fd) tse ton tot tye tki tun tma ttr = some R' ∧ R'.2.2.1 = iI ((fiL S O T K Y U M R u r fd sl).length : Nat) ∧ (∀ i : Nat, i < 2147483648 → l1 = iI i → R'.1 = (match (fiL S O T K Y U M R u r fd sl)[i]? with | some b => iI (b : Nat) | none => iI (-1))) ∧ R'.2.2.2.1 = (fiL S O T K Y U M R u r fd sl).foldl (fun a b => a ||| iI (b : Nat)) 0 ∧ R'.2.2.2.2.1 = (if (fiL S O T K Y U M R u r fd sl).length = 0 then 0 else (fiL S O T K Y U M R u r fd sl).foldl (fun a b => a &&& iI (b : Nat)) (iI ((2 ^ u : Nat) : Int) - 1)) ∧ ∀ k, k < u → R'.2.2.2.2.2 k = iI (((fiL S O T K Y U M R u r fd sl).filter (fun b => b.testBit k)).length : Nat) := by
  have hu := h.2.2.2.1
  have hr := h.2.2.2.2.2.1
  have h16 := two4 hu
  have hpos := Nat.two_pow_pos u
  generalize hG : fiP S O T K Y U M R u r fd sl = G
  have k1 := lp (L := fun f j (st : (Nat → Int32)) => f_M_fitting_L29  f (iI (j : Int)) st) (n := 4) (I := fun j st => ∀ i, i < j → st i = iI ((0 : Nat) : Int)) (Post := fun st => ∀ i, i < 4 → st i = iI ((0 : Nat) : Int)) (fun f j st hj hst => by
      refine Or.inl ⟨upd st j (iI ((0 : Nat) : Int)), fun i hi => ?_, ?_⟩
      · by_cases c : i = j
        · subst c; exact upd_s _ _ _
        · rw [upd_n c]; exact hst i (by omega)
      · simp only [f_M_fitting_L29, lt]
        simp (disch := omega) only [i_4, iI_le, iI_ck, iI_cl, i_1, iI_add]
        rw [if_neg (by omega)]
        rfl) (fun f st hst => by
      refine ⟨st, hst, ?_⟩
      simp only [f_M_fitting_L29]
      simp (disch := omega) only [i_4, iI_le]
      rw [if_pos (by omega)]) fu 0 oi (by omega) (by have := fu_big; omega) (fun i hi => by omega)
  obtain ⟨oi1, h1, e1⟩ := k1
  have e1 : f_M_fitting_L29 fu (0 : Int32) oi = some oi1 := e1
  have inner : ∀ (s : Nat) (w : Nat → Nat) (o : Nat → Int32), s < 1024 → (∀ k, k < u → o k = iI (w k : Nat)) → ∃ o', f_M_fitting_L118 (iI s) (iI u) fu (0 : Int32) o = some o' ∧ ∀ k, k < u → o' k = iI ((w k + (if s.testBit k then 1 else 0) : Nat) : Int) := by
    intro s w o hs ho
    have k2 := lp (L := fun f j (st : (Nat → Int32)) => f_M_fitting_L118 (iI s) (iI u) f (iI (j : Int)) st) (n := u) (I := fun j st => ∀ i, i < u → st i = iI ((w i + (if i < j ∧ s.testBit i = true then 1 else 0) : Nat) : Int)) (Post := fun st => ∀ k, k < u → st k = iI ((w k + (if s.testBit k then 1 else 0) : Nat) : Int)) (fun f j st hj hst => by
        refine Or.inl ⟨upd st j (iI ((w j + (if s.testBit j then 1 else 0) : Nat) : Int)), fun i hi => ?_, ?_⟩
        · by_cases c : i = j
          · subst c; rw [upd_s]; congr 2; simp
          · have hiff : (i < j + 1 ∧ s.testBit i = true) ↔ (i < j ∧ s.testBit i = true) := ⟨fun h => ⟨by omega, h.2⟩, fun h => ⟨by omega, h.2⟩⟩
            rw [upd_n c, hst i hi]
            simp only [hiff]
        · have hj0 := hst j hj
          rw [if_neg (by omega)] at hj0
          simp only [f_M_fitting_L118, lt]
          simp (disch := omega) only [iI_le, iI_ck, iI_cl, hj0]
          rw [if_neg (by omega), r_bit (by omega) (by omega)]
          simp only [bd_some, b01_eq0, i_1]
          cases s.testBit j
          · simp only [if_true, bd_some, iI_add, i_0]; rfl
          · simp only [Bool.true_eq_false, if_false, if_true, bd_some, iI_add]; rfl) (fun f st hst => by
        refine ⟨st, fun k hk => by rw [hst k hk]; congr 3; simp [hk], ?_⟩
        simp only [f_M_fitting_L118]
        simp (disch := omega) only [iI_le]
        rw [if_pos (by omega)]) fu 0 o (by omega) (by have := fu_big; omega) (fun i hi => by rw [ho i hi]; simp)
    obtain ⟨o', h', e'⟩ := k2
    exact ⟨o', e', h'⟩
  have key := lp (L := fun f j (st : Int32 × (Nat → Int32) × Int32 × Int32 × Int32 × (Nat → Int32)) => f_M_fitting_L49 l1 (iI sl) (iI n) (iI fb) (iI u) (iI r) (iI fd) tse ton tot tye tki tun tma ttr f st.1 (iI (j : Int)) st.2.1 st.2.2.1 st.2.2.2.1 st.2.2.2.2.1 st.2.2.2.2.2) (n := 2 ^ u) (I := fun j st => st.2.2.1 = iI (((List.range j).filter G).length : Nat) ∧ (∀ i : Nat, i < 2147483648 → l1 = iI i → st.1 = (match ((List.range j).filter G)[i]? with | some b => iI (b : Nat) | none => iI (-1))) ∧ st.2.2.2.1 = ((List.range j).filter G).foldl (fun a b => a ||| iI (b : Nat)) 0 ∧ st.2.2.2.2.1 = ((List.range j).filter G).foldl (fun a b => a &&& iI (b : Nat)) (iI ((2 ^ u : Nat) : Int) - 1) ∧ ∀ k, k < u → st.2.2.2.2.2 k = iI ((((List.range j).filter G).filter (fun b => b.testBit k)).length : Nat)) (Post := fun st => st.2.2.1 = iI (((List.range (2 ^ u)).filter G).length : Nat) ∧ (∀ i : Nat, i < 2147483648 → l1 = iI i → st.1 = (match ((List.range (2 ^ u)).filter G)[i]? with | some b => iI (b : Nat) | none => iI (-1))) ∧ st.2.2.2.1 = ((List.range (2 ^ u)).filter G).foldl (fun a b => a ||| iI (b : Nat)) 0 ∧ st.2.2.2.2.1 = ((List.range (2 ^ u)).filter G).foldl (fun a b => a &&& iI (b : Nat)) (iI ((2 ^ u : Nat) : Int) - 1) ∧ ∀ k, k < u → st.2.2.2.2.2 k = iI ((((List.range (2 ^ u)).filter G).filter (fun b => b.testBit k)).length : Nat)) ?_ ?_ fu 0 ((-1 : Int32), x, (0 : Int32), (0 : Int32), iI ((2 ^ u : Nat) : Int) - 1, oi1) (by omega) (by have := fu_big; omega) ⟨rfl, fun i _ _ => rfl, rfl, rfl, fun k hk => h1 k (by omega)⟩
  · obtain ⟨st, ⟨p1, p2, p3, p4, p5⟩, he⟩ := key
    have he2 : f_M_fitting_L49 l1 (iI sl) (iI n) (iI fb) (iI u) (iI r) (iI fd) tse ton tot tye tki tun tma ttr fu (-1 : Int32) (0 : Int32) x (0 : Int32) (0 : Int32) (iI ((2 ^ u : Nat) : Int) - 1) oi1 = some st := he
    unfold f_M_fitting fiL
    rw [iI_shl1 (by omega), e1, hG]
    simp only [lt]
    rw [bd_some, he2, bd_some, p1, i_0]
    have hle := rg_le (G := G) (2 ^ u)
    by_cases c : ((List.range (2 ^ u)).filter G).length = 0
    · rw [if_pos (by rw [c]; rfl)]
      exact ⟨_, rfl, rfl, p2, p3, by rw [if_pos c], p5⟩
    · rw [if_neg (by rw [iI_eq] <;> omega)]
      exact ⟨_, rfl, rfl, p2, p3, by rw [if_neg c]; exact p4, p5⟩
  · intro f j st hj hst
    obtain ⟨a1, a2, a3, a4, a5⟩ := hst
    have hle := rg_le (G := G) j
    obtain ⟨x', w1⟩ := r_wrongTried (x := st.2.1) (set := j) h (by omega)
    have hwo := wo_none (S := S) (O := O) (T := T) (K := K) (Y := Y) (U := U) (M := M) (R := R) (u := u) (fd := fd) (sl := sl) (set := j) hr
    rw [hG] at hwo
    simp only [f_M_fitting_L49]
    rw [iI_shl1 (by omega), if_neg (by rw [iI_le] <;> omega), w1, bd_some]
    simp only [i_m2, hwo, rg]
    left
    cases hg : G j
    · refine ⟨(st.1, x', st.2.2), ⟨by simpa using a1, by simpa using a2, by simpa using a3, by simpa using a4, by simpa using a5⟩, ?_⟩
      simp only [Bool.false_eq_true, if_false, lt, i_1, iI_add]
      rfl
    · obtain ⟨o', q1, q2⟩ := inner j (fun k => (((List.range j).filter G).filter (fun b => b.testBit k)).length) st.2.2.2.2.2 (by omega) a5
      refine ⟨(if st.2.2.1 = l1 then iI j else st.1, x', st.2.2.1 + 1, st.2.2.2.1 ||| iI j, st.2.2.2.2.1 &&& iI j, o'), ⟨?_, fun i hi he => ?_, ?_, ?_, fun k hk => ?_⟩, ?_⟩
      · show st.2.2.1 + 1 = _
        rw [a1, i_1, iI_add]
        simp
      · show (if st.2.2.1 = l1 then iI j else st.1) = _
        rw [a1, he]
        simp only [if_true]
        by_cases c : ((List.range j).filter G).length = i
        · subst c
          rw [if_pos rfl, List.getElem?_append_right (Nat.le_refl _), Nat.sub_self]
          rfl
        · rw [if_neg (by rw [iI_eq] <;> omega), a2 i hi he]
          by_cases d : i < ((List.range j).filter G).length
          · rw [List.getElem?_append_left d]
          · rw [List.getElem?_append_right (by omega), List.getElem?_eq_none (by omega), List.getElem?_eq_none (by simp; omega)]
      · show st.2.2.2.1 ||| iI j = _
        rw [a3]; simp
      · show st.2.2.2.2.1 &&& iI j = _
        rw [a4]; simp
      · show o' k = _
        rw [q2 k hk]
        cases hb : j.testBit k <;> simp [hb]
      · simp only [if_true, lt]
        rw [q1]
        by_cases c : st.2.2.1 = l1
        · simp only [if_pos c, bd_some, i_1, iI_add]; rfl
        · simp only [if_neg c, bd_some, i_1, iI_add]; rfl
  · intro f st hst
    refine ⟨(st.1, st.2.1, st.2.2.1, st.2.2.2.1, st.2.2.2.2.1, st.2.2.2.2.2), hst, ?_⟩
    simp only [f_M_fitting_L49]
    rw [iI_shl1 (by omega), if_pos (by rw [iI_le] <;> omega)]
end
