/-! the list of matches -/
def mlB (can : Nat → Bool) (dj : Nat → Nat → Bool) (h : Nat) : Nat → List Nat
  | 0 => []
  | l + 1 => mlB can dj h l ++ (if can l && dj l h then [2 ^ h ||| 2 ^ l] else [])
def ml (can : Nat → Bool) (dj : Nat → Nat → Bool) : Nat → List Nat
  | 0 => [0]
  | h + 1 => ml can dj h ++ (if can h then 2 ^ h :: mlB can dj h h else [])
/-- a row of the class holds a list -/
def arL (f : Nat → Int32) (l : List Nat) : Prop := ∀ j v, l[j]? = some v → f j = iI (v : Nat)
theorem arL_add {f : Nat → Int32} {l : List Nat} {v : Nat} (h : arL f l) : arL (upd f l.length (iI (v : Nat))) (l ++ [v]) := by
  intro j w hj
  by_cases c : j < l.length
  · rw [List.getElem?_append_left c] at hj
    rw [upd_n (by omega)]
    exact h j w hj
  · rw [List.getElem?_append_right (by omega)] at hj
    have : j = l.length := by
      have := (List.getElem?_eq_some_iff.mp hj).1
      simp at this; omega
    subst this
    simp at hj
    subst hj
    exact upd_s _ _ _
theorem q_add {f : Nat → Int32} {l : List Nat} {v : Nat} (h : arL f l) (hl : l.length < 26) : ∃ f', f_MatchList_add (iI (v : Nat)) f (iI (l.length : Nat)) = some (f', iI ((l ++ [v]).length : Nat)) ∧ arL f' (l ++ [v]) := by
  refine ⟨upd f l.length (iI (v : Nat)), ?_, arL_add h⟩
  unfold f_MatchList_add lt
  simp (disch := omega) only [i_26, iI_le, iI_ck, iI_cl, i_1, iI_add]
  rw [if_neg (by omega)]
  simp
theorem mlB_len (can : Nat → Bool) (dj : Nat → Nat → Bool) (h : Nat) : ∀ l m, l ≤ m → (mlB can dj h l).length ≤ (mlB can dj h m).length := by
  intro l m hlm
  induction m with
  | zero => have : l = 0 := by omega
            subst this; exact Nat.le_refl _
  | succ m ih =>
    by_cases c : l = m + 1
    · subst c; exact Nat.le_refl _
    · have := ih (by omega)
      rw [mlB, List.length_append]
      omega
theorem ml_len (can : Nat → Bool) (dj : Nat → Nat → Bool) : ∀ l m, l ≤ m → (ml can dj l).length ≤ (ml can dj m).length := by
  intro l m hlm
  induction m with
  | zero => have : l = 0 := by omega
            subst this; exact Nat.le_refl _
  | succ m ih =>
    by_cases c : l = m + 1
    · subst c; exact Nat.le_refl _
    · have := ih (by omega)
      rw [ml, List.length_append]
      omega
theorem and_0 {a b : Nat} (ha : a < 1024) (hb : b < 1024) : (iI (a : Nat) &&& iI (b : Nat) = (0 : Int32)) ↔ (a &&& b == 0) = true := by
  rw [iI_and, i_0]
  have h : a &&& b < 1024 := Nat.lt_of_le_of_lt Nat.and_le_left ha
  rw [iI_eq] <;> first | omega | skip
  rw [beq_iff_eq]
  omega
theorem one_ne : ¬ (1 : Int32) = iI 0 := by decide
def djP (B : Nat → Nat) (l h : Nat) : Bool := B l &&& B h == 0
theorem q_fill {bo bi : Nat → Int32} {B : Nat → Nat} {al n : Nat} (hn : n ≤ 10) (hal : al < 1024) (h1 : ar bo n B) (b1 : ∀ k, k < n → B k < 1024) (hl : (ml (fun k => al.testBit k) (djP B) n).length ≤ 26) :
    ∃ bi', f_MatchList_fill (iI al) (iI n) bo bi = some (bi', iI ((ml (fun k => al.testBit k) (djP B) n).length : Nat)) ∧ arL bi' (ml (fun k => al.testBit k) (djP B) n) := by
  generalize hcan : (fun k => al.testBit k) = can at *
  have hc : ∀ k, al.testBit k = can k := fun k => by rw [← hcan]
  -- the inner loop
  have inner : ∀ h, h < n → ∀ bi0, can h = true → arL bi0 (ml can (djP B) h ++ [2 ^ h]) → ∃ r : (Nat → Int32) × Int32, (arL r.1 (ml can (djP B) (h + 1)) ∧ r.2 = iI ((ml can (djP B) (h + 1)).length : Nat)) ∧ f_MatchList_fill_L39 (iI al) (iI (h : Nat)) bo fu (iI ((0 : Nat) : Int)) bi0 (iI ((ml can (djP B) h ++ [2 ^ h]).length : Nat)) = some r := by
    intro h hh bi0 hch hb0
    have hfin : ml can (djP B) (h + 1) = (ml can (djP B) h ++ [2 ^ h]) ++ mlB can (djP B) h h := by
      rw [ml, if_pos hch]; simp
    have hlen : (ml can (djP B) (h + 1)).length ≤ 26 := Nat.le_trans (ml_len can (djP B) (h + 1) n (by omega)) hl
    have key := lp (L := fun f j (st : (Nat → Int32) × Int32) => f_MatchList_fill_L39 (iI al) (iI (h : Nat)) bo f (iI (j : Int)) st.1 st.2) (n := h) (I := fun j st => arL st.1 ((ml can (djP B) h ++ [2 ^ h]) ++ mlB can (djP B) h j) ∧ st.2 = iI (((ml can (djP B) h ++ [2 ^ h]) ++ mlB can (djP B) h j).length : Nat)) (Post := fun r => arL r.1 (ml can (djP B) (h + 1)) ∧ r.2 = iI ((ml can (djP B) (h + 1)).length : Nat)) (fun f j st hj hst => ?_) (fun f st hst => ?_) fu 0 (bi0, iI ((ml can (djP B) h ++ [2 ^ h]).length : Nat)) (by omega) (by have := fu_big; omega) ⟨by simpa [mlB] using hb0, by rw [mlB, List.append_nil]⟩
    · obtain ⟨r, hr, he⟩ := key
      exact ⟨r, hr, he⟩
    · obtain ⟨a1, a2⟩ := hst
      have hjn : j < n := by omega
      have hlj : ((ml can (djP B) h ++ [2 ^ h]) ++ mlB can (djP B) h (j + 1)).length ≤ 26 := by
        have := mlB_len can (djP B) h (j + 1) h (by omega)
        rw [hfin] at hlen
        simp only [List.length_append] at hlen ⊢
        omega
      have stp : f_MatchList_fill_L39 (iI al) (iI (h : Nat)) bo (f + 1) (iI (j : Int)) st.1 st.2 = if (can j && djP B j h) = true then bd (f_MatchList_add (iI ((2 ^ h ||| 2 ^ j : Nat) : Int)) st.1 st.2) (fun x8 => f_MatchList_fill_L39 (iI al) (iI (h : Nat)) bo f (iI ((j + 1 : Nat) : Int)) x8.1 x8.2) else f_MatchList_fill_L39 (iI al) (iI (h : Nat)) bo f (iI ((j + 1 : Nat) : Int)) st.1 st.2 := by
        rw [f_MatchList_fill_L39]
        simp (disch := omega) only [iI_le]
        rw [if_neg (by omega), q_has (by omega) (by omega), hc j]
        simp only [bd, lt]
        simp (disch := omega) only [iI_ck, iI_cl, h1 j hjn, h1 h hh, i_1, iI_add]
        have hx := and_0 (b1 j hjn) (b1 h hh)
        have sh1 : iI 1 <<< (iI (h : Int) &&& 31) = iI ((2 ^ h : Nat) : Int) := iI_shl1 (by omega)
        have sh2 : iI 1 <<< (iI (j : Int) &&& 31) = iI ((2 ^ j : Nat) : Int) := iI_shl1 (by omega)
        rw [sh1, sh2, iI_or]
        cases cj : can j
        · simp [b01]
        · by_cases cd : iI (B j : Nat) &&& iI (B h : Nat) = (0 : Int32)
          · have := hx.mp cd
            rw [i_0] at cd
            simp [b01, cd, djP, this, i_0, one_ne]
          · have hd : djP B j h = false := by
              cases hq : djP B j h
              · rfl
              · exact absurd (hx.mpr hq) cd
            rw [i_0] at cd
            simp [b01, cd, hd, i_0, one_ne]
      cases cc : (can j && djP B j h)
      · refine Or.inl ⟨st, ⟨by rw [mlB, cc]; simpa using a1, by rw [mlB, cc]; simpa using a2⟩, ?_⟩
        rw [stp, cc]
        simp
      · have hlen2 : ((ml can (djP B) h ++ [2 ^ h]) ++ mlB can (djP B) h j).length < 26 := by
          rw [mlB, cc] at hlj
          simp only [List.length_append, if_true, List.length_cons, List.length_nil] at hlj ⊢
          omega
        obtain ⟨f', e1, e2⟩ := q_add (v := 2 ^ h ||| 2 ^ j) a1 hlen2
        have hap : (ml can (djP B) h ++ [2 ^ h]) ++ mlB can (djP B) h (j + 1) = ml can (djP B) h ++ [2 ^ h] ++ mlB can (djP B) h j ++ [2 ^ h ||| 2 ^ j] := by
          rw [mlB, cc]; simp
        refine Or.inl ⟨(f', iI ((ml can (djP B) h ++ [2 ^ h] ++ mlB can (djP B) h j ++ [2 ^ h ||| 2 ^ j]).length : Nat)), ⟨by rw [hap]; exact e2, by rw [hap]⟩, ?_⟩
        rw [stp, cc, if_pos rfl, a2, e1]
        rfl
    · obtain ⟨a1, a2⟩ := hst
      refine ⟨st, ⟨by rw [hfin]; exact a1, by rw [hfin]; exact a2⟩, ?_⟩
      rw [f_MatchList_fill_L39]
      simp (disch := omega) only [iI_le]
      rw [if_pos (by omega)]
  -- the outer loop
  have h0 : (ml can (djP B) 0).length ≤ 26 := Nat.le_trans (ml_len can (djP B) 0 n (by omega)) hl
  obtain ⟨f0, e1, e2⟩ := q_add (f := bi) (l := []) (v := 0) (fun j v hj => by simp at hj) (by simp)
  have key := lp (L := fun f j (st : (Nat → Int32) × Int32) => f_MatchList_fill_L13 (iI al) (iI n) bo f (iI (j : Int)) st.1 st.2) (n := n) (I := fun j st => arL st.1 (ml can (djP B) j) ∧ st.2 = iI ((ml can (djP B) j).length : Nat)) (Post := fun r => arL r.1 (ml can (djP B) n) ∧ r.2 = iI ((ml can (djP B) n).length : Nat)) (fun f j st hj hst => ?_) (fun f st hst => ?_) fu 0 (f0, iI (1 : Nat)) (by omega) (by have := fu_big; omega) ⟨by simpa [ml] using e2, by simp [ml]⟩
  · obtain ⟨r, ⟨r1, r2⟩, he⟩ := key
    refine ⟨r.1, ?_, r1⟩
    unfold f_MatchList_fill
    have e1' : f_MatchList_add (0 : Int32) bi (0 : Int32) = some (f0, iI (1 : Nat))   := e1
    rw [e1']
    have he2 : f_MatchList_fill_L13 (iI al) (iI n) bo fu (0 : Int32) f0 (iI (1 : Nat)) = some r := he
    simp only [bd]
    rw [he2, ← r2]
  · obtain ⟨a1, a2⟩ := hst
    have hlj : (ml can (djP B) (j + 1)).length ≤ 26 := Nat.le_trans (ml_len can (djP B) (j + 1) n (by omega)) hl
    have sh1 : iI 1 <<< (iI (j : Int) &&& 31) = iI ((2 ^ j : Nat) : Int) := iI_shl1 (by omega)
    have stp : f_MatchList_fill_L13 (iI al) (iI n) bo (f + 1) (iI (j : Int)) st.1 st.2 = if can j = true then bd (f_MatchList_add (iI ((2 ^ j : Nat) : Int)) st.1 st.2) (fun x4 => bd (f_MatchList_fill_L39 (iI al) (iI (j : Nat)) bo fu (iI ((0 : Nat) : Int)) x4.1 x4.2) (fun x10 => f_MatchList_fill_L13 (iI al) (iI n) bo f (iI ((j + 1 : Nat) : Int)) x10.1 x10.2)) else f_MatchList_fill_L13 (iI al) (iI n) bo f (iI ((j + 1 : Nat) : Int)) st.1 st.2 := by
      rw [f_MatchList_fill_L13]
      simp (disch := omega) only [iI_le]
      rw [if_neg (by omega), q_has (by omega) (by omega), hc j]
      simp only [bd, lt, i_1, iI_add]
      rw [sh1]
      cases cj : can j
      · simp [b01]
      · simp only [b01, if_true, show ((1 : Int32) = 0) = False by decide, if_false]
        rfl
    cases cj : can j
    · refine Or.inl ⟨st, ⟨by rw [ml, cj]; simpa using a1, by rw [ml, cj]; simpa using a2⟩, ?_⟩
      rw [stp, cj]
      simp
    · have hlen2 : (ml can (djP B) j).length < 26 := by
        rw [ml, cj] at hlj
        simp only [List.length_append, if_true, List.length_cons] at hlj
        omega
      obtain ⟨f', e1, e2⟩ := q_add (v := 2 ^ j) a1 hlen2
      obtain ⟨r, ⟨r1, r2⟩, hr⟩ := inner j hj f' cj e2
      refine Or.inl ⟨r, ⟨r1, r2⟩, ?_⟩
      rw [stp, cj, if_pos rfl, a2, e1]
      simp only [bd]
      rw [hr]
  · refine ⟨st, hst, ?_⟩
    simp only [f_MatchList_fill_L13]
    simp (disch := omega) only [iI_le]
    rw [if_pos (by omega)]
