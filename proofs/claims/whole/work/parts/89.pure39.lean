/-! fewest to make known, the end -/
/-- X makes nobody known who is known, and makes enough fed -/
def feaP (S O T K Y Z : Nat → Nat) (p n sl t X : Nat) : Prop := (∀ i, i < twM p → X.testBit i = true → fst0 (isP O T (twA p i) (twB p i)) n = none) ∧ has2 (fun i => (miC S O T K Y Z p n sl t i).isSome = true ∧ (fst0 (isP O T (twA p i) (twB p i)) n = none → X.testBit i = true)) (miB p) (twM p) (p / 2)
theorem fst0_not {P : Nat → Bool} {n k : Nat} (hk : k < n) (h : P k = true) : fst0 P n ≠ none := by
  intro e
  have := fst_none _ _ (by omega) e k (by omega) hk
  rw [h] at this; cases this
theorem has2_tr {P P' : Nat → Prop} {B B' : Nat → Nat} {n n' hf : Nat} (h : ∀ k, k < n → P k → ∃ i, i < n' ∧ P' i ∧ B' i = B k) (h2 : has2 P B n hf) : has2 P' B' n' hf := by
  rcases h2 with e | ⟨e, k, hk, hp⟩ | ⟨e, k, l, hk, hl, hp, hq, hd⟩
  · exact Or.inl e
  · obtain ⟨i, hi, hP, -⟩ := h k hk hp
    exact Or.inr (Or.inl ⟨e, i, hi, hP⟩)
  · obtain ⟨i, hi, hP, e1⟩ := h k hk hp
    obtain ⟨j, hj, hQ, e2⟩ := h l hl hq
    exact Or.inr (Or.inr ⟨e, i, j, hi, hj, hP, hQ, by rw [e1, e2]; exact hd⟩)
section
variable {so on ot ki ye sa v x sp' bo co bi cl : Nat → Int32} {s5 s6 s7 s8 mm ms mc : Int32} {S O T K Y Z O' T' K' Y' Z' : Nat → Nat} {p n n' fb ns sl t X : Nat}
theorem ex_unknown (hp : p ≤ 5) (hE : exT O T K Y Z p n X p (p + 1) O' T' K' Y' Z' n') {i : Nat} (hi : i < twM p) (hX : X.testBit i = true) : fst0 (isP O T (twA p i) (twB p i)) n = none ∧ ∃ k, n ≤ k ∧ k < n' ∧ O' k = twA p i ∧ T' k = twB p i := by
  have hM := tw_M p (by omega)
  obtain ⟨g1, g2, g3⟩ := tw_in p (by omega) i (by omega) hi
  obtain ⟨e1, e2, e3, e4, e5⟩ := hE
  obtain ⟨k, q1, q2, q3, q4⟩ := e5 (twA p i) (twB p i) g1 g2 (by unfold bfr; omega) (by rw [g3]; exact hX)
  refine ⟨?_, k, q1, q2, q3, q4⟩
  cases hf : fst0 (isP O T (twA p i) (twB p i)) n with
  | none => rfl
  | some k0 =>
    have hk0 := fst_lt _ _ _ hf
    have hb0 := isP_both hk0.2
    have hbk : bothP O' T' k0 = bothP O' T' k := by
      unfold bothP at *
      obtain ⟨c1, c2, -⟩ := e3 k0 hk0.1
      rw [c1, c2, hb0, q3, q4]
    have := e2.2 k0 k (by omega) q2 hbk
    omega
theorem ex_old (ho : nok S O T K Y Z p n fb ns sl) (hE : exT O T K Y Z p n X p (p + 1) O' T' K' Y' Z' n') {k : Nat} (hk : k < n) : canP S O' T' K' (H0 K' (fun k => Y' k + t) Z') sl k = rch (K k) (hnd K Y Z k t) (dst (S (O k)) (S (T k))) sl := by
  obtain ⟨c1, c2, c3, c4, c5⟩ := hE.2.2.1 k hk
  have h2 := ho.2.2.1 k hk
  unfold canP
  rw [c1, c2, c3]
  congr 1
  unfold H0 hnd
  rw [c3]
  show (if K k = 2 then 1 else (Y' k + t - Z' k) + 0) = _
  rw [c4, c5]
  split <;> omega
theorem ex_new (hE : exT O T K Y Z p n X p (p + 1) O' T' K' Y' Z' n') {k : Nat} (hk : n ≤ k) (hk2 : k < n') : canP S O' T' K' (H0 K' (fun k => Y' k + t) Z') sl k = rch 0 t (dst (S (O' k)) (S (T' k))) sl := by
  obtain ⟨c1, c2, c3, -⟩ := hE.2.2.2.1 k hk hk2
  unfold canP
  rw [c1]
  congr 1
  unfold H0 hnd
  rw [c1, if_neg (by omega)]
  show (Y' k + t - Z' k) + 0 = t
  rw [c2, c3]
  omega
theorem ex_item (ho : nok S O T K Y Z p n fb ns sl) (hE : exT O T K Y Z p n X p (p + 1) O' T' K' Y' Z' n') {k : Nat} (hk : k < n') : ∃ i, i < twM p ∧ miB p i = bothP O' T' k ∧ (miC S O T K Y Z p n sl t i).isSome = canP S O' T' K' (H0 K' (fun k => Y' k + t) Z') sl k ∧ (fst0 (isP O T (twA p i) (twB p i)) n = none → X.testBit i = true) := by
  have p5 := ho.1.1
  by_cases c : k < n
  · obtain ⟨d1, d2, d3⟩ := ho.2.1.1 k c
    obtain ⟨c1, c2, -⟩ := hE.2.2.1 k c
    have hcan := ex_old (t := t) ho hE c
    have main : ∀ a b, a < b → b < p → isP O T a b k = true → ∃ i, i < twM p ∧ miB p i = bothP O' T' k ∧ (miC S O T K Y Z p n sl t i).isSome = canP S O' T' K' (H0 K' (fun k => Y' k + t) Z') sl k ∧ (fst0 (isP O T (twA p i) (twB p i)) n = none → X.testBit i = true) := by
      intro a b hab hb hP
      obtain ⟨i1, i2, i3, -⟩ := tw_ix p (by omega) b hb a hab
      have hf := fst0_pair ho.2.1 c hP
      refine ⟨ixN p a b, i1, ?_, ?_, fun e => ?_⟩
      · unfold miB
        rw [i2, i3, ← isP_both hP]
        unfold bothP
        rw [c1, c2]
      · unfold miC
        rw [i2, i3, hf, hcan]
        simp only
        cases rch (K k) (hnd K Y Z k t) (dst (S (O k)) (S (T k))) sl <;> rfl
      · rw [i2, i3, hf] at e; cases e
    rcases Nat.lt_or_ge (O k) (T k) with q | q
    · exact main (O k) (T k) q d2 (isP_of (Or.inl ⟨rfl, rfl⟩))
    · exact main (T k) (O k) (by omega) d1 (isP_of (Or.inr ⟨rfl, rfl⟩))
  · obtain ⟨-, -, -, d4, d5, d6, -⟩ := hE.2.2.2.1 k (by omega) hk
    obtain ⟨i1, i2, i3, -⟩ := tw_ix p (by omega) (T' k) d5 (O' k) d4
    obtain ⟨u1, -⟩ := ex_unknown p5 hE i1 d6
    refine ⟨ixN p (O' k) (T' k), i1, ?_, ?_, fun _ => d6⟩
    · unfold miB bothP
      rw [i2, i3]
    · rw [i2, i3] at u1
      unfold miC
      rw [i2, i3, u1, ex_new hE (by omega) hk]
      simp only
      cases rch 0 t (dst (S (O' k)) (S (T' k))) sl <;> rfl
theorem item_ex (ho : nok S O T K Y Z p n fb ns sl) (hE : exT O T K Y Z p n X p (p + 1) O' T' K' Y' Z' n') {i : Nat} (hi : i < twM p) (h : fst0 (isP O T (twA p i) (twB p i)) n = none → X.testBit i = true) : ∃ k, k < n' ∧ bothP O' T' k = miB p i ∧ canP S O' T' K' (H0 K' (fun k => Y' k + t) Z') sl k = (miC S O T K Y Z p n sl t i).isSome := by
  have p5 := ho.1.1
  cases hf : fst0 (isP O T (twA p i) (twB p i)) n with
  | some k =>
    have hk := fst_lt _ _ _ hf
    obtain ⟨c1, c2, -⟩ := hE.2.2.1 k hk.1
    refine ⟨k, Nat.lt_of_lt_of_le hk.1 hE.1, ?_, ?_⟩
    · unfold miB
      rw [← isP_both hk.2]
      unfold bothP
      rw [c1, c2]
    · unfold miC
      rw [ex_old (t := t) ho hE hk.1, hf]
      simp only
      cases rch (K k) (hnd K Y Z k t) (dst (S (O k)) (S (T k))) sl <;> rfl
  | none =>
    obtain ⟨u1, k, q1, q2, q3, q4⟩ := ex_unknown p5 hE hi (h hf)
    refine ⟨k, q2, ?_, ?_⟩
    · unfold miB bothP
      rw [q3, q4]
    · unfold miC
      rw [ex_new hE q1 q2, hf, q3, q4]
      simp only
      cases rch 0 t (dst (S (twA p i)) (S (twB p i))) sl <;> rfl
theorem r_fedMeeting (hv : xv v S O T K Y Z p n fb) (ho : nok S O T K Y Z p n fb ns sl) (ht : t ≤ 60) (hX : X < 1024) : ∃ R, f_M_fedMeeting (iI X) (iI t) v x mm ms mc sp' (iI ns) (iI sl) (iI p) = some R ∧ ∃ z : Int, R.1 = iI z ∧ -1 ≤ z ∧ z ≤ 20 ∧ ((p : Int) - 1 ≤ z ↔ feaP S O T K Y Z p n sl t X) := by
  have p5 := ho.1.1
  have hp0 := ho.2.2.2.2
  obtain ⟨x1, w1, w2, -⟩ := r_worksX (x := x) hv ho
  obtain ⟨r, g1, g2⟩ := r_meetL (mm := mm) (ms := ms) (mc := mc) (sp' := sp') ho hX x1 w2
  unfold f_M_fedMeeting
  rw [w1, bd_some, g1, bd_some]
  rcases g2 with ⟨x', rfl, O', T', K', Y', Z', n', hE, hxv⟩ | ⟨R, rfl, e1, a, b, k, hab, hb, hbit, hk, hP⟩
  · have ho' := xok_ex ho hE
    obtain ⟨x2, h1, h2⟩ := r_grow2 (t := t) ho'.1.2.1 p5 hxv
    obtain ⟨sp2, h3⟩ := r_matchB (sp := sp') h2 (xok_grow ho' (by omega)) (show sl < 10 by have := ho.2.2.2.1; omega)
    have hB := pc10_le _ (BS_lt (S := S) (K := K') (H := H0 K' (fun k => Y' k + t) Z') (sl := sl) (fb := fb) ho'.1.2.1 (fun k hk => ⟨(ho'.1.2.2.2.2.2 k hk).1, (ho'.1.2.2.2.2.2 k hk).2.1⟩) (fun q hq => by have := ho.1.2.2.2.2.1 q hq; have := ho.1.2.2.1; omega)).1
    rw [sm_inr, h1, bd_some, h3, bd_some]
    refine ⟨_, rfl, _, rfl, by omega, by omega, ?_⟩
    rw [hs_best ho'.1.2.1 hp0 p5 ho'.2.1]
    constructor
    · intro h
      refine ⟨fun i hi hXi => (ex_unknown p5 hE hi hXi).1, has2_tr (fun k hk hP => ?_) h⟩
      obtain ⟨i, q1, q2, q3, q4⟩ := ex_item (t := t) ho hE hk
      exact ⟨i, q1, ⟨by rw [q3]; exact hP, q4⟩, q2⟩
    · rintro ⟨-, h⟩
      refine has2_tr (fun i hi hP => ?_) h
      obtain ⟨k, q1, q2, q3⟩ := item_ex (t := t) ho hE hi hP.2
      exact ⟨k, q1, by rw [q3]; exact hP.1, q2⟩
  · refine ⟨R, rfl, -1, by rw [e1]; rfl, by omega, by omega, ?_⟩
    constructor
    · intro h; omega
    · rintro ⟨h, -⟩
      obtain ⟨i1, i2, i3, -⟩ := tw_ix p (by omega) b hb a hab
      have := h _ i1 hbit
      rw [i2, i3] at this
      exact absurd this (fst0_not hk hP)
noncomputable def feaB (S O T K Y Z : Nat → Nat) (p n sl t X : Nat) : Bool := @decide (feaP S O T K Y Z p n sl t X) (Classical.propDecidable _)
theorem feaB_iff : feaB S O T K Y Z p n sl t X = true ↔ feaP S O T K Y Z p n sl t X := by unfold feaB; exact @decide_eq_true_iff _ (Classical.propDecidable _)
noncomputable def feL (S O T K Y Z : Nat → Nat) (p n sl t j : Nat) : List (Nat × Nat) := ((List.range j).filter (feaB S O T K Y Z p n sl t)).map (fun X => (pc10 X, X))
theorem feL_succ (j : Nat) : feL S O T K Y Z p n sl t (j + 1) = feL S O T K Y Z p n sl t j ++ (if feaB S O T K Y Z p n sl t j then [(pc10 j, j)] else []) := by
  unfold feL
  rw [rg, List.map_append]
  congr 1
  split <;> rfl
theorem feL_mem {j : Nat} {q : Nat × Nat} (h : q ∈ feL S O T K Y Z p n sl t j) : q.2 < j ∧ q.1 = pc10 q.2 ∧ feaP S O T K Y Z p n sl t q.2 := by
  unfold feL at h
  rw [List.mem_map] at h
  obtain ⟨X, hX, rfl⟩ := h
  obtain ⟨h1, h2⟩ := List.mem_filter.mp hX
  exact ⟨List.mem_range.mp h1, rfl, feaB_iff.mp h2⟩
theorem all_d : ∀ p : Nat, p < 6 → (iI (p : Int) * (iI (p : Int) - 1)) / 2 = iI ((twM p : Nat) : Int) := by decide +kernel
theorem r_meeting (hv : xv v S O T K Y Z p n fb) (ho : nok S O T K Y Z p n fb ns sl) (ht : t ≤ 60) : ∃ R, f_M_meeting (iI t) v x mm ms mc sp' (iI ns) (iI sl) (iI p) = some R ∧ R.1 = sB (mnF (feL S O T K Y Z p n sl t (2 ^ twM p))) := by
  have p5 := ho.1.1
  have hM := tw_M p (by omega)
  have h1024 := two10 hM
  have hpos := Nat.two_pow_pos (twM p)
  have key := lp (L := fun f j (st : Int32 × (Nat → Int32) × Int32 × Int32 × Int32 × (Nat → Int32)) => f_M_meeting_L26 (iI t) (iI (twM p : Nat)) v (iI ns) (iI sl) (iI p) f st.1 (iI (j : Int)) st.2.1 st.2.2.1 st.2.2.2.1 st.2.2.2.2.1 st.2.2.2.2.2) (n := 2 ^ twM p) (I := fun j st => st.1 = sB (mnF (feL S O T K Y Z p n sl t j))) (Post := fun R => R.1 = sB (mnF (feL S O T K Y Z p n sl t (2 ^ twM p)))) ?_ ?_ fu 0 ((-2 : Int32), x, mm, ms, mc, sp') (by omega) (by have := fu_big; omega) rfl
  · obtain ⟨R, hR, he⟩ := key
    have he2 : f_M_meeting_L26 (iI t) (iI (twM p : Nat)) v (iI ns) (iI sl) (iI p) fu (-2 : Int32) (0 : Int32) x mm ms mc sp' = some R := he
    unfold f_M_meeting
    rw [all_d p (by omega)]
    simp only [lt]
    rw [he2, bd_some]
    exact ⟨_, rfl, hR⟩
  · intro f j st hj hst
    have hj2 : j < 1024 := by omega
    obtain ⟨R, g1, z, g2, g3, g4, g5⟩ := r_fedMeeting (x := st.2.1) (mm := st.2.2.1) (ms := st.2.2.2.1) (mc := st.2.2.2.2.1) (sp' := st.2.2.2.2.2) hv ho ht hj2
    have hz0 : feaB S O T K Y Z p n sl t j = false → iI z < iI (p : Int) - 1 := fun h => by
      have h2 : ¬ feaP S O T K Y Z p n sl t j := fun h3 => by rw [feaB_iff.mpr h3] at h; cases h
      rw [← g5] at h2
      rw [i_1, iI_sub, iI_lt] <;> omega
    have hz1 : feaB S O T K Y Z p n sl t j = true → ¬ iI z < iI (p : Int) - 1 := fun h => by
      have h2 := g5.mpr (feaB_iff.mp h)
      rw [i_1, iI_sub, iI_lt] <;> omega
    have pj := pc10_le j hj2
    have hmem := fun q h => feL_mem (S := S) (O := O) (T := T) (K := K) (Y := Y) (Z := Z) (p := p) (n := n) (sl := sl) (t := t) (j := j) ((mnF_spec _).2 q h).1
    have hnil := (mnF_spec (feL S O T K Y Z p n sl t j)).1
    have hsucc := feL_succ (S := S) (O := O) (T := T) (K := K) (Y := Y) (Z := Z) (p := p) (n := n) (sl := sl) (t := t) j
    have hb : (if sB (mnF (feL S O T K Y Z p n sl t j)) = (-2 : Int32) then some true else bd (f_M_bits (iI (j : Int))) (fun x9 => bd (f_M_bits (sB (mnF (feL S O T K Y Z p n sl t j)))) (fun x10 => if x9 < x10 then some true else some false)) : Option Bool) = some (match mnF (feL S O T K Y Z p n sl t j) with | none => true | some q => decide (pc10 j < pc10 q.2)) := by
      cases hm : mnF (feL S O T K Y Z p n sl t j) with
      | none => rfl
      | some q =>
        obtain ⟨q1, q2, -⟩ := hmem q hm
        have pq := pc10_le q.2 (by omega)
        rw [show sB (some q) = iI (q.2 : Nat) from rfl, if_neg (by rw [i_m2, iI_eq] <;> omega), r_bits j hj2, bd_some, r_bits q.2 (by omega), bd_some]
        by_cases c : pc10 j < pc10 q.2
        · rw [if_pos (by rw [iI_lt] <;> omega)]; simp [c]
        · rw [if_neg (by rw [iI_lt] <;> omega)]; simp [c]
    simp only [f_M_meeting_L26]
    rw [iI_shl1 (by omega), if_neg (by rw [iI_le] <;> omega), hst, hb, bd_some, g1, bd_some, g2]
    simp only [lt]
    rw [show iI (j : Int) + 1 = iI ((j + 1 : Nat) : Int) by rw [i_1, iI_add]; rfl]
    left
    cases hm : mnF (feL S O T K Y Z p n sl t j) with
    | none =>
      have hn := hnil hm
      rw [hn] at hsucc
      simp only [if_true]
      cases hfe : feaB S O T K Y Z p n sl t j
      · rw [if_pos (hz0 hfe)]
        refine ⟨(sB none, R.2), ?_, rfl⟩
        rw [hsucc, hfe]
        rfl
      · rw [if_neg (hz1 hfe)]
        refine ⟨(iI j, R.2), ?_, rfl⟩
        rw [hsucc, hfe]
        rfl
    | some q =>
      obtain ⟨q1, q2, -⟩ := hmem q hm
      have pq := pc10_le q.2 (by omega)
      by_cases c : pc10 j < pc10 q.2
      · simp only [c, decide_true, if_true]
        cases hfe : feaB S O T K Y Z p n sl t j
        · rw [if_pos (hz0 hfe)]
          refine ⟨(sB (some q), R.2), ?_, rfl⟩
          rw [hsucc, hfe]
          simp only [Bool.false_eq_true, if_false, List.append_nil]
          rw [hm]
        · rw [if_neg (hz1 hfe)]
          refine ⟨(iI j, R.2), ?_, rfl⟩
          rw [hsucc, hfe]
          simp only [if_true]
          rw [mnF_add, hm]
          show iI j = sB (if pc10 j < q.1 ∨ (pc10 j = q.1 ∧ j < q.2) then some (pc10 j, j) else some q)
          rw [if_pos (by omega)]
          rfl
      · simp only [c, decide_false, Bool.false_eq_true, if_false]
        refine ⟨(sB (some q), st.2), ?_, rfl⟩
        rw [hsucc]
        cases hfe : feaB S O T K Y Z p n sl t j
        · simp only [Bool.false_eq_true, if_false, List.append_nil]
          rw [hm]
        · simp only [if_true]
          rw [mnF_add, hm]
          show sB (some q) = sB (if pc10 j < q.1 ∨ (pc10 j = q.1 ∧ j < q.2) then some (pc10 j, j) else some q)
          rw [if_neg (by omega)]
  · intro f st hst
    refine ⟨(st.1, st.2), hst, ?_⟩
    simp only [f_M_meeting_L26]
    rw [iI_shl1 (by omega), if_pos (by rw [iI_le] <;> omega)]
/-- what a set of twos makes known -/
theorem miT_cost {i c : Nat} (h : miC S O T K Y Z p n sl t i = some c) : (c = 0 ∧ miT O T p n i = 0 ∧ fst0 (isP O T (twA p i) (twB p i)) n ≠ none) ∨ (c = 1 ∧ miT O T p n i = 2 ^ i ∧ fst0 (isP O T (twA p i) (twB p i)) n = none) := by
  unfold miC at h
  unfold miT
  split at h
  · rename_i k hk
    split at h
    · cases h; left; rw [hk]; exact ⟨rfl, rfl, by simp⟩
    · cases h
  · rename_i hk
    split at h
    · cases h; right; rw [hk]; exact ⟨rfl, rfl, rfl⟩
    · cases h
theorem meet_min (ho : nok S O T K Y Z p n fb ns sl) : mnF (chL (miB p) (miC S O T K Y Z p n sl t) (miT O T p n) (twM p) (p / 2)) = mnF (feL S O T K Y Z p n sl t (2 ^ twM p)) := by
  have p5 := ho.1.1
  have hM := tw_M p (by omega)
  have h1024 := two10 hM
  have hB0 : ∀ k, k < twM p → 0 < miB p k := fun k hk => by
    obtain ⟨g1, g2, -⟩ := tw_in p (by omega) k (by omega) hk
    exact mxs_pos _ (mxs_in _ (by omega) _ (by omega) (by omega))
  have hcan : ∀ k, k < twM p → (bitsN (fun k => (miC S O T K Y Z p n sl t k).isSome) (twM p)).testBit k = (miC S O T K Y Z p n sl t k).isSome := fun k hk => by rw [bitsN_tb]; simp [hk]
  -- of each set of twos: its cost, its bits
  have hb : ∀ b ∈ ml (fun k => (bitsN (fun k => (miC S O T K Y Z p n sl t k).isSome) (twM p)).testBit k) (djP (miB p)) (twM p), sumN b (miT O T p n) 10 < 2 ^ twM p ∧ pc10 (sumN b (miT O T p n) 10) = sumN b (fun k => (miC S O T K Y Z p n sl t k).getD 0) 10 ∧ ∀ i, (sumN b (miT O T p n) 10).testBit i = true ↔ (b.testBit i = true ∧ fst0 (isP O T (twA p i) (twB p i)) n = none) := by
    intro b hbm
    rcases (ml_mem _ b).mp hbm with e | ⟨h, g1, g2, e⟩ | ⟨h, k, g1, g2, g3, g4, g5, e⟩
    · subst e
      have s0 : ∀ (g : Nat → Nat) m, sumN 0 g m = 0 := by
        intro g m
        induction m with
        | zero => rfl
        | succ m ih => rw [sumN, ih]; simp
      rw [s0, s0]
      exact ⟨Nat.two_pow_pos _, by decide, fun i => by simp⟩
    · have g2 : (miC S O T K Y Z p n sl t h).isSome = true := by rw [← hcan h g1]; exact g2
      obtain ⟨c, hc⟩ := Option.isSome_iff_exists.mp g2
      have hone := one_uniq e
      rw [e, sumN_two, sumN_two, if_pos (by omega), if_pos (by omega), hc]
      rw [e] at hone
      rcases miT_cost hc with ⟨rfl, d2, d3⟩ | ⟨rfl, d2, d3⟩
      · rw [d2]
        refine ⟨Nat.two_pow_pos _, by decide, fun i => ?_⟩
        simp only [Nat.zero_testBit, Bool.false_eq_true, false_iff, hone]
        rintro ⟨rfl, q⟩
        exact d3 q
      · rw [d2]
        refine ⟨Nat.pow_lt_pow_right (by omega) g1, pc_one h (by omega), fun i => ?_⟩
        rw [hone]
        constructor
        · intro q; subst q; exact ⟨rfl, d3⟩
        · exact fun q => q.1
    · have g3 : (miC S O T K Y Z p n sl t h).isSome = true := by rw [← hcan h g2]; exact g3
      have g4 : (miC S O T K Y Z p n sl t k).isSome = true := by rw [← hcan k (by omega)]; exact g4
      obtain ⟨c, hc⟩ := Option.isSome_iff_exists.mp g3
      obtain ⟨c', hc'⟩ := Option.isSome_iff_exists.mp g4
      have e' : b = 2 ^ k ||| 2 ^ h := by rw [e, Nat.or_comm]
      have htwo := two_uniq g1 e'
      rw [e', sumN_or (by omega), sumN_or (by omega), sumN_two, sumN_two, sumN_two, sumN_two, if_pos (by omega), if_pos (by omega), if_pos (by omega), if_pos (by omega), hc, hc']
      rw [e'] at htwo
      have hh : ∀ i, (2 ^ h).testBit i = true ↔ i = h := one_uniq rfl
      have hk2 : ∀ i, (2 ^ k).testBit i = true ↔ i = k := one_uniq rfl
      rcases miT_cost hc with ⟨rfl, d2, d3⟩ | ⟨rfl, d2, d3⟩ <;> rcases miT_cost hc' with ⟨rfl, f2, f3⟩ | ⟨rfl, f2, f3⟩
      · rw [d2, f2]
        refine ⟨Nat.two_pow_pos _, by decide, fun i => ?_⟩
        simp only [Nat.add_zero, Nat.zero_testBit, Bool.false_eq_true, false_iff, htwo]
        rintro ⟨q | q, r⟩ <;> subst q
        · exact f3 r
        · exact d3 r
      · rw [d2, f2, Nat.add_zero]
        refine ⟨Nat.pow_lt_pow_right (by omega) (by omega), by rw [pc_one k (by omega)]; rfl, fun i => ?_⟩
        rw [hk2, htwo]
        constructor
        · intro q; subst q; exact ⟨Or.inl rfl, f3⟩
        · rintro ⟨q | q, r⟩
          · exact q
          · subst q; exact absurd r d3
      · rw [d2, f2, Nat.zero_add]
        refine ⟨Nat.pow_lt_pow_right (by omega) g2, by rw [pc_one h (by omega)]; rfl, fun i => ?_⟩
        rw [hh, htwo]
        constructor
        · intro q; subst q; exact ⟨Or.inr rfl, d3⟩
        · rintro ⟨q | q, r⟩
          · subst q; exact absurd r f3
          · exact q
      · rw [d2, f2, Nat.add_comm, ← or_add g1]
        refine ⟨Nat.or_lt_two_pow (Nat.pow_lt_pow_right (by omega) g2) (Nat.pow_lt_pow_right (by omega) (by omega)), by rw [pc_two h (by omega) k g1]; rfl, fun i => ?_⟩
        rw [Nat.or_comm, htwo]
        constructor
        · rintro (q | q) <;> subst q
          · exact ⟨Or.inl rfl, f3⟩
          · exact ⟨Or.inr rfl, d3⟩
        · exact fun q => q.1
  have hs := fun (X : Nat) => hs_ml (can := fun k => (bitsN (fun k => (miC S O T K Y Z p n sl t k).isSome) (twM p)).testBit k) (B := miB p) (Q := fun i => fst0 (isP O T (twA p i) (twB p i)) n = none → X.testBit i = true) hM hB0 (show p / 2 ≤ 2 by omega)
  have hs2 : ∀ X : Nat, has2 (fun i => (miC S O T K Y Z p n sl t i).isSome = true ∧ (fst0 (isP O T (twA p i) (twB p i)) n = none → X.testBit i = true)) (miB p) (twM p) (p / 2) ↔ has2 (fun k => (bitsN (fun k => (miC S O T K Y Z p n sl t k).isSome) (twM p)).testBit k = true ∧ (fst0 (isP O T (twA p k) (twB p k)) n = none → X.testBit k = true)) (miB p) (twM p) (p / 2) := fun X => ⟨has2_tr (fun k hk h => ⟨k, hk, ⟨by rw [hcan k hk]; exact h.1, h.2⟩, rfl⟩), has2_tr (fun k hk h => ⟨k, hk, ⟨by rw [← hcan k hk]; exact h.1, h.2⟩, rfl⟩)⟩
  apply mnF_cof
  · intro q hq
    unfold chL at hq
    rw [List.mem_map] at hq
    obtain ⟨b, hbf, rfl⟩ := hq
    obtain ⟨hb1, hb2⟩ := List.mem_filter.mp hbf
    have hb2 : pc10 b = p / 2 := by simpa using hb2
    obtain ⟨r1, r2, r3⟩ := hb b hb1
    unfold feL
    rw [List.mem_map]
    refine ⟨sumN b (miT O T p n) 10, List.mem_filter.mpr ⟨List.mem_range.mpr r1, feaB_iff.mpr ⟨fun i hi ht => ((r3 i).mp ht).2, ?_⟩⟩, by rw [r2]⟩
    rw [hs2, ← hs]
    exact ⟨b, hb1, hb2, fun i hi hn => (r3 i).mpr ⟨hi, hn⟩⟩
  · intro r hr
    obtain ⟨q1, q2, q3, q4⟩ := feL_mem hr
    rw [hs2, ← hs] at q4
    obtain ⟨b, hb1, hb2, hb3⟩ := q4
    obtain ⟨r1, r2, r3⟩ := hb b hb1
    refine ⟨_, List.mem_map.mpr ⟨b, List.mem_filter.mpr ⟨hb1, by simpa using hb2⟩, rfl⟩, ?_⟩
    have hsub : ∀ i, (sumN b (miT O T p n) 10).testBit i = true → r.2.testBit i = true := fun i hi => hb3 i ((r3 i).mp hi).1 ((r3 i).mp hi).2
    have l1 := sumN_mono (g := fun _ => 1) hsub 10
    have l2 := sumN_mono (g := fun k => 2 ^ k) hsub 10
    rw [← pc10_sum _ (by omega), ← pc10_sum _ (by omega)] at l1
    rw [sum_bits _ (by omega), sum_bits _ (by omega)] at l2
    unfold lxL
    simp only
    rw [← r2, q2]
    omega
theorem e_meet (h : PT so on ot ki ye sa v S O T K Y Z p n fb ns sl) (l : Int32) : ∃ R R', f_X_meet l (iI sl) (iI p) so on ot ki ye sa (iI n) bo co bi s5 s6 s7 cl s8 = some R ∧ f_M_meet l v x mm ms mc sp' (iI ns) (iI sl) (iI p) = some R' ∧ qz R.1 R.2.1 R'.1 R'.2.2.1 R'.2.2.2.1 := by
  obtain ⟨hc, hv, ho⟩ := h
  have p5 := ho.1.1
  have hM := tw_M p (by omega)
  unfold f_X_meet f_M_meet
  rw [q_noTable ho.2.2.2.2 ho.1.1]
  simp only [bd_some, eq_self, if_true]
  rcases yrs l with ⟨t, ht, rfl, e3, e4⟩ | ⟨e3, e4⟩
  · obtain ⟨R, g1, g2, -⟩ := q_chooseMeet (bo := bo) (co := co) (bi := bi) (cl := cl) hc ho ht
    obtain ⟨R', g3, g4⟩ := r_meeting (x := x) (mm := mm) (ms := ms) (mc := mc) (sp' := sp') hv ho ht
    rw [meet_min ho] at g2
    rw [e3, e4, g1, g3]
    simp only [bd_some, z10, if_false]
    rw [if_pos (show (0 : Int32) ≤ 0 by decide), g4]
    cases hm : mnF (feL S O T K Y Z p n sl t (2 ^ twM p)) with
    | none =>
      rw [hm] at g2
      rw [i_m2, if_pos (by rfl)]
      exact ⟨_, _, rfl, rfl, qz_0 g2⟩
    | some q =>
      rw [hm] at g2
      obtain ⟨q1, q2, -⟩ := feL_mem ((mnF_spec _).2 q hm).1
      have hq := Nat.lt_of_lt_of_le q1 (two10 hM)
      rw [show sB (some q) = iI (q.2 : Nat) from rfl, i_m2, if_neg (by rw [iI_eq] <;> omega), r_bits q.2 hq]
      exact ⟨_, _, rfl, rfl, qz_0 (g2.trans (by rw [← q2]; rfl))⟩
  · rw [e3, e4]; exact ⟨_, _, rfl, rfl, qz_2⟩
theorem e_meetAt (h : PT so on ot ki ye sa v S O T K Y Z p n fb ns sl) (l : Int32) : ∃ R R', f_X_meetAt l (iI sl) (iI p) so on ot ki ye sa (iI n) bo co bi s5 s6 s7 cl s8 = some R ∧ f_M_meetAt l v x mm ms mc sp' (iI ns) (iI sl) (iI p) = some R' ∧ qz R.1 R.2.1 R'.1 R'.2.2.1 R'.2.2.2.1 := by
  obtain ⟨hc, hv, ho⟩ := h
  have p5 := ho.1.1
  have hM := tw_M p (by omega)
  unfold f_X_meetAt f_M_meetAt
  rw [q_noTable ho.2.2.2.2 ho.1.1]
  simp only [bd_some, eq_self, if_true]
  rcases yrs l with ⟨t, ht, rfl, e3, e4⟩ | ⟨e3, e4⟩
  · obtain ⟨R, g1, g2, g5⟩ := q_chooseMeet (bo := bo) (co := co) (bi := bi) (cl := cl) hc ho ht
    obtain ⟨R', g3, g4⟩ := r_meeting (x := x) (mm := mm) (ms := ms) (mc := mc) (sp' := sp') hv ho ht
    rw [meet_min ho] at g2 g5
    rw [e3, e4, g1, g3]
    simp only [bd_some, z10, if_false]
    rw [if_pos (show (0 : Int32) ≤ 0 by decide), g2, g4, g5]
    cases hm : mnF (feL S O T K Y Z p n sl t (2 ^ twM p)) with
    | none =>
      rw [if_neg (by show ¬ (0 : Int32) ≤ iI (-2); decide)]
      exact ⟨_, _, rfl, rfl, qz_0 rfl⟩
    | some q =>
      obtain ⟨q1, q2, -⟩ := feL_mem ((mnF_spec _).2 q hm).1
      have hq := Nat.lt_of_lt_of_le q1 (two10 hM)
      have pq := pc10_le q.2 hq
      rw [if_pos (by show (0 : Int32) ≤ iI (q.1 : Nat); rw [i_0, iI_le] <;> omega)]
      exact ⟨_, _, rfl, rfl, qz_0 rfl⟩
  · rw [e3, e4]; exact ⟨_, _, rfl, rfl, qz_2⟩
end
