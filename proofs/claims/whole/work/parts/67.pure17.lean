/-! two loops side by side; answers of the queries -/
theorem bd_some {α β : Type} (a : α) (k : α → Option β) : bd (some a) k = k a := rfl
theorem sm_inl {α β : Type} (a : α) (k : β → Option α) : sm (.inl a) k = some a := rfl
theorem sm_inr {α β : Type} (b : β) (k : β → Option α) : sm (.inr b : α ⊕ β) k = k b := rfl
theorem z10 : ((1 : Int32) = 0) = False := by decide
theorem bd_if {α β : Type} {c : Prop} [Decidable c] (a b : Option α) (k : α → Option β) : bd (if c then a else b) k = if c then bd a k else bd b k := by split <;> rfl
theorem b01_t : b01 true = 1 := rfl
theorem b01_f : b01 false = 0 := rfl
theorem lq {σ σ' α α' ρ ρ' : Type} {L : Nat → Nat → σ → Option α} {L' : Nat → Nat → σ' → Option α'} {K : α → Option ρ} {K' : α' → Option ρ'} {Post : ρ → ρ' → Prop} {n : Nat} {I : Nat → σ → σ' → Prop}
    (hs : ∀ f f' j st st', j < n → I j st st' → (∃ u u', I (j + 1) u u' ∧ L (f + 1) j st = L f (j + 1) u ∧ L' (f' + 1) j st' = L' f' (j + 1) u') ∨ (∃ a a' r r', L (f + 1) j st = some a ∧ L' (f' + 1) j st' = some a' ∧ K a = some r ∧ K' a' = some r' ∧ Post r r'))
    (hx : ∀ f f' st st', I n st st' → ∃ a a' r r', L (f + 1) n st = some a ∧ L' (f' + 1) n st' = some a' ∧ K a = some r ∧ K' a' = some r' ∧ Post r r') :
    ∀ f j st st', j ≤ n → n - j < f → I j st st' → ∃ r r', bd (L f j st) K = some r ∧ bd (L' f j st') K' = some r' ∧ Post r r' := by
  intro f
  induction f with
  | zero => intro j st st' h1 h2; omega
  | succ f ih =>
    intro j st st' h1 h2 h3
    by_cases hj : j = n
    · subst hj
      obtain ⟨a, a', r, r', e1, e2, e3, e4, e5⟩ := hx f f st st' h3
      exact ⟨r, r', by rw [e1]; exact e3, by rw [e2]; exact e4, e5⟩
    · rcases hs f f j st st' (by omega) h3 with ⟨u, u', h4, h5, h6⟩ | ⟨a, a', r, r', e1, e2, e3, e4, e5⟩
      · rw [h5, h6]
        exact ih (j + 1) u u' (by omega) (by omega) h4
      · exact ⟨r, r', by rw [e1]; exact e3, by rw [e2]; exact e4, e5⟩
section
variable {so on ot ki ye sa v x : Nat → Int32} {S O T K Y Z : Nat → Nat} {p n fb ns sl : Nat}
theorem e_seat (h : PT so on ot ki ye sa v S O T K Y Z p n fb ns sl) (l : Int32) : ∃ R R', f_X_seat l (iI p) so = some R ∧ f_M_seat l v (iI p) = some R' ∧ qz R.1 R.2 R'.1 R'.2.2.1 R'.2.2.2 := by
  obtain ⟨hc, hv, ho⟩ := h
  have p5 := ho.1.1
  unfold f_X_seat f_M_seat
  rcases pers p5 l with ⟨q, hq, rfl, e1, e2⟩ | ⟨e1, e2⟩
  · rw [e1, e2]
    simp only [bd_some, z10, eq_self, if_true, if_false]
    rw [iI_ck (by omega) (by omega), iI_ck (by omega) (by omega), iI_cl (by omega), hc.1 q hq, hv.1 q hq]
    exact ⟨_, _, rfl, rfl, qz_0 rfl⟩
  · rw [e1, e2]; exact ⟨_, _, rfl, rfl, qz_1⟩
theorem e_pairOf (h : PT so on ot ki ye sa v S O T K Y Z p n fb ns sl) (l l' : Int32) : ∃ R R', f_X_pairOf l l' (iI p) on ot (iI n) = some R ∧ f_M_pairOf l l' v x (iI p) = some R' ∧ qz R.1 R.2 R'.1 R'.2.2.1 R'.2.2.2.1 := by
  obtain ⟨hc, hv, ho⟩ := h
  have p5 := ho.1.1
  unfold f_X_pairOf f_M_pairOf
  rcases twos p5 l l' with ⟨q, q', hq, hq', hne, rfl, rfl, e1, e2⟩ | ⟨e1, e2⟩
  · obtain ⟨x', w1, w2, -⟩ := r_worksX (x := x) hv ho
    rw [e1, e2, w1, q_find ho.1.2.1 hc.2.1 hc.2.2.1 (fun k hk => by have := ho.1.2.2.2.2.2 k hk; omega) (by omega) (by omega) hne]
    simp only [bd_some, z10, eq_self, if_true, if_false]
    rw [r_pairBy w2 ho.1 (by omega) (by omega) hne]
    exact ⟨_, _, rfl, rfl, qz_0 rfl⟩
  · rw [e1, e2]; exact ⟨_, _, rfl, rfl, qz_1⟩
theorem e_forks (h : PT so on ot ki ye sa v S O T K Y Z p n fb ns sl) (l l' : Int32) : ∃ R R', f_X_forks l l' (iI p) (iI fb) so = some R ∧ f_M_forks l l' v x (iI ns) (iI p) = some R' ∧ qz R.1 R.2 R'.1 R'.2.2.1 R'.2.2.2.1 := by
  obtain ⟨hc, hv, ho⟩ := h
  have p5 := ho.1.1
  unfold f_X_forks f_M_forks
  rcases twos p5 l l' with ⟨q, q', hq, hq', hne, rfl, rfl, e1, e2⟩ | ⟨e1, e2⟩
  · obtain ⟨x', w1, w2, -⟩ := r_worksX (x := x) hv ho
    have s1 := ho.1.2.2.2.2.1 q hq
    have s2 := ho.1.2.2.2.2.1 q' hq'
    have ns10 := ho.1.2.2.1
    have f1 := ho.1.2.2.2.1
    rw [e1, e2, w1]
    simp only [bd_some, z10, eq_self, if_true, if_false]
    rw [iI_ck (by omega) (by omega), iI_ck (by omega) (by omega), iI_cl (by omega), iI_cl (by omega), hc.1 q hq, hc.1 q' hq', q_forksBetween (by omega) (by omega) (Nat.lt_of_lt_of_le f1 (two10 ns10)), r_forksOf (by omega) (by omega) (w2.1 q hq) (w2.1 q' hq') ns10 s1 s2 w2.2.2.2 f1]
    exact ⟨_, _, rfl, rfl, qz_0 rfl⟩
  · rw [e1, e2]; exact ⟨_, _, rfl, rfl, qz_1⟩
theorem e_handleIn (h : PT so on ot ki ye sa v S O T K Y Z p n fb ns sl) (l l' : Int32) : ∃ R R', f_X_handleIn l l' ki ye sa (iI n) = some R ∧ f_M_handleIn l l' v x = some R' ∧ qz R.1 R.2 R'.1 R'.2.2.1 R'.2.2.2.1 := by
  obtain ⟨hc, hv, ho⟩ := h
  unfold f_X_handleIn f_M_handleIn
  rcases prs ho.1.2.1 hv.2.2.1 l with ⟨k, hk, rfl, e1, e2⟩ | ⟨e1, e2⟩
  · rw [e1, e2]
    simp only [bd_some, z10, eq_self, if_true, if_false]
    rcases yrs l' with ⟨t, ht, rfl, e3, e4⟩ | ⟨e3, e4⟩
    · obtain ⟨x', w1, w2, -⟩ := r_worksIn (x := x) (t := t) hv ho
      have b := ho.1.2.2.2.2.2 k hk
      rw [e3, e4]
      simp only [bd_some, z10, if_false]
      rw [if_pos (by decide), w1]
      simp only [bd_some]
      rw [r_handleOf w2 (xok_grow ho (by omega)) hk, q_handleBehind ho.1.2.1 hk hc.2.2.2.1 hc.2.2.2.2.1 hc.2.2.2.2.2 b.2.2.2.1 (by omega) (by omega) (by omega)]
      have hg : hnd K (fun k => Y k + t) Z k 0 = hnd K Y Z k t := H0_grow ho k hk
      rw [hg]
      exact ⟨_, _, rfl, rfl, qz_0 rfl⟩
    · rw [e3, e4]; exact ⟨_, _, rfl, rfl, qz_2⟩
  · rw [e1, e2]; exact ⟨_, _, rfl, rfl, qz_1⟩
theorem e_feedsIn {mt mw : Int32} (h : PT so on ot ki ye sa v S O T K Y Z p n fb ns sl) (l : Int32) : ∃ R R', f_X_feedsIn l (iI sl) so on ot ki ye sa (iI n) = some R ∧ f_M_feedsIn l mt mw v x (iI sl) = some R' ∧ qz R.1 R.2 R'.1 R'.2.2.1 R'.2.2.2.1 := by
  obtain ⟨hc, hv, ho⟩ := h
  unfold f_X_feedsIn f_M_feedsIn
  rcases prs ho.1.2.1 hv.2.2.1 l with ⟨k, hk, rfl, e1, e2⟩ | ⟨e1, e2⟩
  · rw [e1, e2]
    simp only [bd_some, z10, eq_self, if_true, if_false]
    refine lq (L := fun f j (_ : Unit) => f_X_feedsIn_L12 (iI k) 0 (iI sl) so on ot ki ye sa f (iI (j : Int))) (L' := fun f j (st : Nat → Int32) => f_M_feedsIn_L21 (iI k) 0 mt mw v (iI sl) f (iI (j : Int)) st) (n := 61) (I := fun _ _ _ => True) ?_ ?_ fu 0 () x (by omega) (by have := fu_big; omega) trivial
    · intro f f' j st st' hj _
      obtain ⟨x', w1, w2, -⟩ := r_worksIn (x := st') (t := j) hv ho
      have w3 := r_isFeedingIn w2 ho hk (by omega)
      have w4 := q_canFeedBehind hc ho hk (show j < 1000 by omega)
      simp only [f_X_feedsIn_L12, f_M_feedsIn_L21, i_60]
      simp (disch := omega) only [iI_lt]
      rw [if_neg (by omega), if_neg (by omega), w1, w4]
      simp only [bd_some]
      rw [w3]
      simp only [bd_some, lt, i_1, iI_add]
      cases rch (K k) (hnd K Y Z k j) (dst (S (O k)) (S (T k))) sl
      · left; exact ⟨(), x', trivial, rfl, rfl⟩
      · right; exact ⟨_, _, _, _, rfl, rfl, rfl, rfl, qz_0 rfl⟩
    · intro f f' st st' _
      simp only [f_X_feedsIn_L12, f_M_feedsIn_L21, i_60]
      simp (disch := omega) only [iI_lt]
      rw [if_pos (by omega), if_pos (by omega)]
      exact ⟨_, _, _, _, rfl, rfl, rfl, rfl, qz_0 rfl⟩
  · rw [e1, e2]; exact ⟨_, _, rfl, rfl, qz_1⟩
theorem e_feedsOften (h : PT so on ot ki ye sa v S O T K Y Z p n fb ns sl) (l : Int32) : ∃ R R', f_X_feedsOften l (iI sl) so on ot ki ye sa (iI n) = some R ∧ f_M_feedsOften l v x (iI sl) = some R' ∧ qz R.1 R.2 R'.1 R'.2.2.1 R'.2.2.2.1 := by
  obtain ⟨hc, hv, ho⟩ := h
  unfold f_X_feedsOften f_M_feedsOften
  rcases prs ho.1.2.1 hv.2.2.1 l with ⟨k, hk, rfl, e1, e2⟩ | ⟨e1, e2⟩
  · rw [e1, e2]
    simp only [bd_some, z10, eq_self, if_true, if_false]
    refine lq (L := fun f j (st : Int32) => f_X_feedsOften_L14 (iI k) (iI sl) so on ot ki ye sa f st (iI (j : Int))) (L' := fun f j (st : Int32 × (Nat → Int32)) => f_M_feedsOften_L23 (iI k) v (iI sl) f st.1 (iI (j : Int)) st.2) (n := 61) (I := fun _ a b => a = b.1) ?_ ?_ fu 0 (0 : Int32) ((0 : Int32), x) (by omega) (by have := fu_big; omega) rfl
    · intro f f' j st st' hj hst
      obtain ⟨x', w1, w2, -⟩ := r_worksIn (x := st'.2) (t := j) hv ho
      have w3 := r_isFeedingIn w2 ho hk (by omega)
      have w4 := q_canFeedBehind hc ho hk (show j < 1000 by omega)
      simp only [f_X_feedsOften_L14, f_M_feedsOften_L23, i_60]
      simp (disch := omega) only [iI_lt]
      rw [if_neg (by omega), if_neg (by omega), w1, w4]
      simp only [bd_some]
      rw [w3]
      simp only [bd_some, lt, hst]
      cases rch (K k) (hnd K Y Z k j) (dst (S (O k)) (S (T k))) sl
      · left; exact ⟨st'.1, (st'.1 + 0, x'), by simp, by simp only [i_1, iI_add]; rfl, by simp only [i_1, iI_add]; rfl⟩
      · left; exact ⟨st'.1 + 1, (st'.1 + 1, x'), rfl, by simp only [i_1, iI_add]; rfl, by simp only [i_1, iI_add]; rfl⟩
    · intro f f' st st' hst
      simp only [f_X_feedsOften_L14, f_M_feedsOften_L23, i_60]
      simp (disch := omega) only [iI_lt]
      rw [if_pos (by omega), if_pos (by omega)]
      exact ⟨_, _, _, _, rfl, rfl, rfl, rfl, qz_0 hst⟩
  · rw [e1, e2]; exact ⟨_, _, rfl, rfl, qz_1⟩
end
