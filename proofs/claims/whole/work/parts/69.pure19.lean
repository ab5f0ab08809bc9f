/-! seats swapped, a better seat, where a fork is best -/
theorem lpp {σ σ' ρ ρ' : Type} {L : Nat → Nat → σ → Option ρ} {L' : Nat → Nat → σ' → Option ρ'} {Post : ρ → ρ' → Prop} {n : Nat} {I : Nat → σ → σ' → Prop}
    (hs : ∀ f f' j st st', j < n → I j st st' → (∃ u u', I (j + 1) u u' ∧ L (f + 1) j st = L f (j + 1) u ∧ L' (f' + 1) j st' = L' f' (j + 1) u') ∨ (∃ r r', L (f + 1) j st = some r ∧ L' (f' + 1) j st' = some r' ∧ Post r r'))
    (hx : ∀ f f' st st', I n st st' → ∃ r r', L (f + 1) n st = some r ∧ L' (f' + 1) n st' = some r' ∧ Post r r') :
    ∀ f j st st', j ≤ n → n - j < f → I j st st' → ∃ r r', L f j st = some r ∧ L' f j st' = some r' ∧ Post r r' := by
  intro f
  induction f with
  | zero => intro j st st' h1 h2; omega
  | succ f ih =>
    intro j st st' h1 h2 h3
    by_cases hj : j = n
    · subst hj
      exact hx f f st st' h3
    · rcases hs f f j st st' (by omega) h3 with ⟨u, u', h4, h5, h6⟩ | h
      · rw [h5, h6]
        exact ih (j + 1) u u' (by omega) (by omega) h4
      · exact h
def setN (S : Nat → Nat) (q s : Nat) : Nat → Nat := fun i => if i = q then s else S i
theorem setN_2 (S : Nat → Nat) (q s s' : Nat) : setN (setN S q s) q s' = setN S q s' := by
  funext i; unfold setN; split <;> rfl
theorem setN_id (S : Nat → Nat) (q : Nat) : setN S q (S q) = S := by
  funext i; unfold setN; split
  · rename_i h; rw [h]
  · rfl
theorem ar_set {f : Nat → Int32} {S : Nat → Nat} {p q s : Nat} (h : ar f p S) : ar (upd f q (iI (s : Nat))) p (setN S q s) := by
  intro j hj
  unfold setN
  by_cases c : j = q
  · subst c; rw [if_pos rfl]; exact upd_s _ _ _
  · rw [if_neg c, upd_n c]; exact h j hj
theorem xv_set {x : Nat → Int32} {S O T K Y Z : Nat → Nat} {p n fb q s : Nat} (hp : p ≤ 5) (hq : q < p) (h : xv x S O T K Y Z p n fb) : xv (upd x q (iI (s : Nat))) (setN S q s) O T K Y Z p n fb := by
  obtain ⟨h1, h2, h3, h4⟩ := h
  refine ⟨ar_set h1, fun k hk => ?_, by rw [upd_n (by omega)]; exact h3, by rw [upd_n (by omega)]; exact h4⟩
  obtain ⟨a, b, c, d, f⟩ := h2 k hk
  exact ⟨by rw [upd_n (by omega)]; exact a, by rw [upd_n (by omega)]; exact b, by rw [upd_n (by omega)]; exact c, by rw [upd_n (by omega)]; exact d, by rw [upd_n (by omega)]; exact f⟩
theorem xok_seat {S S' O T K Y Z : Nat → Nat} {p n fb ns : Nat} (h : xok S O T K Y Z p n fb ns) (hs : ∀ q, q < p → S' q < ns) : xok S' O T K Y Z p n fb ns :=
  ⟨h.1, h.2.1, h.2.2.1, h.2.2.2.1, hs, h.2.2.2.2.2⟩
theorem setN_lt {S : Nat → Nat} {p q s ns : Nat} (h : ∀ q, q < p → S q < ns) (hs : s < ns) : ∀ i, i < p → setN S q s i < ns := by
  intro i hi; unfold setN; split
  · exact hs
  · exact h i hi
theorem BS_sl {S O T K H : Nat → Nat} {sl fb n p : Nat} (hn : n ≤ 10) (hb : ∀ k, k < n → O k < p ∧ T k < p) (hs : ∀ q, q < p → S q < 10) : (BS S O T K H sl fb n).2 ≤ 10000 := by
  have h1 := (Fm_best (SL := slopP S O T fb) (lmS S O T K H sl n))
  unfold BS
  rw [h1.1]
  refine Nat.le_trans (sumN_le (B := 1000) (fun k hk => ?_) 10) (by omega)
  rcases h1.2.1 with e | e
  · rw [e] at hk; simp at hk
  · have hm : (Fm (slopP S O T fb) (lmS S O T K H sl n)).1 ∈ mlS S O T K H sl n := (mlS_mem _).mpr (List.mem_cons_of_mem _ e)
    have := tb_lt (ml_lt hm) hk
    have := slopP_lt (S := S) (O := O) (T := T) (fb := fb) (hs _ (hb k this).1) (hs _ (hb k this).2)
    omega
section
variable {so on ot ki ye sa v x sp' s1 s2 s3 s4 s9 : Nat → Int32} {s5 s6 s7 s8 s10 mm ms mc : Int32} {S O T K Y Z : Nat → Nat} {p n fb ns sl q q' : Nat}
theorem q_fedSwapped (hc : cv so on ot ki ye sa S O T K Y Z p n) (ho : nok S O T K Y Z p n fb ns sl) (hq : q < p) (hq' : q' < p) :
    ∃ R, f_X_fedSwapped (iI q) (iI q') (iI sl) (iI fb) so on ot ki ye sa (iI n) s1 s2 s3 s4 s9 = some R ∧ R.1 = iI ((2 * pc10 (BS (setN (setN S q (S q')) q' (S q)) O T K (H0 K Y Z) sl fb n).1 : Nat) : Int) := by
  obtain ⟨c0, c1, c2, c3, c4, c5⟩ := hc
  obtain ⟨⟨p5, n10, ns10, f1, t1, b⟩, ho2, hzy, hsl, hp0⟩ := ho
  obtain ⟨so', hd', e1, a1, a2⟩ := q_lay (sso := s1) (shd := s2) (fb := iI fb) n10 p5 c0 c3 c4 c5 (fun k hk => by have := b k hk; omega)
  have hH : ∀ k, k < n → K k < 3 ∧ H0 K Y Z k < 100000 := fun k hk => ⟨(b k hk).2.2.2.1, H0_lt (b k hk).2.2.2.2.1⟩
  have t2 : ∀ i, i < p → setN (setN S q (S q')) q' (S q) i < 10 := fun i hi => Nat.lt_of_lt_of_le (setN_lt (setN_lt t1 (t1 q' hq')) (t1 q hq) i hi) ns10
  obtain ⟨bo', sp', bi', e2, a3⟩ := q_settleB (bo := s3) (sp := s4) (bi := s9) n10 p5 (ar_set (q := q') (s := S q) (ar_set (q := q) (s := S q') a1)) c1 c2 c3 a2 hH ho2 t2 (show sl < 10 by omega) (Nat.lt_of_lt_of_le f1 (two10 ns10))
  have hB := BS_lt (K := K) (H := H0 K Y Z) (sl := sl) (fb := fb) n10 (fun k hk => ⟨(b k hk).1, (b k hk).2.1⟩) t2
  unfold f_X_fedSwapped
  rw [e1]
  simp only [bd_some]
  simp (disch := omega) only [iI_ck, iI_cl, c0 q hq, c0 q' hq']
  rw [e2]
  simp only [bd_some]
  rw [q_fedCount hB.1]
  exact ⟨_, rfl, rfl⟩
theorem r_fedSwapped (hv : xv v S O T K Y Z p n fb) (ho : nok S O T K Y Z p n fb ns sl) (hq : q < p) (hq' : q' < p) (hne : q ≠ q') :
    ∃ R, f_M_fedSwapped (iI q) (iI q') v x sp' (iI ns) (iI sl) = some R ∧ R.1 = iI ((2 * pc10 (BS (setN (setN S q (S q')) q' (S q)) O T K (H0 K Y Z) sl fb n).1 : Nat) : Int) := by
  obtain ⟨x', w1, w2, -⟩ := r_worksX (x := x) hv ho
  have p5 := ho.1.1
  have t1 := ho.1.2.2.2.2.1
  have w4 := xv_set (q := q') (s := S q) p5 hq' (xv_set (q := q) (s := S q') p5 hq w2)
  obtain ⟨sp2, w3⟩ := r_matchB (sp := sp') w4 (xok_seat ho.1 (setN_lt (setN_lt t1 (t1 q' hq')) (t1 q hq))) (show sl < 10 by have := ho.2.2.2.1; omega)
  unfold f_M_fedSwapped
  rw [w1]
  simp only [bd_some, lt]
  simp (disch := omega) only [iI_ck, iI_cl, w2.1 q hq, w2.1 q' hq']
  rw [w3]
  exact ⟨_, rfl, rfl⟩
theorem e_swapped (h : PT so on ot ki ye sa v S O T K Y Z p n fb ns sl) (l l' : Int32) : ∃ R R', f_X_swapped l l' (iI sl) (iI p) (iI fb) so on ot ki ye sa (iI n) s1 s2 s3 s4 s5 s6 s7 s8 s9 s10 = some R ∧ f_M_swapped l l' v x mm ms mc sp' (iI ns) (iI sl) (iI p) = some R' ∧ qz R.1 R.2.1 R'.1 R'.2.2.1 R'.2.2.2.1 := by
  obtain ⟨hc, hv, ho⟩ := h
  have p5 := ho.1.1
  unfold f_X_swapped f_M_swapped
  rcases twos p5 l l' with ⟨q, q', hq, hq', hne, rfl, rfl, e1, e2⟩ | ⟨e1, e2⟩
  · obtain ⟨R, w1, w2⟩ := q_fedSwapped (s1 := s1) (s2 := s2) (s3 := s3) (s4 := s4) (s9 := s9) hc ho hq hq'
    obtain ⟨R', w3, w4⟩ := r_fedSwapped (x := x) (sp' := sp') hv ho hq hq' hne
    rw [e1, e2, w1, w3]
    exact ⟨_, _, rfl, rfl, qz_0 (w2.trans w4.symm)⟩
  · rw [e1, e2]; exact ⟨_, _, rfl, rfl, qz_1⟩
theorem le_of_nlt {a b : Int32} (h : ¬ a < b) : b ≤ a := Int32.not_lt.mp h
theorem nle_of_lt {a b : Int32} (h : a < b) : ¬ b ≤ a := fun h2 => absurd h (Int32.not_lt.mpr h2)
theorem e_bestSwap (h : PT so on ot ki ye sa v S O T K Y Z p n fb ns sl) : ∃ R R', f_X_bestSwap (iI sl) (iI p) (iI fb) so on ot ki ye sa (iI n) s1 s2 s3 s4 s5 s6 s7 s8 s9 s10 = some R ∧ f_M_bestSwap v x sp' (iI ns) (iI sl) (iI p) = some R' ∧ qz R.1 R.2.1 R'.1 R'.2.2.1 R'.2.2.2.1 := by
  obtain ⟨hc, hv, ho⟩ := h
  have p5 := ho.1.1
  obtain ⟨x', w1, w2, -⟩ := r_worksX (x := x) hv ho
  obtain ⟨sp2, w3⟩ := r_matchB (sp := sp') w2 ho.1 (show sl < 10 by have := ho.2.2.2.1; omega)
  obtain ⟨R, w4, w5⟩ := q_fedBehind (sso := s1) (shd := s2) (bo := s3) (sp := s4) (bi := s9) (t := 0) hc ho (by omega)
  unfold f_X_bestSwap f_M_bestSwap
  rw [q_noTable ho.2.2.2.2 ho.1.1, w1, show (0 : Int32) = iI ((0 : Nat) : Int) from rfl, w4]
  simp only [bd_some]
  rw [w3]
  simp only [bd_some, w5, eq_self, if_true]
  have inner : ∀ a, a < p → ∀ st : Int32 × Int32 × (Nat → Int32) × (Nat → Int32) × (Nat → Int32) × (Nat → Int32) × Int32 × Int32 × Int32 × Int32 × (Nat → Int32) × Int32, ∀ st' : Int32 × Int32 × (Nat → Int32) × Int32 × Int32 × Int32 × (Nat → Int32), st.1 = st'.2.1 → st.2.1 = st'.1 →
      ∃ r r', (fun f j (st : Int32 × Int32 × (Nat → Int32) × (Nat → Int32) × (Nat → Int32) × (Nat → Int32) × Int32 × Int32 × Int32 × Int32 × (Nat → Int32) × Int32) => f_X_bestSwap_L36 (iI a) (iI sl) (iI p) (iI fb) so on ot ki ye sa (iI n) f st.1 st.2.1 (iI (j : Int)) st.2.2.1 st.2.2.2.1 st.2.2.2.2.1 st.2.2.2.2.2.1 st.2.2.2.2.2.2.1 st.2.2.2.2.2.2.2.1 st.2.2.2.2.2.2.2.2.1 st.2.2.2.2.2.2.2.2.2.1 st.2.2.2.2.2.2.2.2.2.2.1 st.2.2.2.2.2.2.2.2.2.2.2) fu (a + 1) st = some r ∧ (fun f j (st : Int32 × Int32 × (Nat → Int32) × Int32 × Int32 × Int32 × (Nat → Int32)) => f_M_bestSwap_L48 (iI a) v (iI ns) (iI sl) (iI p) f st.1 st.2.1 (iI (j : Int)) st.2.2.1 st.2.2.2.1 st.2.2.2.2.1 st.2.2.2.2.2.1 st.2.2.2.2.2.2) fu (a + 1) st' = some r' ∧ r.1 = r'.2.1 ∧ r.2.1 = r'.1 := by
    intro a ha st st' h1 h2
    refine lpp (L := fun f j (st : Int32 × Int32 × (Nat → Int32) × (Nat → Int32) × (Nat → Int32) × (Nat → Int32) × Int32 × Int32 × Int32 × Int32 × (Nat → Int32) × Int32) => f_X_bestSwap_L36 (iI a) (iI sl) (iI p) (iI fb) so on ot ki ye sa (iI n) f st.1 st.2.1 (iI (j : Int)) st.2.2.1 st.2.2.2.1 st.2.2.2.2.1 st.2.2.2.2.2.1 st.2.2.2.2.2.2.1 st.2.2.2.2.2.2.2.1 st.2.2.2.2.2.2.2.2.1 st.2.2.2.2.2.2.2.2.2.1 st.2.2.2.2.2.2.2.2.2.2.1 st.2.2.2.2.2.2.2.2.2.2.2) (L' := fun f j (st : Int32 × Int32 × (Nat → Int32) × Int32 × Int32 × Int32 × (Nat → Int32)) => f_M_bestSwap_L48 (iI a) v (iI ns) (iI sl) (iI p) f st.1 st.2.1 (iI (j : Int)) st.2.2.1 st.2.2.2.1 st.2.2.2.2.1 st.2.2.2.2.2.1 st.2.2.2.2.2.2) (n := p) (I := fun j a' b => a < j ∧ a'.1 = b.2.1 ∧ a'.2.1 = b.1) (Post := fun r r' => r.1 = r'.2.1 ∧ r.2.1 = r'.1) ?_ ?_ fu (a + 1) st st' (by omega) (by have := fu_big; omega) ⟨by omega, h1, h2⟩
    · intro f f' j st st' hj hst
      obtain ⟨haj, i1, i2⟩ := hst
      obtain ⟨R, u1, u2⟩ := q_fedSwapped (s1 := st.2.2.1) (s2 := st.2.2.2.1) (s3 := st.2.2.2.2.1) (s4 := st.2.2.2.2.2.1) (s9 := st.2.2.2.2.2.2.2.2.2.2.1) hc ho ha hj
      obtain ⟨R', u3, u4⟩ := r_fedSwapped (x := st'.2.2.1) (sp' := st'.2.2.2.2.2.2) hv ho ha hj (by omega)
      simp only [f_X_bestSwap_L36, f_M_bestSwap_L48]
      simp (disch := omega) only [iI_le]
      rw [if_neg (by omega), if_neg (by omega), u1, u3]
      simp only [bd_some, lt, u2, u4, i1, i2, i_1, iI_add]
      generalize iI ((2 * pc10 (BS (setN (setN S a (S j)) j (S a)) O T K (H0 K Y Z) sl fb n).1 : Nat) : Int) = z
      left
      by_cases c : st'.1 < z
      · rw [if_pos c, if_neg (nle_of_lt c)]
        exact ⟨((10 : Int32) * iI a + iI j, z, R.2), (z, (10 : Int32) * iI a + iI j, R'.2), ⟨by omega, rfl, rfl⟩, rfl, rfl⟩
      · rw [if_neg c, if_pos (le_of_nlt c)]
        exact ⟨(st'.2.1, st'.1, R.2), (st'.1, st'.2.1, R'.2), ⟨by omega, rfl, rfl⟩, rfl, rfl⟩
    · intro f f' st st' hst
      simp only [f_X_bestSwap_L36, f_M_bestSwap_L48]
      simp (disch := omega) only [iI_le]
      rw [if_pos (by omega), if_pos (by omega)]
      exact ⟨_, _, rfl, rfl, hst.2.1, hst.2.2⟩
  refine lq (L := fun f j (st : Int32 × Int32 × (Nat → Int32) × (Nat → Int32) × (Nat → Int32) × (Nat → Int32) × Int32 × Int32 × Int32 × Int32 × (Nat → Int32) × Int32) => f_X_bestSwap_L20 (iI sl) (iI p) (iI fb) so on ot ki ye sa (iI n) f st.1 st.2.1 (iI (j : Int)) st.2.2.1 st.2.2.2.1 st.2.2.2.2.1 st.2.2.2.2.2.1 st.2.2.2.2.2.2.1 st.2.2.2.2.2.2.2.1 st.2.2.2.2.2.2.2.2.1 st.2.2.2.2.2.2.2.2.2.1 st.2.2.2.2.2.2.2.2.2.2.1 st.2.2.2.2.2.2.2.2.2.2.2) (L' := fun f j (st : Int32 × Int32 × (Nat → Int32) × Int32 × Int32 × Int32 × (Nat → Int32)) => f_M_bestSwap_L32 v (iI ns) (iI sl) (iI p) f st.1 st.2.1 (iI (j : Int)) st.2.2.1 st.2.2.2.1 st.2.2.2.2.1 st.2.2.2.2.2.1 st.2.2.2.2.2.2) (n := p) (I := fun j a b => a.1 = b.2.1 ∧ a.2.1 = b.1) ?_ ?_ fu 0 (_, _, R.2) (_, _, x', _, _, _, sp2) (by omega) (by have := fu_big; omega) ⟨rfl, rfl⟩
  · intro f f' j st st' hj hst
    obtain ⟨r, r', u1, u2, u3, u4⟩ := inner j hj st st' hst.1 hst.2
    simp only [f_X_bestSwap_L20, f_M_bestSwap_L32]
    simp (disch := omega) only [iI_le]
    rw [if_neg (by omega), if_neg (by omega)]
    simp only [lt, i_1, iI_add]
    left
    refine ⟨r, r', ⟨u3, u4⟩, ?_, ?_⟩
    · have := u1
      simp only at this
      rw [this]
      rfl
    · have := u2
      simp only at this
      rw [this]
      rfl
  · intro f f' st st' hst
    simp only [f_X_bestSwap_L20, f_M_bestSwap_L32]
    simp (disch := omega) only [iI_le]
    rw [if_pos (by omega), if_pos (by omega)]
    exact ⟨_, _, _, _, rfl, rfl, rfl, rfl, qz_0 hst.1⟩
theorem e_isFree (hc : cv so on ot ki ye sa S O T K Y Z p n) (hv : xv v S O T K Y Z p n fb) (ho : nok S O T K Y Z p n fb ns sl) {s : Nat} (hs : s < 1000) : ∃ b, f_X_isFree (iI s) (iI p) so = some (b01 b) ∧ f_M_isSat (iI s) v (iI p) = some (b01 (!b)) ∧ (b = true ↔ ∀ i, i < p → S i ≠ s) := by
  have p5 := ho.1.1
  unfold f_X_isFree f_M_isSat
  have key := lq (L := fun f j (_ : Unit) => f_X_isFree_L2 (iI s) (iI p) so f (iI (j : Int))) (L' := fun f j (_ : Unit) => f_M_isSat_L2 (iI s) v (iI p) f (iI (j : Int))) (n := p) (K := fun ox2 => sm ox2 (fun x2 => some (1 : Int32))) (K' := fun ox2 => sm ox2 (fun x2 => some (0 : Int32))) (Post := fun r r' => ∃ b, r = b01 b ∧ r' = b01 (!b) ∧ (b = true ↔ ∀ i, i < p → S i ≠ s)) (I := fun j _ _ => ∀ i, i < j → S i ≠ s) ?_ ?_ fu 0 () () (by omega) (by have := fu_big; omega) (fun i hi => by omega)
  · obtain ⟨r, r', e1, e2, b, rfl, rfl, hb⟩ := key
    exact ⟨b, e1, e2, hb⟩
  · intro f f' j st st' hj hst
    have t1 := ho.1.2.2.2.2.1 j hj
    have ns10 := ho.1.2.2.1
    simp only [f_X_isFree_L2, f_M_isSat_L2]
    simp (disch := omega) only [iI_le, iI_ck, iI_cl, hc.1 j hj, hv.1 j hj, iI_eq]
    simp only [if_neg (show ¬ (p : Int) ≤ (j : Int) by omega)]
    by_cases c : S j = s
    · right
      simp only [if_pos (show (S j : Int) = (s : Int) by omega)]
      refine ⟨_, _, _, _, rfl, rfl, rfl, rfl, false, rfl, rfl, ?_⟩
      simp only [Bool.false_eq_true, false_iff]
      exact fun h => h j hj c
    · left
      simp only [if_neg (show ¬ (S j : Int) = (s : Int) by omega)]
      refine ⟨(), (), fun i hi => ?_, by simp only [lt, i_1, iI_add]; rfl, by simp only [lt, i_1, iI_add]; rfl⟩
      by_cases d : i = j
      · subst d; exact c
      · exact hst i (by omega)
  · intro f f' st st' hst
    simp only [f_X_isFree_L2, f_M_isSat_L2]
    simp (disch := omega) only [iI_le]
    rw [if_pos (by omega), if_pos (by omega)]
    exact ⟨_, _, _, _, rfl, rfl, rfl, rfl, true, rfl, rfl, by simp; exact hst⟩
end
