/-! all twos of p people; fewest to make known, as the class finds it -/
def ixN (p a b : Nat) : Nat := (a * (2 * p - a - 1)) / 2 + (b - a - 1)
def twL (p : Nat) : List (Nat × Nat) := (List.range p).flatMap (fun a => ((List.range p).filter (fun b => decide (a < b))).map (fun b => (a, b)))
def twA (p i : Nat) : Nat := ((twL p).getD i (0, 0)).1
def twB (p i : Nat) : Nat := ((twL p).getD i (0, 0)).2
def twM (p : Nat) : Nat := p * (p - 1) / 2
theorem tw_ix : ∀ p : Nat, p < 6 → ∀ b : Nat, b < p → ∀ a : Nat, a < b → ixN p a b < twM p ∧ twA p (ixN p a b) = a ∧ twB p (ixN p a b) = b ∧ ixN p a (b + 1) = ixN p a b + 1 := by decide +kernel
theorem tw_in : ∀ p : Nat, p < 6 → ∀ i : Nat, i < 10 → i < twM p → twA p i < twB p i ∧ twB p i < p ∧ ixN p (twA p i) (twB p i) = i := by decide +kernel
theorem tw_M : ∀ p : Nat, p < 6 → twM p ≤ 10 := by decide +kernel
theorem ix_next : ∀ p : Nat, p < 6 → ∀ a : Nat, a < p → ixN p a p = ixN p (a + 1) (a + 2) ∧ ixN p p (p + 1) = twM p ∧ ixN p 0 1 = 0 := by decide +kernel
def miB (p i : Nat) : Nat := 2 ^ twA p i ||| 2 ^ twB p i
theorem mi_inj : ∀ p : Nat, p < 6 → ∀ i : Nat, i < 10 → ∀ j : Nat, j < 10 → (i < twM p ∧ j < twM p ∧ miB p i = miB p j) → i = j := by decide +kernel
theorem q_chAdd {i : Nat} (h : i < 10) (u w z : Int32) (bo co bi : Nat → Int32) : f_Choice_add u w z bo co bi (iI (i : Nat)) = some (upd bo i u, upd co i w, upd bi i z, iI ((i + 1 : Nat) : Int)) := by
  unfold f_Choice_add
  rw [i_10, if_neg (by rw [iI_le] <;> omega), iI_ck (by omega) (by omega), iI_ck (by omega) (by omega), iI_ck (by omega) (by omega), iI_cl (by omega)]
  simp only [lt, i_1, iI_add]
  rfl
def miC (S O T K Y Z : Nat → Nat) (p n sl t i : Nat) : Option Nat := match fst0 (isP O T (twA p i) (twB p i)) n with
  | some k => if rch (K k) (hnd K Y Z k t) (dst (S (O k)) (S (T k))) sl then some 0 else none
  | none => if rch 0 t (dst (S (twA p i)) (S (twB p i))) sl then some 1 else none
def miT (O T : Nat → Nat) (p n i : Nat) : Nat := match fst0 (isP O T (twA p i) (twB p i)) n with
  | some _ => 0
  | none => 2 ^ i
section
variable {so on ot ki ye sa v x sp' bo co bi cl : Nat → Int32} {s5 s6 s7 s8 s10 mm ms mc : Int32} {S O T K Y Z : Nat → Nat} {p n fb ns sl k t : Nat}
theorem q_addTwo (hc : cv so on ot ki ye sa S O T K Y Z p n) (ho : nok S O T K Y Z p n fb ns sl) (ht : t ≤ 60) {a b : Nat} (hab : a < b) (hb : b < p) : f_X_addTwo (iI a) (iI b) (iI t) (iI sl) so on ot ki ye sa (iI n) bo co bi (iI (ixN p a b : Nat)) = some (upd bo (ixN p a b) (iI (miB p (ixN p a b) : Nat)), upd co (ixN p a b) (cO (miC S O T K Y Z p n sl t (ixN p a b))), upd bi (ixN p a b) (iI (miT O T p n (ixN p a b) : Nat)), iI ((ixN p a b + 1 : Nat) : Int)) := by
  have p5 := ho.1.1
  have n10 := ho.1.2.1
  obtain ⟨i1, i2, i3, -⟩ := tw_ix p (by omega) b hb a hab
  have hM := tw_M p (by omega)
  have t1 := ho.1.2.2.2.2.1 a (by omega)
  have t2 := ho.1.2.2.2.2.1 b hb
  have ns10 := ho.1.2.2.1
  have hfi := q_find n10 hc.2.1 hc.2.2.1 (fun k hk => by have := ho.1.2.2.2.2.2 k hk; omega) (show a < 5 by omega) (show b < 5 by omega) (by omega)
  unfold miC miT miB
  rw [i2, i3]
  generalize ixN p a b = i at *
  unfold f_X_addTwo
  simp only [lt]
  rw [iI_shl1 (by omega), iI_shl1 (by omega), iI_or, hfi, bd_some]
  simp only [q_chAdd (show i < 10 by omega)]
  simp (disch := omega) only [iI_ck, iI_cl]
  cases hf : fst0 (isP O T a b) n with
  | none =>
    rw [if_pos (show iI (on2 none) < 0 by decide), hc.1 a (by omega), hc.1 b hb, iI_abs (by omega) (by omega), show (0 : Int32) = iI ((0 : Nat) : Int) from rfl, q_reaches (by omega) (by omega) (Nat.lt_trans (dst_lt (by omega) (by omega)) (by omega)) (by have := ho.2.2.2.1; omega), bd_some, iI_shl1 (by omega)]
    cases rch 0 t (dst (S a) (S b)) sl
    · rfl
    · rfl
  | some k =>
    have hk := (fst_lt _ _ _ hf).1
    rw [if_neg (show ¬ iI (on2 (some k)) < 0 by show ¬ iI (k : Int) < 0; rw [i_0, iI_lt] <;> omega), show on2 (some k) = (k : Int) from rfl, q_canFeedBehind hc ho hk (by omega), bd_some]
    dsimp only
    cases rch (K k) (hnd K Y Z k t) (dst (S (O k)) (S (T k))) sl
    · rfl
    · rfl
def AR (S O T K Y Z : Nat → Nat) (p n sl t j : Nat) (b c i : Nat → Int32) (m : Int32) : Prop := ar b j (miB p) ∧ (∀ k, k < j → c k = cO (miC S O T K Y Z p n sl t k)) ∧ ar i j (miT O T p n) ∧ m = iI (j : Nat)
theorem q_chooseMeet (hc : cv so on ot ki ye sa S O T K Y Z p n) (ho : nok S O T K Y Z p n fb ns sl) (ht : t ≤ 60) : ∃ R, f_X_chooseMeet (iI t) (iI sl) (iI p) so on ot ki ye sa (iI n) bo co bi cl = some R ∧ R.2.2.2.2.1 = oC (mnF (chL (miB p) (miC S O T K Y Z p n sl t) (miT O T p n) (twM p) (p / 2))) ∧ R.2.2.2.2.2.1 = oB (mnF (chL (miB p) (miC S O T K Y Z p n sl t) (miT O T p n) (twM p) (p / 2))) := by
  have p5 := ho.1.1
  have hp0 := ho.2.2.2.2
  have hM := tw_M p (by omega)
  have inner : ∀ a, a < p → ∀ (b0 c0 i0 : Nat → Int32) (m0 : Int32), AR S O T K Y Z p n sl t (ixN p a (a + 1)) b0 c0 i0 m0 → ∃ r, f_X_chooseMeet_L25 (iI t) (iI a) (iI sl) (iI p) so on ot ki ye sa (iI n) fu (iI ((a + 1 : Nat) : Int)) b0 c0 i0 m0 = some r ∧ AR S O T K Y Z p n sl t (ixN p a p) r.1 r.2.1 r.2.2.1 r.2.2.2 := by
    intro a ha b0 c0 i0 m0 h0
    have key := lp (L := fun f j (st : (Nat → Int32) × (Nat → Int32) × (Nat → Int32) × Int32) => f_X_chooseMeet_L25 (iI t) (iI a) (iI sl) (iI p) so on ot ki ye sa (iI n) f (iI (j : Int)) st.1 st.2.1 st.2.2.1 st.2.2.2) (n := p) (I := fun b st => a < b ∧ AR S O T K Y Z p n sl t (ixN p a b) st.1 st.2.1 st.2.2.1 st.2.2.2) (Post := fun r => AR S O T K Y Z p n sl t (ixN p a p) r.1 r.2.1 r.2.2.1 r.2.2.2) ?_ ?_ fu (a + 1) (b0, c0, i0, m0) (by omega) (by have := fu_big; omega) ⟨by omega, h0⟩
    · obtain ⟨r, hr, he⟩ := key
      exact ⟨r, he, hr⟩
    · intro f b st hb hst
      obtain ⟨hab, a1, a2, a3, a4⟩ := hst
      obtain ⟨i1, -, -, i4⟩ := tw_ix p (by omega) b hb a hab
      have hq := q_addTwo (bo := st.1) (co := st.2.1) (bi := st.2.2.1) hc ho ht hab hb
      left
      refine ⟨(upd st.1 (ixN p a b) (iI (miB p (ixN p a b) : Nat)), upd st.2.1 (ixN p a b) (cO (miC S O T K Y Z p n sl t (ixN p a b))), upd st.2.2.1 (ixN p a b) (iI (miT O T p n (ixN p a b) : Nat)), iI ((ixN p a b + 1 : Nat) : Int)), ⟨by omega, ?_⟩, ?_⟩
      · rw [i4]
        refine ⟨ar_upd a1, fun k hk => ?_, ar_upd (g := miT O T p n) a3, rfl⟩
        by_cases c : k = ixN p a b
        · subst c; exact upd_s _ _ _
        · show upd st.2.1 _ _ k = _
          rw [upd_n c]; exact a2 k (by omega)
      · simp only [f_X_chooseMeet_L25]
        rw [if_neg (by rw [iI_le] <;> omega), a4, hq, bd_some]
        simp only [lt, i_1, iI_add]
        rfl
    · intro f st hst
      refine ⟨(st.1, st.2.1, st.2.2.1, st.2.2.2), hst.2, ?_⟩
      simp only [f_X_chooseMeet_L25]
      rw [if_pos (by rw [iI_le] <;> omega)]
  have key := lp (L := fun f j (st : (Nat → Int32) × (Nat → Int32) × (Nat → Int32) × Int32) => f_X_chooseMeet_L10 (iI t) (iI sl) (iI p) so on ot ki ye sa (iI n) f (iI (j : Int)) st.1 st.2.1 st.2.2.1 st.2.2.2) (n := p) (I := fun a st => AR S O T K Y Z p n sl t (ixN p a (a + 1)) st.1 st.2.1 st.2.2.1 st.2.2.2) (Post := fun r => AR S O T K Y Z p n sl t (twM p) r.1 r.2.1 r.2.2.1 r.2.2.2) ?_ ?_ fu 0 (bo, co, bi, (0 : Int32)) (by omega) (by have := fu_big; omega) (by
    rw [(ix_next p (by omega) 0 hp0).2.2]
    exact ⟨fun j hj => by omega, fun j hj => by omega, fun j hj => by omega, rfl⟩)
  · obtain ⟨st, ⟨a1, a2, a3, a4⟩, he⟩ := key
    have he2 : f_X_chooseMeet_L10 (iI t) (iI sl) (iI p) so on ot ki ye sa (iI n) fu (0 : Int32) bo co bi (0 : Int32) = some st := he
    obtain ⟨cl', cnt, e3⟩ := q_decide (cl := cl) (need := p / 2) hM a1 a2 a3 (fun k hk => by
      obtain ⟨g1, g2, -⟩ := tw_in p (by omega) k (by omega) hk
      exact mxs_in _ (by omega) _ (by omega) (by omega)) (fun i j hi hj h => mi_inj p (by omega) i (by omega) j (by omega) ⟨hi, hj, h⟩) (fun k hk c hcc => by
      unfold miC at hcc
      split at hcc <;> split at hcc <;> cases hcc <;> omega) (fun k hk => by
      unfold miT
      split
      · omega
      · exact p_lt (by omega)) (by omega)
    unfold f_X_chooseMeet
    rw [he2, bd_some, ho_half p5, a4, e3, bd_some]
    exact ⟨_, rfl, rfl, rfl⟩
  · intro f a st ha hst
    obtain ⟨r, u1, u2⟩ := inner a ha st.1 st.2.1 st.2.2.1 st.2.2.2 hst
    left
    refine ⟨r, ?_, ?_⟩
    · rw [← (ix_next p (by omega) a ha).1]; exact u2
    · simp only [f_X_chooseMeet_L10]
      rw [if_neg (by rw [iI_le] <;> omega)]
      simp only [lt]
      rw [show iI (a : Int) + 1 = iI ((a + 1 : Nat) : Int) by rw [i_1, iI_add]; rfl, u1, bd_some]
  · intro f st hst
    refine ⟨(st.1, st.2.1, st.2.2.1, st.2.2.2), by rw [← (ix_next p (by omega) 0 hp0).2.1]; exact hst, ?_⟩
    simp only [f_X_chooseMeet_L10]
    rw [if_pos (by rw [iI_le] <;> omega)]
end
