/-! made known, as the reference does it -/
theorem bitOf_d : ∀ p : Nat, p < 6 → ∀ b : Nat, b < p → ∀ a : Nat, a < b → f_M_bitOf (iI (a : Int)) (iI (b : Int)) (iI (p : Int)) = some (iI ((ixN p a b : Nat) : Int)) := by decide +kernel
theorem both_isB : ∀ a : Nat, a < 5 → ∀ b : Nat, b < 5 → ∀ c : Nat, c < 5 → ∀ d : Nat, d < 5 → ((a == b || c == d || !((2 ^ a ||| 2 ^ b) == (2 ^ c ||| 2 ^ d))) || ((a == c && b == d) || (a == d && b == c))) = true := by decide +kernel
theorem both_isP (a : Nat) (ha : a < 5) (b : Nat) (hb : b < 5) (c : Nat) (hc : c < 5) (d : Nat) (hd : d < 5) (h : a ≠ b ∧ c ≠ d ∧ (2 ^ a ||| 2 ^ b) = (2 ^ c ||| 2 ^ d)) : (a = c ∧ b = d) ∨ (a = d ∧ b = c) := by
  have := both_isB a ha b hb c hc d hd
  simpa [h.1, h.2.1, h.2.2] using this
theorem isP_back {O T : Nat → Nat} {p n k a b : Nat} (hp : p ≤ 5) (ho : pok O T p n) (hk : k < n) (ha : a < p) (hb : b < p) (hab : a ≠ b) (h : bothP O T k = 2 ^ a ||| 2 ^ b) : isP O T a b k = true := by
  obtain ⟨h1, h2, h3⟩ := ho.1 k hk
  exact isP_of (both_isP _ (by omega) _ (by omega) _ (by omega) _ (by omega) ⟨h3, hab, h⟩)
theorem pok_10 {O T : Nat → Nat} {p n : Nat} (hp : p ≤ 5) (ho : pok O T p n) : n ≤ 10 := by
  have h := len_rel (α := Nat) (β := Nat) (P := fun k c => k < n ∧ bothP O T k = c) (List.range n) mxs List.nodup_range (fun k hk => by
    have hk := List.mem_range.mp hk
    obtain ⟨h1, h2, h3⟩ := ho.1 k hk
    exact ⟨_, mxs_in _ (by omega) _ (by omega) h3, hk, rfl⟩) (fun a a' c h1 h2 => ho.2 a a' h1.1 h2.1 (h1.2.trans h2.2.symm))
  rw [List.length_range] at h
  exact h
theorem setN_n {O : Nat → Nat} {n a k : Nat} (h : k < n) : setN O n a k = O k := by unfold setN; rw [if_neg (by omega)]
theorem setN_s {O : Nat → Nat} {n a : Nat} : setN O n a n = a := by unfold setN; rw [if_pos rfl]
theorem pok_add {O T : Nat → Nat} {p n a b : Nat} (hp : p ≤ 5) (ho : pok O T p n) (ha : a < p) (hb : b < p) (hab : a ≠ b) (hno : ∀ k, k < n → isP O T a b k = false) : pok (setN O n a) (setN T n b) p (n + 1) := by
  have hbo : ∀ k, k < n → bothP (setN O n a) (setN T n b) k = bothP O T k := fun k hk => by unfold bothP; rw [setN_n hk, setN_n hk]
  have hbn : bothP (setN O n a) (setN T n b) n = 2 ^ a ||| 2 ^ b := by unfold bothP; rw [setN_s, setN_s]
  have hne : ∀ k, k < n → bothP O T k ≠ 2 ^ a ||| 2 ^ b := fun k hk e => by
    have := isP_back hp ho hk ha hb hab e
    rw [hno k hk] at this; cases this
  refine ⟨fun k hk => ?_, fun j k hj hk e => ?_⟩
  · by_cases c : k = n
    · subst c; rw [setN_s, setN_s]; exact ⟨ha, hb, hab⟩
    · rw [setN_n (by omega), setN_n (by omega)]; exact ho.1 k (by omega)
  · by_cases c1 : j = n <;> by_cases c2 : k = n
    · omega
    · subst c1; rw [hbn, hbo k (by omega)] at e; exact absurd e.symm (hne k (by omega))
    · subst c2; rw [hbn, hbo j (by omega)] at e; exact absurd e (hne j (by omega))
    · rw [hbo j (by omega), hbo k (by omega)] at e; exact ho.2 j k (by omega) (by omega) e
theorem r_knows {x : Nat → Int32} {S O T K Y Z : Nat → Nat} {p n fb a b : Nat} (hp : p ≤ 5) (hn : n < 10) (hx : xv x S O T K Y Z p n fb) : ∃ x', f_M_knows (iI a) (iI b) x = some x' ∧ xv x' S (setN O n a) (setN T n b) (setN K n 0) (setN Y n 0) (setN Z n 0) p (n + 1) fb ∧ x' 57 = x 57 := by
  obtain ⟨h1, h2, h3, h4⟩ := hx
  unfold f_M_knows
  simp (disch := omega) only [ck55, cl55, h3, lt, ck5, cl5, ck15, cl15, ck25, cl25, ck35, cl35, ck45, cl45]
  refine ⟨_, rfl, ⟨fun q hq => ?_, fun k hk => ?_, ?_, ?_⟩, ?_⟩
  · rw [upd_n (by omega), upd_n (by omega), upd_n (by omega), upd_n (by omega), upd_n (by omega), upd_n (by omega)]; exact h1 q hq
  · by_cases c : k = n
    · subst c
      refine ⟨?_, ?_, ?_, ?_, ?_⟩
      · rw [upd_n (by omega), upd_n (by omega), upd_n (by omega), upd_n (by omega), upd_n (by omega), upd_s, setN_s]
      · rw [upd_n (by omega), upd_n (by omega), upd_n (by omega), upd_n (by omega), upd_s, setN_s]
      · rw [upd_n (by omega), upd_n (by omega), upd_n (by omega), upd_s, setN_s]; rfl
      · rw [upd_n (by omega), upd_n (by omega), upd_s, setN_s]; rfl
      · rw [upd_n (by omega), upd_s, setN_s]; rfl
    · obtain ⟨a1, a2, a3, a4, a5⟩ := h2 k (by omega)
      refine ⟨?_, ?_, ?_, ?_, ?_⟩
      · rw [upd_n (by omega), upd_n (by omega), upd_n (by omega), upd_n (by omega), upd_n (by omega), upd_n (by omega), setN_n (by omega)]; exact a1
      · rw [upd_n (by omega), upd_n (by omega), upd_n (by omega), upd_n (by omega), upd_n (by omega), upd_n (by omega), setN_n (by omega)]; exact a2
      · rw [upd_n (by omega), upd_n (by omega), upd_n (by omega), upd_n (by omega), upd_n (by omega), upd_n (by omega), setN_n (by omega)]; exact a3
      · rw [upd_n (by omega), upd_n (by omega), upd_n (by omega), upd_n (by omega), upd_n (by omega), upd_n (by omega), setN_n (by omega)]; exact a4
      · rw [upd_n (by omega), upd_n (by omega), upd_n (by omega), upd_n (by omega), upd_n (by omega), upd_n (by omega), setN_n (by omega)]; exact a5
  · rw [upd_s, upd_n (by omega), upd_n (by omega), upd_n (by omega), upd_n (by omega), upd_n (by omega), h3, i_1, iI_add]
    rfl
  · rw [upd_n (by omega), upd_n (by omega), upd_n (by omega), upd_n (by omega), upd_n (by omega), upd_n (by omega)]; exact h4
  · rw [upd_n (by omega), upd_n (by omega), upd_n (by omega), upd_n (by omega), upd_n (by omega), upd_n (by omega)]
/-- the table with some made known: those of X ahead of (a0, b0) -/
def bfr (a0 b0 a b : Nat) : Prop := a < a0 ∨ (a = a0 ∧ b < b0)
def exT (O T K Y Z : Nat → Nat) (p n X a0 b0 : Nat) (O' T' K' Y' Z' : Nat → Nat) (n' : Nat) : Prop :=
  n ≤ n' ∧ pok O' T' p n' ∧ (∀ k, k < n → O' k = O k ∧ T' k = T k ∧ K' k = K k ∧ Y' k = Y k ∧ Z' k = Z k) ∧ (∀ k, n ≤ k → k < n' → K' k = 0 ∧ Y' k = 0 ∧ Z' k = 0 ∧ O' k < T' k ∧ T' k < p ∧ X.testBit (ixN p (O' k) (T' k)) = true ∧ bfr a0 b0 (O' k) (T' k)) ∧ ∀ a b, a < b → b < p → bfr a0 b0 a b → X.testBit (ixN p a b) = true → ∃ k, n ≤ k ∧ k < n' ∧ O' k = a ∧ T' k = b
theorem xok_ex {S O T K Y Z O' T' K' Y' Z' : Nat → Nat} {p n fb ns sl X a0 b0 n' : Nat} (ho : nok S O T K Y Z p n fb ns sl) (h : exT O T K Y Z p n X a0 b0 O' T' K' Y' Z' n') : nok S O' T' K' Y' Z' p n' fb ns sl := by
  obtain ⟨⟨p5, n10, ns10, f1, s1, b⟩, ho2, hzy, hsl, hp0⟩ := ho
  obtain ⟨h1, h2, h3, h4, h5⟩ := h
  refine ⟨⟨p5, pok_10 p5 h2, ns10, f1, s1, fun k hk => ?_⟩, h2, fun k hk => ?_, hsl, hp0⟩
  · obtain ⟨g1, g2, g3⟩ := h2.1 k hk
    refine ⟨g1, g2, g3, ?_⟩
    by_cases c : k < n
    · obtain ⟨e1, e2, e3, e4, e5⟩ := h3 k c
      rw [e3, e4, e5]; exact (b k c).2.2.2
    · obtain ⟨e1, e2, e3, -⟩ := h4 k (by omega) hk
      rw [e1, e2, e3]; exact ⟨by omega, by omega, by omega⟩
  · by_cases c : k < n
    · obtain ⟨e1, e2, e3, e4, e5⟩ := h3 k c
      rw [e4, e5]; exact hzy k c
    · obtain ⟨e1, e2, e3, -⟩ := h4 k (by omega) hk
      rw [e2, e3]; exact ⟨by omega, by omega⟩
section
variable {v x sp' : Nat → Int32} {mm ms mc : Int32} {S O T K Y Z : Nat → Nat} {p n fb ns sl t X : Nat}
/-- one two more -/
theorem r_meet1 (ho : nok S O T K Y Z p n fb ns sl) (hX : X < 1024) {a : Nat} (ha : a < p) (x : Nat → Int32) (hx : ∃ O' T' K' Y' Z' n', exT O T K Y Z p n X a (a + 1) O' T' K' Y' Z' n' ∧ xv x S O' T' K' Y' Z' p n' fb) : ∃ r, f_M_fedMeeting_L22 (iI X) (iI a) mm ms mc sp' (iI p) fu (iI ((a + 1 : Nat) : Int)) x = some r ∧ ((∃ x', r = .inr x' ∧ ∃ O' T' K' Y' Z' n', exT O T K Y Z p n X (a + 1) (a + 2) O' T' K' Y' Z' n' ∧ xv x' S O' T' K' Y' Z' p n' fb) ∨ (∃ R, r = .inl R ∧ R.1 = -1 ∧ ∃ a b k, a < b ∧ b < p ∧ X.testBit (ixN p a b) = true ∧ k < n ∧ isP O T a b k = true)) := by
  have p5 := ho.1.1
  have key := lp (L := fun f j (st : (Nat → Int32)) => f_M_fedMeeting_L22 (iI X) (iI a) mm ms mc sp' (iI p) f (iI (j : Int)) st) (n := p) (I := fun b st => a < b ∧ ∃ O' T' K' Y' Z' n', exT O T K Y Z p n X a b O' T' K' Y' Z' n' ∧ xv st S O' T' K' Y' Z' p n' fb) (Post := fun r => (∃ x', r = .inr x' ∧ ∃ O' T' K' Y' Z' n', exT O T K Y Z p n X (a + 1) (a + 2) O' T' K' Y' Z' n' ∧ xv x' S O' T' K' Y' Z' p n' fb) ∨ (∃ R, r = .inl R ∧ R.1 = -1 ∧ ∃ a b k, a < b ∧ b < p ∧ X.testBit (ixN p a b) = true ∧ k < n ∧ isP O T a b k = true)) ?_ ?_ fu (a + 1) x (by omega) (by have := fu_big; omega) ⟨by omega, hx⟩
  · obtain ⟨r, hr, he⟩ := key
    exact ⟨r, he, hr⟩
  · intro f b st hb hst
    obtain ⟨hab, O', T', K', Y', Z', n', hE, hxv⟩ := hst
    have ho' := xok_ex ho hE
    obtain ⟨i1, -⟩ := tw_ix p (by omega) b hb a hab
    have hM := tw_M p (by omega)
    simp only [f_M_fedMeeting_L22]
    rw [if_neg (by rw [iI_le] <;> omega), bitOf_d p (by omega) b hb a hab, bd_some, r_bit (by omega) (by omega), bd_some, r_pairBy hxv ho'.1 (by omega) (by omega) (by omega), bd_some]
    simp only [b01_eq0, lt]
    rw [show iI (b : Int) + 1 = iI ((b + 1 : Nat) : Int) by rw [i_1, iI_add]; rfl]
    obtain ⟨e1, e2, e3, e4, e5⟩ := hE
    cases hbit : X.testBit (ixN p a b)
    · left
      refine ⟨st, ⟨by omega, O', T', K', Y', Z', n', ⟨e1, e2, e3, fun k hk hk2 => ?_, fun a' b' h1 h2 h3 h4 => ?_⟩, hxv⟩, by simp only [if_true]⟩
      · obtain ⟨q1, q2, q3, q4, q5, q6, q7⟩ := e4 k hk hk2
        exact ⟨q1, q2, q3, q4, q5, q6, by unfold bfr at *; omega⟩
      · refine e5 a' b' h1 h2 ?_ h4
        unfold bfr at *
        by_cases c : a' = a ∧ b' = b
        · rw [c.1, c.2, hbit] at h4; cases h4
        · omega
    · simp only [Bool.true_eq_false, if_false]
      cases hf : fst0 (isP O' T' a b) n' with
      | none =>
        left
        have hno : ∀ k, k < n' → isP O' T' a b k = false := fun k hk => fst_none _ _ (by omega) hf k (by omega) hk
        have hpk := pok_add p5 e2 (show a < p by omega) hb (by omega) hno
        have hn10 := pok_10 p5 hpk
        obtain ⟨x', g1, g2, -⟩ := r_knows (a := a) (b := b) p5 (show n' < 10 by omega) hxv
        refine ⟨x', ⟨by omega, _, _, _, _, _, n' + 1, ⟨by omega, hpk, fun k hk => ?_, fun k hk hk2 => ?_, fun a' b' h1 h2 h3 h4 => ?_⟩, g2⟩, ?_⟩
        · rw [setN_n (by omega), setN_n (by omega), setN_n (by omega), setN_n (by omega), setN_n (by omega)]; exact e3 k hk
        · by_cases c : k = n'
          · subst c
            rw [setN_s, setN_s, setN_s, setN_s, setN_s]
            exact ⟨rfl, rfl, rfl, hab, hb, hbit, by unfold bfr; omega⟩
          · rw [setN_n (by omega), setN_n (by omega), setN_n (by omega), setN_n (by omega), setN_n (by omega)]
            obtain ⟨q1, q2, q3, q4, q5, q6, q7⟩ := e4 k hk (by omega)
            exact ⟨q1, q2, q3, q4, q5, q6, by unfold bfr at *; omega⟩
        · by_cases c : a' = a ∧ b' = b
          · exact ⟨n', e1, by omega, by rw [setN_s, c.1], by rw [setN_s, c.2]⟩
          · obtain ⟨k, q1, q2, q3, q4⟩ := e5 a' b' h1 h2 (by unfold bfr at *; omega) h4
            exact ⟨k, q1, by omega, by rw [setN_n (by omega)]; exact q3, by rw [setN_n (by omega)]; exact q4⟩
        · rw [i_m2, if_pos (by rfl), g1, bd_some]
      | some k =>
        right
        have hk := fst_lt _ _ _ hf
        have hn10 := pok_10 p5 e2
        rw [i_m2, if_neg (by show ¬ iI (k : Int) = iI (-2); rw [iI_eq] <;> omega)]
        refine ⟨_, Or.inr ⟨_, rfl, rfl, a, b, k, hab, hb, hbit, ?_⟩, rfl⟩
        have hkn : k < n := by
          rcases Nat.lt_or_ge k n with q | q
          · exact q
          · obtain ⟨-, -, -, q4, q5, -, q7⟩ := e4 k q hk.1
            have hi := hk.2
            unfold isP at hi
            simp only [Bool.or_eq_true, Bool.and_eq_true, beq_iff_eq] at hi
            unfold bfr at q7
            omega
        refine ⟨hkn, ?_⟩
        obtain ⟨c1, c2, -⟩ := e3 k hkn
        have hi := hk.2
        unfold isP at hi ⊢
        rw [c1, c2] at hi
        exact hi
  · intro f st hst
    obtain ⟨hab, O', T', K', Y', Z', n', ⟨e1, e2, e3, e4, e5⟩, hxv⟩ := hst
    refine ⟨.inr st, Or.inl ⟨st, rfl, O', T', K', Y', Z', n', ⟨e1, e2, e3, fun k hk hk2 => ?_, fun a' b' h1 h2 h3 h4 => ?_⟩, hxv⟩, ?_⟩
    · obtain ⟨q1, q2, q3, q4, q5, q6, q7⟩ := e4 k hk hk2
      exact ⟨q1, q2, q3, q4, q5, q6, by unfold bfr at *; omega⟩
    · exact e5 a' b' h1 h2 (by unfold bfr at *; omega) h4
    · simp only [f_M_fedMeeting_L22]
      rw [if_pos (by rw [iI_le] <;> omega)]
theorem r_meetL (ho : nok S O T K Y Z p n fb ns sl) (hX : X < 1024) (x : Nat → Int32) (hx : xv x S O T K Y Z p n fb) : ∃ r, f_M_fedMeeting_L6 (iI X) mm ms mc sp' (iI p) fu (0 : Int32) x = some r ∧ ((∃ x', r = .inr x' ∧ ∃ O' T' K' Y' Z' n', exT O T K Y Z p n X p (p + 1) O' T' K' Y' Z' n' ∧ xv x' S O' T' K' Y' Z' p n' fb) ∨ (∃ R, r = .inl R ∧ R.1 = -1 ∧ ∃ a b k, a < b ∧ b < p ∧ X.testBit (ixN p a b) = true ∧ k < n ∧ isP O T a b k = true)) := by
  have p5 := ho.1.1
  have key := lp (L := fun f j (st : (Nat → Int32)) => f_M_fedMeeting_L6 (iI X) mm ms mc sp' (iI p) f (iI (j : Int)) st) (n := p) (I := fun a st => ∃ O' T' K' Y' Z' n', exT O T K Y Z p n X a (a + 1) O' T' K' Y' Z' n' ∧ xv st S O' T' K' Y' Z' p n' fb) (Post := fun r => (∃ x', r = .inr x' ∧ ∃ O' T' K' Y' Z' n', exT O T K Y Z p n X p (p + 1) O' T' K' Y' Z' n' ∧ xv x' S O' T' K' Y' Z' p n' fb) ∨ (∃ R, r = .inl R ∧ R.1 = -1 ∧ ∃ a b k, a < b ∧ b < p ∧ X.testBit (ixN p a b) = true ∧ k < n ∧ isP O T a b k = true)) ?_ ?_ fu 0 x (by omega) (by have := fu_big; omega) ⟨O, T, K, Y, Z, n, ⟨by omega, ho.2.1, fun k _ => ⟨rfl, rfl, rfl, rfl, rfl⟩, fun k h1 h2 => by omega, fun a b h1 h2 h3 => by unfold bfr at h3; omega⟩, hx⟩
  · obtain ⟨r, hr, he⟩ := key
    exact ⟨r, he, hr⟩
  · intro f a st ha hst
    obtain ⟨r, g1, g2⟩ := r_meet1 (mm := mm) (ms := ms) (mc := mc) (sp' := sp') ho hX ha st hst
    simp only [f_M_fedMeeting_L6]
    rw [if_neg (by rw [iI_le] <;> omega)]
    simp only [lt]
    rw [show iI (a : Int) + 1 = iI ((a + 1 : Nat) : Int) by rw [i_1, iI_add]; rfl, g1, bd_some]
    rcases g2 with ⟨x', rfl, g2⟩ | ⟨R, rfl, g2⟩
    · exact Or.inl ⟨x', g2, rfl⟩
    · exact Or.inr ⟨.inl R, Or.inr ⟨R, rfl, g2⟩, rfl⟩
  · intro f st hst
    refine ⟨.inr st, Or.inl ⟨st, rfl, hst⟩, ?_⟩
    simp only [f_M_fedMeeting_L6]
    rw [if_pos (by rw [iI_le] <;> omega)]
end
