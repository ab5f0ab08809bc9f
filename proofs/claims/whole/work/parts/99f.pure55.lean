/-! images -/
def setP (G : Nat → Pic) (n : Nat) (P : Pic) : Nat → Pic := fun i => if i = n then P else G i
theorem setP_s (G : Nat → Pic) (n : Nat) (P : Pic) : setP G n P n = P := if_pos rfl
theorem setP_n {G : Nat → Pic} {n i : Nat} {P : Pic} (h : ¬ i = n) : setP G n P i = G i := if_neg h
theorem ar_cpN {f g : Nat → Int32} {S : Nat → Nat} {p m : Nat} (hp : p ≤ m) (h : ar f p S) : ar (va_cpy f g 0 0 m) p S := by
  intro j hj
  unfold va_cpy
  rw [if_pos (by omega)]
  rw [show 0 + (j - 0) = j by omega]
  exact h j hj
section
variable {so on ot ki ye sa v x past pa pw pm br kept a1 a2 a3 a4 a5 a6 b1 b2 b3 b4 b5 b6 d1 d2 d3 d4 d5 d6 : Nat → Int32} {pr go bw fr pn pc acts a7 a8 b7 b8 d7 d8 : Int32} {p fb ns sl sw n : Nat}
/-- both sides' images -/
def imOK (p fb ns sl n : Nat) (kept a1 a2 a3 a4 a5 a6 : Nat → Int32) (a7 a8 : Int32) (b1 b2 b3 b4 b5 b6 : Nat → Int32) (b7 b8 : Int32) (d1 d2 d3 d4 d5 d6 : Nat → Int32) (d7 d8 : Int32) : Prop := n ≤ 3 ∧ ∃ G : Nat → Pic, (0 < n → cP a1 a2 a3 a4 a5 a6 a7 a8 (G 0) p) ∧ (1 < n → cP b1 b2 b3 b4 b5 b6 b7 b8 (G 1) p) ∧ (2 < n → cP d1 d2 d3 d4 d5 d6 d7 d8 (G 2) p) ∧ ∀ a, a < n → okP (G a) p fb ns sl ∧ xP (fun j => kept (58 * a + j)) (G a) p fb
theorem cP_cp {P : Pic} (ho : okP P p fb ns sl) (h : cP so on ot ki ye sa pr go P p) : cP (va_cpy so a1 0 0 5) (va_cpy on a2 0 0 10) (va_cpy ot a3 0 0 10) (va_cpy ki a4 0 0 10) (va_cpy ye a5 0 0 10) (va_cpy sa a6 0 0 10) pr go P p := by
  have p5 := ho.1.1.1
  have n10 := ho.1.1.2.1
  obtain ⟨⟨c1, c2, c3, c4, c5, c6⟩, e1, e2⟩ := h
  exact ⟨⟨ar_cpN p5 c1, ar_cpN n10 c2, ar_cpN n10 c3, ar_cpN n10 c4, ar_cpN n10 c5, ar_cpN n10 c6⟩, e1, e2⟩
theorem e_back (h : stA p fb ns sl so on ot ki ye sa pr go br bw fr pa pw pm pn pc v past acts) (hi : imOK p fb ns sl n kept a1 a2 a3 a4 a5 a6 a7 a8 b1 b2 b3 b4 b5 b6 b7 b8 d1 d2 d3 d4 d5 d6 d7 d8) (l1 : Int32) : ∃ R R', f_X_back l1 (iI n) so on ot ki ye sa pr go fr pc a1 a2 a3 a4 a5 a6 a7 a8 b1 b2 b3 b4 b5 b6 b7 b8 d1 d2 d3 d4 d5 d6 d7 d8 = some R ∧ f_M_back l1 v kept acts (iI n) = some R' ∧ qz R.1 R.2.1 R'.1 R'.2.2.1 R'.2.2.2.1 ∧ stA p fb ns sl R.2.2.1 R.2.2.2.1 R.2.2.2.2.1 R.2.2.2.2.2.1 R.2.2.2.2.2.2.1 R.2.2.2.2.2.2.2.1 R.2.2.2.2.2.2.2.2.1 R.2.2.2.2.2.2.2.2.2.1 br bw R.2.2.2.2.2.2.2.2.2.2.1 pa pw pm pn R.2.2.2.2.2.2.2.2.2.2.2 R'.2.2.2.2.1 past R'.2.2.2.2.2 := by
  obtain ⟨h, c, hc, hv, ho, hp, hse⟩ := h
  obtain ⟨n3, G, g0, g1, g2, hG⟩ := hi
  unfold f_X_back f_M_back
  obtain ⟨z, z1, z2, rfl⟩ := i_any l1
  by_cases hz : 0 ≤ z ∧ z < n
  · obtain ⟨a, rfl⟩ := Int.eq_ofNat_of_zero_le hz.1
    have han : a < n := by omega
    obtain ⟨k1, k2⟩ := hG a han
    obtain ⟨v', r1, r2⟩ := r_backL (v := v) (kept := kept) (a := a) (by omega)
    obtain ⟨c16, rfl, rfl, nx, hnx, rfl, -⟩ := hp
    have hb : (if iI ((a : Nat) : Int) < 0 then some true else if iI ((a : Nat) : Int) < iI (n : Nat) then some false else some true : Option Bool) = some false := by
      rw [if_neg (by rw [i_0, iI_lt] <;> omega), if_pos (by rw [iI_lt] <;> omega)]
    have hst : ∀ so on ot ki ye sa pr go, cP so on ot ki ye sa pr go (G a) p → stA p fb ns sl so on ot ki ye sa pr go br bw 0 pa pw pm (iI (nx : Nat)) 0 v' past 0 := fun so on ot ki ye sa pr go hcc => ⟨fun _ => G a, 0, hcc, xP_cp k1 k2 r2, k1, ⟨by omega, rfl, rfl, nx, hnx, rfl, fun i hi => by omega⟩, Or.inl rfl⟩
    rw [hb, bd_some, bd_some, if_neg Bool.false_ne_true, if_neg Bool.false_ne_true, r1, bd_some]
    rcases (show a = 0 ∨ a = 1 ∨ a = 2 by omega) with e | e | e
    · subst e
      rw [if_pos (show iI ((0 : Nat) : Int) = 0 from rfl)]
      exact ⟨_, _, rfl, rfl, qz_0 rfl, hst _ _ _ _ _ _ _ _ (cP_cp k1 (g0 han))⟩
    · subst e
      rw [if_neg (show ¬ iI ((1 : Nat) : Int) = 0 by decide), if_pos (show iI ((1 : Nat) : Int) = 1 from rfl)]
      exact ⟨_, _, rfl, rfl, qz_0 rfl, hst _ _ _ _ _ _ _ _ (cP_cp k1 (g1 han))⟩
    · subst e
      rw [if_neg (show ¬ iI ((2 : Nat) : Int) = 0 by decide), if_neg (show ¬ iI ((2 : Nat) : Int) = 1 by decide), if_pos (show iI ((2 : Nat) : Int) = 2 from rfl)]
      exact ⟨_, _, rfl, rfl, qz_0 rfl, hst _ _ _ _ _ _ _ _ (cP_cp k1 (g2 han))⟩
  · have hb : (if iI z < 0 then some true else if iI z < iI (n : Nat) then some false else some true : Option Bool) = some true := by
      by_cases c1 : z < 0
      · rw [if_pos (by rw [i_0, iI_lt] <;> omega)]
      · rw [if_neg (by rw [i_0, iI_lt] <;> omega), if_neg (by rw [iI_lt] <;> omega)]
    rw [hb, bd_some, bd_some, if_pos rfl, if_pos rfl]
    exact ⟨_, _, rfl, rfl, ⟨rfl, rfl, (show ¬ (1 : Int32) = 4 by decide), rfl⟩, h, c, hc, hv, ho, hp, hse⟩
theorem e_image (h : stA p fb ns sl so on ot ki ye sa pr go br bw fr pa pw pm pn pc v past acts) (hi : imOK p fb ns sl n kept a1 a2 a3 a4 a5 a6 a7 a8 b1 b2 b3 b4 b5 b6 b7 b8 d1 d2 d3 d4 d5 d6 d7 d8) : ∃ R R', f_X_image (iI n) (iI p) so on ot ki ye sa pr go a1 a2 a3 a4 a5 a6 a7 a8 b1 b2 b3 b4 b5 b6 b7 b8 d1 d2 d3 d4 d5 d6 d7 d8 = some R ∧ f_M_image v kept (iI n) = some R' ∧ qz R.1 R.2.2.1 R'.1 R'.2.2.1 R'.2.2.2.1 ∧ ∃ n' : Nat, R.2.1 = iI n' ∧ R'.2.2.2.2.2 = iI n' ∧ imOK p fb ns sl n' R'.2.2.2.2.1 R.2.2.2.1 R.2.2.2.2.1 R.2.2.2.2.2.1 R.2.2.2.2.2.2.1 R.2.2.2.2.2.2.2.1 R.2.2.2.2.2.2.2.2.1 R.2.2.2.2.2.2.2.2.2.1 R.2.2.2.2.2.2.2.2.2.2.1 R.2.2.2.2.2.2.2.2.2.2.2.1 R.2.2.2.2.2.2.2.2.2.2.2.2.1 R.2.2.2.2.2.2.2.2.2.2.2.2.2.1 R.2.2.2.2.2.2.2.2.2.2.2.2.2.2.1 R.2.2.2.2.2.2.2.2.2.2.2.2.2.2.2.1 R.2.2.2.2.2.2.2.2.2.2.2.2.2.2.2.2.1 R.2.2.2.2.2.2.2.2.2.2.2.2.2.2.2.2.2.1 R.2.2.2.2.2.2.2.2.2.2.2.2.2.2.2.2.2.2.1 R.2.2.2.2.2.2.2.2.2.2.2.2.2.2.2.2.2.2.2.1 R.2.2.2.2.2.2.2.2.2.2.2.2.2.2.2.2.2.2.2.2.1 R.2.2.2.2.2.2.2.2.2.2.2.2.2.2.2.2.2.2.2.2.2.1 R.2.2.2.2.2.2.2.2.2.2.2.2.2.2.2.2.2.2.2.2.2.2.1 R.2.2.2.2.2.2.2.2.2.2.2.2.2.2.2.2.2.2.2.2.2.2.2.1 R.2.2.2.2.2.2.2.2.2.2.2.2.2.2.2.2.2.2.2.2.2.2.2.2.1 R.2.2.2.2.2.2.2.2.2.2.2.2.2.2.2.2.2.2.2.2.2.2.2.2.2.1 R.2.2.2.2.2.2.2.2.2.2.2.2.2.2.2.2.2.2.2.2.2.2.2.2.2.2 := by
  obtain ⟨h, c, hc, hv, ho, hp, hse⟩ := h
  obtain ⟨n3, G, g0, g1, g2, hG⟩ := hi
  unfold f_X_image f_M_image
  rw [q_noTable ho.1.2.2.2.2 ho.1.1.1, bd_some, if_pos rfl]
  by_cases e3 : n = 3
  · subst e3
    rw [if_neg (show ¬ iI ((3 : Nat) : Int) < 3 by decide), if_pos (show iI ((3 : Nat) : Int) = 3 from rfl)]
    exact ⟨_, _, rfl, rfl, ⟨rfl, rfl, (show ¬ (3 : Int32) = 4 by decide), rfl⟩, 3, rfl, rfl, n3, G, g0, g1, g2, hG⟩
  · obtain ⟨k', r1, r2, r3⟩ := r_imageL (v := v) (kept := kept) (a := n) (by omega)
    have hall : ∀ a, a < n + 1 → okP (setP G n (h 0) a) p fb ns sl ∧ xP (fun j => k' (58 * a + j)) (setP G n (h 0) a) p fb := by
      intro a ha
      by_cases e : a = n
      · subst e
        rw [setP_s]
        exact ⟨ho, xP_cp ho hv r2⟩
      · rw [setP_n e]
        obtain ⟨q1, q2⟩ := hG a (by omega)
        exact ⟨q1, xP_cp q1 q2 (fun j hj => r3 _ (by omega))⟩
    have hcc := hc
    rw [if_pos (show iI (n : Nat) < 3 by rw [show (3 : Int32) = iI 3 from rfl, iI_lt] <;> omega), if_neg (show ¬ iI (n : Nat) = 3 by rw [show (3 : Int32) = iI 3 from rfl, iI_eq] <;> omega), r1, bd_some]
    rcases (show n = 0 ∨ n = 1 ∨ n = 2 by omega) with e | e | e
    · subst e
      rw [if_pos (show iI ((0 : Nat) : Int) = 0 from rfl)]
      exact ⟨_, _, rfl, rfl, qz_0 rfl, 1, rfl, rfl, by omega, setP G 0 (h 0), fun _ => by rw [setP_s]; exact cP_cp ho hc, fun hh => by omega, fun hh => by omega, hall⟩
    · subst e
      rw [if_neg (show ¬ iI ((1 : Nat) : Int) = 0 by decide), if_pos (show iI ((1 : Nat) : Int) = 1 from rfl)]
      exact ⟨_, _, rfl, rfl, qz_0 rfl, 2, rfl, rfl, by omega, setP G 1 (h 0), fun _ => by rw [setP_n (by omega)]; exact g0 (by omega), fun _ => by rw [setP_s]; exact cP_cp ho hc, fun hh => by omega, hall⟩
    · subst e
      rw [if_neg (show ¬ iI ((2 : Nat) : Int) = 0 by decide), if_neg (show ¬ iI ((2 : Nat) : Int) = 1 by decide), if_pos (show iI ((2 : Nat) : Int) = 2 from rfl)]
      exact ⟨_, _, rfl, rfl, qz_0 rfl, 3, rfl, rfl, by omega, setP G 2 (h 0), fun _ => by rw [setP_n (by omega)]; exact g0 (by omega), fun _ => by rw [setP_n (by omega)]; exact g1 (by omega), fun _ => by rw [setP_s]; exact cP_cp ho hc, hall⟩
end
