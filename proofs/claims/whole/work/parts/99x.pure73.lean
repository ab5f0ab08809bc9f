/-! reading all, on both sides -/
abbrev CQ : Type := Int32 × (Nat → Int64) × Int32 × Int32 × Int32 × Int32 × Int32 × Int32 × Int32 × Int64 × (Nat → Int32) × (Nat → Int32) × (Nat → Int32) × Int32 × Int32 × Int32 × Int32 × Int32 × Int32 × Int32 × Int32 × Int32 × (Nat → Int32) × (Nat → Int32) × (Nat → Int32) × (Nat → Int32) × (Nat → Int32) × (Nat → Int32) × Int32 × Int32
def tlM (x3 : MB) : Option MB := bd (if x3.2.1 = (1 : Int32) then some (x3.2.1, x3.2.2.2.2.1, x3.2.2.2.2.2.1) else bd (f_M_flaw (1 : Int32) x3.2.1 x3.2.2.1 x3.2.2.2.2.1 x3.2.2.2.2.2.1) (fun x6 => some (x6.1, x6.2.1, x6.2.2)) : Option (Int32 × Int32 × Int32)) (fun x4 => if x3.2.2.2.2.2.2.2.2.2.2.2.1 = 0 then bd (f_M_flaw (6 : Int32) x4.1 x3.2.2.1 x4.2.1 x4.2.2) (fun x5 => some (x3.1, x5.1, x3.2.2.1, x3.2.2.2.1, x5.2.1, x5.2.2, x3.2.2.2.2.2.2.1, x3.2.2.2.2.2.2.2.1, x3.2.2.2.2.2.2.2.2.1, x3.2.2.2.2.2.2.2.2.2.1, x3.2.2.2.2.2.2.2.2.2.2.1, x3.2.2.2.2.2.2.2.2.2.2.2.1, x3.2.2.2.2.2.2.2.2.2.2.2.2.1, x3.2.2.2.2.2.2.2.2.2.2.2.2.2.1, x3.2.2.2.2.2.2.2.2.2.2.2.2.2.2.1, x3.2.2.2.2.2.2.2.2.2.2.2.2.2.2.2.1, x3.2.2.2.2.2.2.2.2.2.2.2.2.2.2.2.2.1, x3.2.2.2.2.2.2.2.2.2.2.2.2.2.2.2.2.2.1, x3.2.2.2.2.2.2.2.2.2.2.2.2.2.2.2.2.2.2.1, x3.2.2.2.2.2.2.2.2.2.2.2.2.2.2.2.2.2.2.2.1, x3.2.2.2.2.2.2.2.2.2.2.2.2.2.2.2.2.2.2.2.2.1, x3.2.2.2.2.2.2.2.2.2.2.2.2.2.2.2.2.2.2.2.2.2.1, x3.2.2.2.2.2.2.2.2.2.2.2.2.2.2.2.2.2.2.2.2.2.2.1, x3.2.2.2.2.2.2.2.2.2.2.2.2.2.2.2.2.2.2.2.2.2.2.2.1, x3.2.2.2.2.2.2.2.2.2.2.2.2.2.2.2.2.2.2.2.2.2.2.2.2.1, x3.2.2.2.2.2.2.2.2.2.2.2.2.2.2.2.2.2.2.2.2.2.2.2.2.2)) else some (x3.1, x4.1, x3.2.2.1, x3.2.2.2.1, x4.2.1, x4.2.2, x3.2.2.2.2.2.2.1, x3.2.2.2.2.2.2.2.1, x3.2.2.2.2.2.2.2.2.1, x3.2.2.2.2.2.2.2.2.2.1, x3.2.2.2.2.2.2.2.2.2.2.1, x3.2.2.2.2.2.2.2.2.2.2.2.1, x3.2.2.2.2.2.2.2.2.2.2.2.2.1, x3.2.2.2.2.2.2.2.2.2.2.2.2.2.1, x3.2.2.2.2.2.2.2.2.2.2.2.2.2.2.1, x3.2.2.2.2.2.2.2.2.2.2.2.2.2.2.2.1, x3.2.2.2.2.2.2.2.2.2.2.2.2.2.2.2.2.1, x3.2.2.2.2.2.2.2.2.2.2.2.2.2.2.2.2.2.1, x3.2.2.2.2.2.2.2.2.2.2.2.2.2.2.2.2.2.2.1, x3.2.2.2.2.2.2.2.2.2.2.2.2.2.2.2.2.2.2.2.1, x3.2.2.2.2.2.2.2.2.2.2.2.2.2.2.2.2.2.2.2.2.1, x3.2.2.2.2.2.2.2.2.2.2.2.2.2.2.2.2.2.2.2.2.2.1, x3.2.2.2.2.2.2.2.2.2.2.2.2.2.2.2.2.2.2.2.2.2.2.1, x3.2.2.2.2.2.2.2.2.2.2.2.2.2.2.2.2.2.2.2.2.2.2.2.1, x3.2.2.2.2.2.2.2.2.2.2.2.2.2.2.2.2.2.2.2.2.2.2.2.2.1, x3.2.2.2.2.2.2.2.2.2.2.2.2.2.2.2.2.2.2.2.2.2.2.2.2.2))
/-- all is read, without a fault -/
def fnR (e : Nat) (w g : Int32) (c : CQ) (m : MB) : Prop := ∃ (nx so st va : Int32) (wd : Int64) (sp so' pl nu : Int32) (wd' : Int64) (nm rnm : Nat → Int64) (up uy tp se on ot ki ye sa rse ron rot rye rki run rma rtr : Nat → Int32) (csl csw cqc rsl rsw rqc : Int32) (S O T K Y U M R : Nat → Nat) (ns p n fb u r fd : Nat), c = (1, nm, 0, -1, iI (e : Nat), nx, so, st, va, wd, up, uy, tp, iI (ns : Nat), csl, csw, cqc, iI (p : Nat), iI (fb : Nat), iI (u : Nat), iI (r : Nat), iI (fd : Nat), se, on, ot, ki, ye, sa, iI (n : Nat), g) ∧ m = (sp, so', pl, nu, 0, w, wd', iI (ns : Nat), rsl, rsw, rqc, iI (p : Nat), iI (n : Nat), iI (fb : Nat), iI (u : Nat), iI (r : Nat), iI (fd : Nat), rse, ron, rot, rye, rki, run, rma, rtr, rnm) ∧ 0 < p ∧ bX nm rnm up uy tp se on ot ki ye sa rse ron rot rye rki run rma rtr csl csw cqc rsl rsw rqc S O T K Y U M R ns p n fb u r fd
theorem tl_over (x : MB) (h : x.2.1 = 5) : ∃ y, tlM x = some y ∧ y.2.1 = 5 ∧ y.2.2.2.2.1 = x.2.2.2.2.1 ∧ y.2.2.2.2.2.1 = x.2.2.2.2.2.1 := by
  unfold tlM
  rw [h, if_neg (show ¬ (5 : Int32) = 1 by decide), o_flaw, bd_some, bd_some]
  split
  · rw [o_flaw, bd_some]
    exact ⟨_, rfl, rfl, rfl, rfl⟩
  · exact ⟨_, rfl, rfl, rfl, rfl⟩
theorem tl_form (x : MB) (h : ¬ x.2.1 = 5) (h1 : ¬ x.2.1 = 1) : ∃ y, tlM x = some y ∧ y.2.1 = 5 ∧ y.2.2.2.2.1 = 1 ∧ y.2.2.2.2.2.1 = x.2.2.1 := by
  unfold tlM
  rw [if_neg h1, n_flaw h, bd_some, bd_some]
  split
  · rw [o_flaw, bd_some]
    exact ⟨_, rfl, rfl, rfl, rfl⟩
  · exact ⟨_, rfl, rfl, rfl, rfl⟩
theorem tl_lacks (x : MB) (h1 : x.2.1 = 1) (h2 : x.2.2.2.2.2.2.2.2.2.2.2.1 = 0) : ∃ y, tlM x = some y ∧ y.2.1 = 5 ∧ y.2.2.2.2.1 = 6 ∧ y.2.2.2.2.2.1 = x.2.2.1 := by
  unfold tlM
  rw [if_pos h1, bd_some, if_pos h2, h1, n_flaw (show ¬ (1 : Int32) = 5 by decide), bd_some]
  exact ⟨_, rfl, rfl, rfl, rfl⟩
theorem tl_good (x : MB) (h1 : x.2.1 = 1) (h2 : ¬ x.2.2.2.2.2.2.2.2.2.2.2.1 = 0) : tlM x = some x := by
  unfold tlM
  rw [if_pos h1, bd_some, if_neg h2]
theorem L2_end {t : Nat → Int32} {e : Int32} (f : Nat) (m : MB) : f_M_readAll_L2 t e (f + 1) 0 m.1 m.2.1 m.2.2.1 m.2.2.2.1 m.2.2.2.2.1 m.2.2.2.2.2.1 m.2.2.2.2.2.2.1 m.2.2.2.2.2.2.2.1 m.2.2.2.2.2.2.2.2.1 m.2.2.2.2.2.2.2.2.2.1 m.2.2.2.2.2.2.2.2.2.2.1 m.2.2.2.2.2.2.2.2.2.2.2.1 m.2.2.2.2.2.2.2.2.2.2.2.2.1 m.2.2.2.2.2.2.2.2.2.2.2.2.2.1 m.2.2.2.2.2.2.2.2.2.2.2.2.2.2.1 m.2.2.2.2.2.2.2.2.2.2.2.2.2.2.2.1 m.2.2.2.2.2.2.2.2.2.2.2.2.2.2.2.2.1 m.2.2.2.2.2.2.2.2.2.2.2.2.2.2.2.2.2.1 m.2.2.2.2.2.2.2.2.2.2.2.2.2.2.2.2.2.2.1 m.2.2.2.2.2.2.2.2.2.2.2.2.2.2.2.2.2.2.2.1 m.2.2.2.2.2.2.2.2.2.2.2.2.2.2.2.2.2.2.2.2.1 m.2.2.2.2.2.2.2.2.2.2.2.2.2.2.2.2.2.2.2.2.2.1 m.2.2.2.2.2.2.2.2.2.2.2.2.2.2.2.2.2.2.2.2.2.2.1 m.2.2.2.2.2.2.2.2.2.2.2.2.2.2.2.2.2.2.2.2.2.2.2.1 m.2.2.2.2.2.2.2.2.2.2.2.2.2.2.2.2.2.2.2.2.2.2.2.2.1 m.2.2.2.2.2.2.2.2.2.2.2.2.2.2.2.2.2.2.2.2.2.2.2.2.2 = some m := by
  simp only [f_M_readAll_L2]
  rw [if_pos True.intro]
theorem eats_no {t : Nat → Int32} {e sp so pl nu : Int32} {wd : Int64} (h : ¬ so = 4) : f_M_eatsSemicolon t e sp so pl nu wd = some (0, sp, so, pl, nu, wd) := by
  unfold f_M_eatsSemicolon
  rw [if_neg h, bd_some, if_pos rfl]
theorem e_raL {t : Nat → Int32} {e : Nat} {w g : Int32} (ht : byOK t) (he : e ≤ 800) : ∀ (k lo l fc fm : Nat) (c : CB) (m : MB), lnR e lo w c m → l ≤ lo → e < lo + k → k < fc → k < fm → ∃ Q Q', f_Parser_readAll_L27 (iI (e : Nat)) t (iI (e : Nat)) g fc (iI (l : Nat)) c.1 c.2.1 c.2.2.1 c.2.2.2.1 c.2.2.2.2.1 c.2.2.2.2.2.1 c.2.2.2.2.2.2.1 c.2.2.2.2.2.2.2.1 c.2.2.2.2.2.2.2.2.1 c.2.2.2.2.2.2.2.2.2.1 c.2.2.2.2.2.2.2.2.2.2.1 c.2.2.2.2.2.2.2.2.2.2.2.1 c.2.2.2.2.2.2.2.2.2.2.2.2.1 c.2.2.2.2.2.2.2.2.2.2.2.2.2.1 c.2.2.2.2.2.2.2.2.2.2.2.2.2.2.1 c.2.2.2.2.2.2.2.2.2.2.2.2.2.2.2.1 c.2.2.2.2.2.2.2.2.2.2.2.2.2.2.2.2.1 c.2.2.2.2.2.2.2.2.2.2.2.2.2.2.2.2.2.1 c.2.2.2.2.2.2.2.2.2.2.2.2.2.2.2.2.2.2.1 c.2.2.2.2.2.2.2.2.2.2.2.2.2.2.2.2.2.2.2.1 c.2.2.2.2.2.2.2.2.2.2.2.2.2.2.2.2.2.2.2.2.1 c.2.2.2.2.2.2.2.2.2.2.2.2.2.2.2.2.2.2.2.2.2.1 c.2.2.2.2.2.2.2.2.2.2.2.2.2.2.2.2.2.2.2.2.2.2.1 c.2.2.2.2.2.2.2.2.2.2.2.2.2.2.2.2.2.2.2.2.2.2.2.1 c.2.2.2.2.2.2.2.2.2.2.2.2.2.2.2.2.2.2.2.2.2.2.2.2.1 c.2.2.2.2.2.2.2.2.2.2.2.2.2.2.2.2.2.2.2.2.2.2.2.2.2.1 c.2.2.2.2.2.2.2.2.2.2.2.2.2.2.2.2.2.2.2.2.2.2.2.2.2.2 = some (.inl Q) ∧ bd (f_M_readAll_L2 t (iI (e : Nat)) fm 1 m.1 m.2.1 m.2.2.1 m.2.2.2.1 m.2.2.2.2.1 m.2.2.2.2.2.1 m.2.2.2.2.2.2.1 m.2.2.2.2.2.2.2.1 m.2.2.2.2.2.2.2.2.1 m.2.2.2.2.2.2.2.2.2.1 m.2.2.2.2.2.2.2.2.2.2.1 m.2.2.2.2.2.2.2.2.2.2.2.1 m.2.2.2.2.2.2.2.2.2.2.2.2.1 m.2.2.2.2.2.2.2.2.2.2.2.2.2.1 m.2.2.2.2.2.2.2.2.2.2.2.2.2.2.1 m.2.2.2.2.2.2.2.2.2.2.2.2.2.2.2.1 m.2.2.2.2.2.2.2.2.2.2.2.2.2.2.2.2.1 m.2.2.2.2.2.2.2.2.2.2.2.2.2.2.2.2.2.1 m.2.2.2.2.2.2.2.2.2.2.2.2.2.2.2.2.2.2.1 m.2.2.2.2.2.2.2.2.2.2.2.2.2.2.2.2.2.2.2.1 m.2.2.2.2.2.2.2.2.2.2.2.2.2.2.2.2.2.2.2.2.1 m.2.2.2.2.2.2.2.2.2.2.2.2.2.2.2.2.2.2.2.2.2.1 m.2.2.2.2.2.2.2.2.2.2.2.2.2.2.2.2.2.2.2.2.2.2.1 m.2.2.2.2.2.2.2.2.2.2.2.2.2.2.2.2.2.2.2.2.2.2.2.1 m.2.2.2.2.2.2.2.2.2.2.2.2.2.2.2.2.2.2.2.2.2.2.2.2.1 m.2.2.2.2.2.2.2.2.2.2.2.2.2.2.2.2.2.2.2.2.2.2.2.2.2) tlM = some Q' ∧ (fnR e w g Q Q' ∨ bad3 Q.1 Q.2.2.1 Q.2.2.2.1 Q'.2.1 Q'.2.2.2.2.1 Q'.2.2.2.2.2.1) := by
  intro k
  induction k with
  | zero =>
    intro lo l fc fm c m h h1 h2 h3 h4
    obtain ⟨nx, so, st, va, wd, sp, so', pl, nu, wd', nm, rnm, up, uy, tp, se, on, ot, ki, ye, sa, rse, ron, rot, rye, rki, run, rma, rtr, csl, csw, cqc, rsl, rsw, rqc, S, O, T, K, Y, U, M, R, ns, p, n, fb, u, r, fd, rfl, rfl, hk, hb⟩ := h
    obtain ⟨a, s, q1, q2, q3, -⟩ := hk
    omega
  | succ k ih =>
    intro lo l fc fm c m h h1 h2 h3 h4
    obtain ⟨nx, so, st, va, wd, sp, so', pl, nu, wd', nm, rnm, up, uy, tp, se, on, ot, ki, ye, sa, rse, ron, rot, rye, rki, run, rma, rtr, csl, csw, cqc, rsl, rsw, rqc, S, O, T, K, Y, U, M, R, ns, p, n, fb, u, r, fd, rfl, rfl, hk, hb⟩ := h
    obtain ⟨fc, rfl⟩ : ∃ z, fc = z + 1 := ⟨fc - 1, by omega⟩
    obtain ⟨F, rfl⟩ : ∃ z, fm = z + 1 := ⟨fm - 1, by omega⟩
    have hle : l ≤ e := by
      obtain ⟨a, s, q1, q2, q3, -⟩ := hk
      omega
    simp only [f_Parser_readAll_L27, f_M_readAll_L2]
    obtain ⟨fm, rfl⟩ : ∃ z, F = z + 1 := ⟨F - 1, by omega⟩
    rw [if_neg (show ¬ iI (e : Nat) < iI (l : Nat) by rw [iI_lt] <;> omega), if_neg (show ¬ (1 : Int32) = 0 by decide)]
    rcases e_rl (w := w) ht he hk hb with ⟨c', m', r1, r2, r3⟩ | ⟨Q, Q', r1, r2, r3, r4, r5, r6, r7⟩
    · rw [r1, r2, bd_some, bd_some, if_neg (show ¬ (1 : Int32) = 0 by decide)]
      clear r1 r2 hk hb
      obtain ⟨nx, so, st, va, wd, sp, so', pl, nu, wd', nm, rnm, up, uy, tp, se, on, ot, ki, ye, sa, rse, ron, rot, rye, rki, run, rma, rtr, csl, csw, cqc, rsl, rsw, rqc, S, O, T, K, Y, U, M, R, ns, p, n, fb, u, r, fd, rfl, rfl, hk, hb⟩ := r3
      have hk0 := hk
      have hpl := tk_pl hk
      obtain ⟨a, s, q1, q2, q3, -, -, -, -, hh⟩ := hk
      have hp5 : p ≤ 5 := hb.2.2.2.2.2.1.1
      rcases hh with ⟨rfl, rfl, hh⟩ | ⟨rfl, rfl, hh⟩ | ⟨rfl, rfl, hh⟩ | ⟨rfl, rfl, hh⟩ | ⟨rfl, rfl, hh⟩
      · rw [if_pos rfl, eats_no (show ¬ (1 : Int32) = 4 by decide), bd_some, L2_end fm (sp, 1, pl, nu, 0, w, wd', iI (ns : Nat), rsl, rsw, rqc, iI (p : Nat), iI (n : Nat), iI (fb : Nat), iI (u : Nat), iI (r : Nat), iI (fd : Nat), rse, ron, rot, rye, rki, run, rma, rtr, rnm), bd_some]
        by_cases c : 0 < p
        · rw [if_pos (show (0 : Int32) < iI (p : Nat) by rw [i_0, iI_lt] <;> omega), tl_good _ rfl (show ¬ iI (p : Nat) = 0 by rw [i_0, iI_eq] <;> omega)]
          exact ⟨_, _, rfl, rfl, Or.inl ⟨_, _, _, _, _, _, _, _, _, _, _, _, _, _, _, _, _, _, _, _, _, _, _, _, _, _, _, _, _, _, _, _, _, _, _, _, _, _, _, _, _, _, _, _, _, _, _, _, _, _, rfl, rfl, c, hb⟩⟩
        · have c0 : p = 0 := by omega
          obtain ⟨y, y1, y2, y3, y4⟩ := tl_lacks (sp, 1, pl, nu, 0, w, wd', iI (ns : Nat), rsl, rsw, rqc, iI (p : Nat), iI (n : Nat), iI (fb : Nat), iI (u : Nat), iI (r : Nat), iI (fd : Nat), rse, ron, rot, rye, rki, run, rma, rtr, rnm) rfl (show iI (p : Nat) = 0 by rw [c0]; rfl)
          rw [if_neg (show ¬ (0 : Int32) < iI (p : Nat) by rw [i_0, iI_lt] <;> omega), y1]
          refine ⟨_, _, rfl, rfl, Or.inr ⟨rfl, y2, by rw [y3]; decide, y3.symm, ?_⟩⟩
          rw [y4]; exact hpl.symm
      · rw [if_neg (show ¬ (1 : Int32) = 0 by decide), if_neg (show ¬ (1 : Int32) = 3 by decide), eats_no (show ¬ (2 : Int32) = 4 by decide), bd_some, L2_end fm (sp, 2, pl, nu, 0, w, wd', iI (ns : Nat), rsl, rsw, rqc, iI (p : Nat), iI (n : Nat), iI (fb : Nat), iI (u : Nat), iI (r : Nat), iI (fd : Nat), rse, ron, rot, rye, rki, run, rma, rtr, rnm), bd_some]
        obtain ⟨y, y1, y2, y3, y4⟩ := tl_form (sp, 2, pl, nu, 0, w, wd', iI (ns : Nat), rsl, rsw, rqc, iI (p : Nat), iI (n : Nat), iI (fb : Nat), iI (u : Nat), iI (r : Nat), iI (fd : Nat), rse, ron, rot, rye, rki, run, rma, rtr, rnm) (show ¬ (2 : Int32) = 5 by decide) (show ¬ (2 : Int32) = 1 by decide)
        rw [y1]
        refine ⟨_, _, rfl, rfl, Or.inr ⟨rfl, y2, by rw [y3]; decide, y3.symm, ?_⟩⟩
        rw [y4]; exact hpl.symm
      · rw [if_neg (show ¬ (2 : Int32) = 0 by decide), if_neg (show ¬ (2 : Int32) = 3 by decide), eats_no (show ¬ (3 : Int32) = 4 by decide), bd_some, L2_end fm (sp, 3, pl, nu, 0, w, wd', iI (ns : Nat), rsl, rsw, rqc, iI (p : Nat), iI (n : Nat), iI (fb : Nat), iI (u : Nat), iI (r : Nat), iI (fd : Nat), rse, ron, rot, rye, rki, run, rma, rtr, rnm), bd_some]
        obtain ⟨y, y1, y2, y3, y4⟩ := tl_form (sp, 3, pl, nu, 0, w, wd', iI (ns : Nat), rsl, rsw, rqc, iI (p : Nat), iI (n : Nat), iI (fb : Nat), iI (u : Nat), iI (r : Nat), iI (fd : Nat), rse, ron, rot, rye, rki, run, rma, rtr, rnm) (show ¬ (3 : Int32) = 5 by decide) (show ¬ (3 : Int32) = 1 by decide)
        rw [y1]
        refine ⟨_, _, rfl, rfl, Or.inr ⟨rfl, y2, by rw [y3]; decide, y3.symm, ?_⟩⟩
        rw [y4]; exact hpl.symm
      · obtain ⟨nx2, so2, st2, va2, wd2, sp2, so2', pl2, nu2, wd2', t1, t2, -, t3⟩ := e_stp ht he hk0
        rw [if_neg (show ¬ (3 : Int32) = 0 by decide), if_pos rfl, t1, bd_some, lt_eq, sm1]
        have ee : f_M_eatsSemicolon t (iI (e : Nat)) sp 4 pl nu wd' = some (1, sp2, so2', pl2, nu2, wd2') := by
          unfold f_M_eatsSemicolon
          rw [if_pos rfl, bd_some, if_neg (show ¬ (1 : Int32) = 0 by decide), t2, bd_some]
        rw [ee, bd_some]
        exact ih (lo + 1) (l + 1) fc (fm + 1) _ _ (lnR_i (t3 rfl) hb) (by omega) (by omega) (by omega) (by omega)
      · rw [if_neg (show ¬ (4 : Int32) = 0 by decide), if_neg (show ¬ (4 : Int32) = 3 by decide), eats_no (show ¬ (0 : Int32) = 4 by decide), bd_some, L2_end fm (sp, 0, pl, nu, 0, w, wd', iI (ns : Nat), rsl, rsw, rqc, iI (p : Nat), iI (n : Nat), iI (fb : Nat), iI (u : Nat), iI (r : Nat), iI (fd : Nat), rse, ron, rot, rye, rki, run, rma, rtr, rnm), bd_some]
        obtain ⟨y, y1, y2, y3, y4⟩ := tl_form (sp, 0, pl, nu, 0, w, wd', iI (ns : Nat), rsl, rsw, rqc, iI (p : Nat), iI (n : Nat), iI (fb : Nat), iI (u : Nat), iI (r : Nat), iI (fd : Nat), rse, ron, rot, rye, rki, run, rma, rtr, rnm) (show ¬ (0 : Int32) = 5 by decide) (show ¬ (0 : Int32) = 1 by decide)
        rw [y1]
        refine ⟨_, _, rfl, rfl, Or.inr ⟨rfl, y2, by rw [y3]; decide, y3.symm, ?_⟩⟩
        rw [y4]; exact hpl.symm
    · rw [r1, r2, bd_some, bd_some, if_pos r3, r4, eats_no (show ¬ (5 : Int32) = 4 by decide), bd_some]
      obtain ⟨y, y1, y2, y3, y4⟩ := tl_over Q' r4
      have ee := L2_end (t := t) (e := iI (e : Nat)) fm Q'
      rw [r4] at ee
      rw [show f_M_readAll_L2 t (iI (e : Nat)) (fm + 1) 0 Q'.1 5 Q'.2.2.1 Q'.2.2.2.1 Q'.2.2.2.2.1 Q'.2.2.2.2.2.1 Q'.2.2.2.2.2.2.1 Q'.2.2.2.2.2.2.2.1 Q'.2.2.2.2.2.2.2.2.1 Q'.2.2.2.2.2.2.2.2.2.1 Q'.2.2.2.2.2.2.2.2.2.2.1 Q'.2.2.2.2.2.2.2.2.2.2.2.1 Q'.2.2.2.2.2.2.2.2.2.2.2.2.1 Q'.2.2.2.2.2.2.2.2.2.2.2.2.2.1 Q'.2.2.2.2.2.2.2.2.2.2.2.2.2.2.1 Q'.2.2.2.2.2.2.2.2.2.2.2.2.2.2.2.1 Q'.2.2.2.2.2.2.2.2.2.2.2.2.2.2.2.2.1 Q'.2.2.2.2.2.2.2.2.2.2.2.2.2.2.2.2.2.1 Q'.2.2.2.2.2.2.2.2.2.2.2.2.2.2.2.2.2.2.1 Q'.2.2.2.2.2.2.2.2.2.2.2.2.2.2.2.2.2.2.2.1 Q'.2.2.2.2.2.2.2.2.2.2.2.2.2.2.2.2.2.2.2.2.1 Q'.2.2.2.2.2.2.2.2.2.2.2.2.2.2.2.2.2.2.2.2.2.1 Q'.2.2.2.2.2.2.2.2.2.2.2.2.2.2.2.2.2.2.2.2.2.2.1 Q'.2.2.2.2.2.2.2.2.2.2.2.2.2.2.2.2.2.2.2.2.2.2.2.1 Q'.2.2.2.2.2.2.2.2.2.2.2.2.2.2.2.2.2.2.2.2.2.2.2.2.1 Q'.2.2.2.2.2.2.2.2.2.2.2.2.2.2.2.2.2.2.2.2.2.2.2.2.2 = some Q' from ee, bd_some, y1]
      exact ⟨_, _, rfl, rfl, Or.inr ⟨rfl, y2, by rw [y3]; exact r5, by rw [y3]; exact r6, by rw [y4]; exact r7⟩⟩
theorem e_readAll {t : Nat → Int32} {e : Nat} {w nu0 pl0 : Int32} {wd0 : Int64} {nm rnm : Nat → Int64} {up uy tp se on ot ki ye sa rse ron rot rye rki run rma rtr : Nat → Int32} {csl csw cqc : Int32} (ht : byOK t) (he : e ≤ 800) : ∃ Q G Q', f_Parser_readAll (iI (e : Nat)) nm t up uy tp csl csw cqc se on ot ki ye sa = some Q ∧ f_M_goesOn t (iI (e : Nat)) 0 0 pl0 nu0 wd0 = some G ∧ f_M_readAll t (iI (e : Nat)) G.1 G.2.1 G.2.2.1 G.2.2.2.1 0 w G.2.2.2.2 0 0 0 0 0 0 0 0 0 0 rse ron rot rye rki run rma rtr rnm = some Q' ∧ (fnR e w 0 Q Q' ∨ bad3 Q.1 Q.2.2.1 Q.2.2.2.1 Q'.2.1 Q'.2.2.2.2.1 Q'.2.2.2.2.2.1) := by
  obtain ⟨C, G, g1, g2, g3⟩ := e_step0 (e := e) (a := 0) (so := 0) (pl := pl0) (nu := nu0) (wd := wd0) ht he (by omega) (by decide)
  obtain ⟨Q, Q', q1, q2, q3⟩ := e_raL (w := w) (g := 0) ht he (e + 1) 0 0 fu fu _ _ (lnR_i (nm := nm) (rnm := rnm) (up := up) (uy := uy) (tp := tp) (se := se) (on := on) (ot := ot) (ki := ki) (ye := ye) (sa := sa) (rse := rse) (ron := ron) (rot := rot) (rye := rye) (rki := rki) (run := run) (rma := rma) (rtr := rtr) (csl := csl) (csw := csw) (cqc := cqc) (rsl := 0) (rsw := 0) (rqc := 0) (S := z0) (O := z0) (T := z0) (K := z0) (Y := z0) (U := z0) (M := z0) (R := z0) (ns := 0) (p := 0) (n := 0) (fb := 0) (u := 0) (r := 0) (fd := 0) g3 ⟨fun i hi => by omega, ⟨fun i hi => by omega, fun i hi => by omega, fun i hi => by omega, fun i hi => by omega, fun i hi => by omega, fun i hi => by omega⟩, ⟨fun i hi => by omega, fun i hi => by omega, fun i hi => by omega, fun i hi => by omega, fun i hi => by omega⟩, fun i hi => by omega, fun i hi => by omega, ⟨by omega, by omega, by omega, by omega, by decide, by decide, by omega⟩, fun i hi => by omega, fun i j hi => by omega, ⟨fun i hi => by omega, fun i j hi => by omega⟩, fun i hi => by omega, fun _ => ⟨rfl, rfl, rfl, rfl, rfl⟩, fun hh => absurd rfl hh⟩) (by omega) (by omega) (by have := fu_big; omega) (by have := fu_big; omega)
  refine ⟨Q, G, Q', ?_, g2, ?_, q3⟩
  · unfold f_Parser_readAll f_Board_clear f_Reader_begin
    rw [bd_some, if_neg (show ¬ (800 : Int32) < iI (e : Nat) by rw [show (800 : Int32) = iI 800 from rfl, iI_lt] <;> omega), lt_eq, show f_Reader_step t (iI (e : Nat)) 0 = _ from g1, bd_some, bd_some]
    rw [show f_Parser_readAll_L27 (iI (e : Nat)) t (iI (e : Nat)) 0 fu 0 nm 0 (-1) C.1 C.2.1 C.2.2.1 C.2.2.2.1 C.2.2.2.2 up uy tp 0 csl csw cqc 0 0 0 0 0 se on ot ki ye sa 0 = _ from q1, bd_some]
    rfl
  · unfold f_M_readAll
    exact q2
