/-! a line, on both sides -/
abbrev CB : Type := (Nat → Int64) × Int32 × Int32 × Int32 × Int32 × Int32 × Int32 × Int64 × (Nat → Int32) × (Nat → Int32) × (Nat → Int32) × Int32 × Int32 × Int32 × Int32 × Int32 × Int32 × Int32 × Int32 × Int32 × (Nat → Int32) × (Nat → Int32) × (Nat → Int32) × (Nat → Int32) × (Nat → Int32) × (Nat → Int32) × Int32
abbrev MB : Type := Int32 × Int32 × Int32 × Int32 × Int32 × Int32 × Int64 × Int32 × Int32 × Int32 × Int32 × Int32 × Int32 × Int32 × Int32 × Int32 × Int32 × (Nat → Int32) × (Nat → Int32) × (Nat → Int32) × (Nat → Int32) × (Nat → Int32) × (Nat → Int32) × (Nat → Int32) × (Nat → Int32) × (Nat → Int64)
def lnR (e lo : Nat) (w : Int32) (c : CB) (m : MB) : Prop := ∃ (nx so st va : Int32) (wd : Int64) (sp so' pl nu : Int32) (wd' : Int64) (nm rnm : Nat → Int64) (up uy tp se on ot ki ye sa rse ron rot rye rki run rma rtr : Nat → Int32) (csl csw cqc rsl rsw rqc : Int32) (S O T K Y U M R : Nat → Nat) (ns p n fb u r fd : Nat), c = (nm, 0, -1, nx, so, st, va, wd, up, uy, tp, iI (ns : Nat), csl, csw, cqc, iI (p : Nat), iI (fb : Nat), iI (u : Nat), iI (r : Nat), iI (fd : Nat), se, on, ot, ki, ye, sa, iI (n : Nat)) ∧ m = (sp, so', pl, nu, 0, w, wd', iI (ns : Nat), rsl, rsw, rqc, iI (p : Nat), iI (n : Nat), iI (fb : Nat), iI (u : Nat), iI (r : Nat), iI (fd : Nat), rse, ron, rot, rye, rki, run, rma, rtr, rnm) ∧ tkR e lo nx so st va wd sp so' pl nu wd' ∧ bX nm rnm up uy tp se on ot ki ye sa rse ron rot rye rki run rma rtr csl csw cqc rsl rsw rqc S O T K Y U M R ns p n fb u r fd
theorem lnR_i {e lo : Nat} {w nx so st va : Int32} {wd : Int64} {sp so' pl nu : Int32} {wd' : Int64} {nm rnm : Nat → Int64} {up uy tp se on ot ki ye sa rse ron rot rye rki run rma rtr : Nat → Int32} {csl csw cqc rsl rsw rqc : Int32} {S O T K Y U M R : Nat → Nat} {ns p n fb u r fd : Nat} (h : tkR e lo nx so st va wd sp so' pl nu wd') (b : bX nm rnm up uy tp se on ot ki ye sa rse ron rot rye rki run rma rtr csl csw cqc rsl rsw rqc S O T K Y U M R ns p n fb u r fd) : lnR e lo w (nm, 0, -1, nx, so, st, va, wd, up, uy, tp, iI (ns : Nat), csl, csw, cqc, iI (p : Nat), iI (fb : Nat), iI (u : Nat), iI (r : Nat), iI (fd : Nat), se, on, ot, ki, ye, sa, iI (n : Nat)) (sp, so', pl, nu, 0, w, wd', iI (ns : Nat), rsl, rsw, rqc, iI (p : Nat), iI (n : Nat), iI (fb : Nat), iI (u : Nat), iI (r : Nat), iI (fd : Nat), rse, ron, rot, rye, rki, run, rma, rtr, rnm) := ⟨nx, so, st, va, wd, sp, so', pl, nu, wd', nm, rnm, up, uy, tp, se, on, ot, ki, ye, sa, rse, ron, rot, rye, rki, run, rma, rtr, csl, csw, cqc, rsl, rsw, rqc, S, O, T, K, Y, U, M, R, ns, p, n, fb, u, r, fd, rfl, rfl, h, b⟩
theorem q_full1 {p : Nat} (hp : p ≤ 5) (a b c d : Int32) : f_Parser_isFull 1 (iI (p : Nat)) a b c d = some (if p < 5 then 0 else 1) := by
  unfold f_Parser_isFull
  rw [if_pos rfl]
  by_cases c : p < 5
  · rw [if_pos (show iI (p : Nat) < 5 by rw [i_5, iI_lt] <;> omega), if_pos c]
  · rw [if_neg (show ¬ iI (p : Nat) < 5 by rw [i_5, iI_lt] <;> omega), if_neg c]
theorem q_full2 {p : Nat} (hp : p < 1024) (a b c d : Int32) : f_Parser_isFull 2 a (iI (p : Nat)) b c d = some (if pc10 p < 4 then 0 else 1) := by
  unfold f_Parser_isFull
  have h10 : pc10 p ≤ 10 := pc10_le p hp
  rw [if_neg (show ¬ (2 : Int32) = 1 by decide), if_pos rfl, q_bitCount_d p hp, bd_some]
  by_cases c : pc10 p < 4
  · rw [if_pos (show iI ((pc10 p : Nat) : Int) < 4 by rw [i_4, iI_lt] <;> omega), if_pos c]
  · rw [if_neg (show ¬ iI ((pc10 p : Nat) : Int) < 4 by rw [i_4, iI_lt] <;> omega), if_neg c]
theorem q_full3 {p : Nat} (hp : p ≤ 10) (a b c d : Int32) : f_Parser_isFull 3 a b c d (iI (p : Nat)) = some (if p < 10 then 0 else 1) := by
  unfold f_Parser_isFull
  rw [if_neg (show ¬ (3 : Int32) = 1 by decide), if_neg (show ¬ (3 : Int32) = 2 by decide), if_pos rfl]
  by_cases c : p < 10
  · rw [if_pos (show iI (p : Nat) < 10 by rw [i_10, iI_lt] <;> omega), if_pos c]
  · rw [if_neg (show ¬ iI (p : Nat) < 10 by rw [i_10, iI_lt] <;> omega), if_neg c]
theorem q_full4 {p : Nat} (hp : p ≤ 4) (a b c d : Int32) : f_Parser_isFull 4 a b (iI (p : Nat)) c d = some (if p < 4 then 0 else 1) := by
  unfold f_Parser_isFull
  rw [if_neg (show ¬ (4 : Int32) = 1 by decide), if_neg (show ¬ (4 : Int32) = 2 by decide), if_neg (show ¬ (4 : Int32) = 3 by decide), if_pos rfl]
  by_cases c : p < 4
  · rw [if_pos (show iI (p : Nat) < 4 by rw [i_4, iI_lt] <;> omega), if_pos c]
  · rw [if_neg (show ¬ iI (p : Nat) < 4 by rw [i_4, iI_lt] <;> omega), if_neg c]
theorem q_full5 {p : Nat} (hp : p ≤ 6) (a b c d : Int32) : f_Parser_isFull 5 a b c (iI (p : Nat)) d = some (if p < 6 then 0 else 1) := by
  unfold f_Parser_isFull
  rw [if_neg (show ¬ (5 : Int32) = 1 by decide), if_neg (show ¬ (5 : Int32) = 2 by decide), if_neg (show ¬ (5 : Int32) = 3 by decide), if_neg (show ¬ (5 : Int32) = 4 by decide), if_pos rfl]
  by_cases c : p < 6
  · rw [if_pos (show iI (p : Nat) < 6 by rw [i_6, iI_lt] <;> omega), if_pos c]
  · rw [if_neg (show ¬ iI (p : Nat) < 6 by rw [i_6, iI_lt] <;> omega), if_neg c]
section
variable {e lo : Nat} {w nx so st va : Int32} {wd : Int64} {sp so' pl nu : Int32} {wd' : Int64} {t : Nat → Int32} {nm rnm : Nat → Int64} {up uy tp se on ot ki ye sa rse ron rot rye rki run rma rtr : Nat → Int32} {csl csw cqc rsl rsw rqc : Int32} {S O T K Y U M R : Nat → Nat} {ns p n fb u r fd : Nat}
theorem e_rl0 (ht : byOK t) (he : e ≤ 800) (hw : wd = 499850046565) (h : tkR e lo nx so st va wd sp so' pl nu wd') (b : bX nm rnm up uy tp se on ot ki ye sa rse ron rot rye rki run rma rtr csl csw cqc rsl rsw rqc S O T K Y U M R ns p n fb u r fd) : (∃ c m, f_Parser_readLine nm 0 (-1) t (iI (e : Nat)) nx so st va wd up uy tp (iI (ns : Nat)) csl csw cqc (iI (p : Nat)) (iI (fb : Nat)) (iI (u : Nat)) (iI (r : Nat)) (iI (fd : Nat)) se on ot ki ye sa (iI (n : Nat)) = some (1, c) ∧ f_M_readLine t (iI (e : Nat)) sp so' pl nu 0 w wd' (iI (ns : Nat)) rsl rsw rqc (iI (p : Nat)) (iI (n : Nat)) (iI (fb : Nat)) (iI (u : Nat)) (iI (r : Nat)) (iI (fd : Nat)) rse ron rot rye rki run rma rtr rnm = some m ∧ lnR e lo w c m) ∨ (∃ Q Q', f_Parser_readLine nm 0 (-1) t (iI (e : Nat)) nx so st va wd up uy tp (iI (ns : Nat)) csl csw cqc (iI (p : Nat)) (iI (fb : Nat)) (iI (u : Nat)) (iI (r : Nat)) (iI (fd : Nat)) se on ot ki ye sa (iI (n : Nat)) = some Q ∧ f_M_readLine t (iI (e : Nat)) sp so' pl nu 0 w wd' (iI (ns : Nat)) rsl rsw rqc (iI (p : Nat)) (iI (n : Nat)) (iI (fb : Nat)) (iI (u : Nat)) (iI (r : Nat)) (iI (fd : Nat)) rse ron rot rye rki run rma rtr rnm = some Q' ∧ bad3 Q.1 Q.2.2.1 Q.2.2.2.1 Q'.2.1 Q'.2.2.2.2.1 Q'.2.2.2.2.2.1) := by
  subst hw
  have h5 := tk_5 h
  have hpl := tk_pl h
  subst hpl
  have b0 := b
  obtain ⟨b1, ⟨d1, d2, d3, d4, d5, d6⟩, ⟨f1, f2, f3, f4, f5⟩, b4, b5, ⟨b6, b7, b8, b9, b10, b11, b12⟩, b13, b14, b15, b16, b17, b18⟩ := b
  have n10 := pok_10 b6 b15
  unfold f_Parser_readLine f_M_readLine
  rw [q_use, bd_some, show iI ((useN 499850046565 : Nat) : Int) = (0 : Int32) from by decide, if_pos (show (0 : Int32) < 6 by decide), r_isWord h kw_table, bd_some, if_pos rfl, if_neg (show ¬ (1 : Int32) = 0 by decide)]
  by_cases z : ns = 0
  · subst z
    rw [if_pos (show iI ((0 : Nat) : Int) ≤ 0 by decide), bd_some, if_pos rfl, if_pos rfl, bd_some, if_pos rfl, if_pos rfl, bd_some, if_pos rfl, show f_Parser_isFull 0 (iI (p : Nat)) (iI (fb : Nat)) (iI (u : Nat)) (iI (r : Nat)) (iI (n : Nat)) = some 0 from rfl, bd_some, if_pos rfl]
    obtain ⟨nx1, so1, st1, va1, wd1, sp1, so1', pl1, nu1, wd1', s1, s2, s3, -⟩ := e_stp ht he h
    rw [s1, bd_some, if_pos rfl]
    rcases e_tableL (fn := 0) (fp := -1) (f := 0) (w := w) (a1 := iI ((0 : Nat) : Int)) (a2 := csl) (a3 := csw) (a4 := cqc) (b2 := rsl) (b3 := rsw) (b4 := rqc) ht he s2 s3 with ⟨ns, sl, sw, qc, nx2, so2, st2, va2, wd2, sp2, so2', pl2, nu2, wd2', v1, v2, v3, v4⟩ | ⟨Q, Q', v1, v2, v3⟩
    · rw [v2, bd_some, show f_M_readTable t (iI (e : Nat)) sp so' pl nu 0 w wd' (iI ((0 : Nat) : Int)) rsl rsw rqc = _ from v3, bd_some]
      exact Or.inl ⟨_, _, rfl, rfl, lnR_i v4 (bX_table b0 v1)⟩
    · rw [v1, bd_some, show f_M_readTable t (iI (e : Nat)) sp so' pl nu 0 w wd' (iI ((0 : Nat) : Int)) rsl rsw rqc = _ from v2, bd_some]
      exact Or.inr ⟨_, _, rfl, rfl, v3⟩
  · have hs : ¬ iI (ns : Nat) ≤ 0 := by rw [i_0, iI_le] <;> omega
    rw [if_neg hs, bd_some, if_pos rfl, if_neg (show ¬ (1 : Int32) = 0 by decide), bd_some, if_neg Bool.false_ne_true, o_table h5 hs, bd_some]
    exact Or.inr ⟨_, _, rfl, rfl, rfl, rfl, (by decide : (0 : Int32) < 3), rfl, rfl⟩
theorem e_rl1 (ht : byOK t) (he : e ≤ 800) (hw : wd = 123581014175598) (h : tkR e lo nx so st va wd sp so' pl nu wd') (b : bX nm rnm up uy tp se on ot ki ye sa rse ron rot rye rki run rma rtr csl csw cqc rsl rsw rqc S O T K Y U M R ns p n fb u r fd) : (∃ c m, f_Parser_readLine nm 0 (-1) t (iI (e : Nat)) nx so st va wd up uy tp (iI (ns : Nat)) csl csw cqc (iI (p : Nat)) (iI (fb : Nat)) (iI (u : Nat)) (iI (r : Nat)) (iI (fd : Nat)) se on ot ki ye sa (iI (n : Nat)) = some (1, c) ∧ f_M_readLine t (iI (e : Nat)) sp so' pl nu 0 w wd' (iI (ns : Nat)) rsl rsw rqc (iI (p : Nat)) (iI (n : Nat)) (iI (fb : Nat)) (iI (u : Nat)) (iI (r : Nat)) (iI (fd : Nat)) rse ron rot rye rki run rma rtr rnm = some m ∧ lnR e lo w c m) ∨ (∃ Q Q', f_Parser_readLine nm 0 (-1) t (iI (e : Nat)) nx so st va wd up uy tp (iI (ns : Nat)) csl csw cqc (iI (p : Nat)) (iI (fb : Nat)) (iI (u : Nat)) (iI (r : Nat)) (iI (fd : Nat)) se on ot ki ye sa (iI (n : Nat)) = some Q ∧ f_M_readLine t (iI (e : Nat)) sp so' pl nu 0 w wd' (iI (ns : Nat)) rsl rsw rqc (iI (p : Nat)) (iI (n : Nat)) (iI (fb : Nat)) (iI (u : Nat)) (iI (r : Nat)) (iI (fd : Nat)) rse ron rot rye rki run rma rtr rnm = some Q' ∧ bad3 Q.1 Q.2.2.1 Q.2.2.2.1 Q'.2.1 Q'.2.2.2.2.1 Q'.2.2.2.2.2.1) := by
  subst hw
  have h5 := tk_5 h
  have hpl := tk_pl h
  subst hpl
  have b0 := b
  obtain ⟨b1, ⟨d1, d2, d3, d4, d5, d6⟩, ⟨f1, f2, f3, f4, f5⟩, b4, b5, ⟨b6, b7, b8, b9, b10, b11, b12⟩, b13, b14, b15, b16, b17, b18⟩ := b
  have n10 := pok_10 b6 b15
  unfold f_Parser_readLine f_M_readLine
  rw [q_use, bd_some, show iI ((useN 123581014175598 : Nat) : Int) = (1 : Int32) from by decide, if_pos (show (1 : Int32) < 6 by decide), r_isWord h kw_table, bd_some, if_neg (show ¬ (123581014175598 : Int64) = 499850046565 by decide), if_pos rfl, r_isWord h kw_person, bd_some, if_pos rfl, if_neg (show ¬ (1 : Int32) = 0 by decide)]
  by_cases z : ns = 0
  · have zz := b17 z
    rw [if_pos (show iI (ns : Nat) ≤ 0 by rw [z]; decide), bd_some, if_neg (show ¬ (1 : Int32) = 0 by decide), bd_some, if_pos rfl, if_neg (show ¬ (1 : Int32) = 0 by decide), if_pos rfl, bd_some, if_neg Bool.false_ne_true, o_person b6 (lb_lacks (show ¬ iI (p : Nat) = 5 by rw [i_5, iI_eq] <;> omega) (by rw [z]; rfl) h5), bd_some]
    exact Or.inr ⟨_, _, rfl, rfl, rfl, rfl, (by decide : (0 : Int32) < 6), rfl, rfl⟩
  · have z2 := (b18 z).1
    have hs : ¬ iI (ns : Nat) ≤ 0 := by rw [i_0, iI_le] <;> omega
    have hs0 : ¬ iI (ns : Nat) = 0 := by rw [i_0, iI_eq] <;> omega
    rw [if_neg hs, bd_some, if_neg (show ¬ (1 : Int32) = 0 by decide), bd_some, if_pos rfl, if_neg (show ¬ (1 : Int32) = 0 by decide), if_neg (show ¬ (1 : Int32) = 0 by decide), bd_some, if_pos rfl, q_full1 b6, bd_some]
    by_cases y : p < 5
    · rw [if_pos y, if_pos rfl]
      obtain ⟨nx1, so1, st1, va1, wd1, sp1, so1', pl1, nu1, wd1', s1, s2, s3, -⟩ := e_stp ht he h
      rw [s1, bd_some, if_neg (show ¬ (1 : Int32) = 0 by decide), if_pos rfl]
      rcases e_personL (fn := 0) (fp := -1) (f := 0) (w := w) ht he (by omega) b12 y b13 b1 d1 f1 s2 s3 with ⟨v, nx2, so2, st2, va2, wd2, sp2, so2', pl2, nu2, wd2', v1, v2, v3, v4, v5, v6⟩ | ⟨Q, Q', v1, v2, v3⟩
      · rw [v4, v5, bd_some, bd_some]
        exact Or.inl ⟨_, _, rfl, rfl, lnR_i v6 (bX_person b0 y v1 v2 v3)⟩
      · rw [v1, v2, bd_some, bd_some]
        exact Or.inr ⟨_, _, rfl, rfl, v3⟩
    · have e1 : iI (p : Nat) = 5 := by rw [i_5]; exact congrArg iI (by omega)
      rw [if_neg y, if_neg (show ¬ (1 : Int32) = 0 by decide), o_person b6 (lb_full e1 h5), bd_some]
      exact Or.inr ⟨_, _, rfl, rfl, rfl, rfl, (by decide : (0 : Int32) < 5), rfl, rfl⟩
theorem e_rl2 (ht : byOK t) (he : e ≤ 800) (hw : wd = 1718579819) (h : tkR e lo nx so st va wd sp so' pl nu wd') (b : bX nm rnm up uy tp se on ot ki ye sa rse ron rot rye rki run rma rtr csl csw cqc rsl rsw rqc S O T K Y U M R ns p n fb u r fd) : (∃ c m, f_Parser_readLine nm 0 (-1) t (iI (e : Nat)) nx so st va wd up uy tp (iI (ns : Nat)) csl csw cqc (iI (p : Nat)) (iI (fb : Nat)) (iI (u : Nat)) (iI (r : Nat)) (iI (fd : Nat)) se on ot ki ye sa (iI (n : Nat)) = some (1, c) ∧ f_M_readLine t (iI (e : Nat)) sp so' pl nu 0 w wd' (iI (ns : Nat)) rsl rsw rqc (iI (p : Nat)) (iI (n : Nat)) (iI (fb : Nat)) (iI (u : Nat)) (iI (r : Nat)) (iI (fd : Nat)) rse ron rot rye rki run rma rtr rnm = some m ∧ lnR e lo w c m) ∨ (∃ Q Q', f_Parser_readLine nm 0 (-1) t (iI (e : Nat)) nx so st va wd up uy tp (iI (ns : Nat)) csl csw cqc (iI (p : Nat)) (iI (fb : Nat)) (iI (u : Nat)) (iI (r : Nat)) (iI (fd : Nat)) se on ot ki ye sa (iI (n : Nat)) = some Q ∧ f_M_readLine t (iI (e : Nat)) sp so' pl nu 0 w wd' (iI (ns : Nat)) rsl rsw rqc (iI (p : Nat)) (iI (n : Nat)) (iI (fb : Nat)) (iI (u : Nat)) (iI (r : Nat)) (iI (fd : Nat)) rse ron rot rye rki run rma rtr rnm = some Q' ∧ bad3 Q.1 Q.2.2.1 Q.2.2.2.1 Q'.2.1 Q'.2.2.2.2.1 Q'.2.2.2.2.2.1) := by
  subst hw
  have h5 := tk_5 h
  have hpl := tk_pl h
  subst hpl
  have b0 := b
  obtain ⟨b1, ⟨d1, d2, d3, d4, d5, d6⟩, ⟨f1, f2, f3, f4, f5⟩, b4, b5, ⟨b6, b7, b8, b9, b10, b11, b12⟩, b13, b14, b15, b16, b17, b18⟩ := b
  have n10 := pok_10 b6 b15
  unfold f_Parser_readLine f_M_readLine
  rw [q_use, bd_some, show iI ((useN 1718579819 : Nat) : Int) = (2 : Int32) from by decide, if_pos (show (2 : Int32) < 6 by decide), r_isWord h kw_table, bd_some, if_neg (show ¬ (1718579819 : Int64) = 499850046565 by decide), if_pos rfl, r_isWord h kw_person, bd_some, if_neg (show ¬ (1718579819 : Int64) = 123581014175598 by decide), if_pos rfl, r_isWord h kw_fork, bd_some, if_pos rfl, if_neg (show ¬ (1 : Int32) = 0 by decide)]
  have hb : fb < 1024 := Nat.lt_of_lt_of_le b10 (Nat.le_trans (Nat.pow_le_pow_right (by omega) b12) (by decide))
  by_cases z : ns = 0
  · have zz := b17 z
    rw [if_pos (show iI (ns : Nat) ≤ 0 by rw [z]; decide), bd_some, if_neg (show ¬ (2 : Int32) = 0 by decide), bd_some, if_pos rfl, if_neg (show ¬ (2 : Int32) = 0 by decide), if_pos rfl, bd_some, if_neg Bool.false_ne_true, o_fork (x := 0) hb (lb_lacks (show ¬ iI ((pc10 fb : Nat) : Int) = 4 by rw [zz.2.2.1]; decide) (by rw [z]; rfl) h5), bd_some]
    exact Or.inr ⟨_, _, rfl, rfl, rfl, rfl, (by decide : (0 : Int32) < 6), rfl, rfl⟩
  · have z2 := (b18 z).1
    have hs : ¬ iI (ns : Nat) ≤ 0 := by rw [i_0, iI_le] <;> omega
    have hs0 : ¬ iI (ns : Nat) = 0 := by rw [i_0, iI_eq] <;> omega
    rw [if_neg hs, bd_some, if_neg (show ¬ (2 : Int32) = 0 by decide), bd_some, if_pos rfl, if_neg (show ¬ (2 : Int32) = 0 by decide), if_neg (show ¬ (1 : Int32) = 0 by decide), bd_some, if_pos rfl, q_full2 hb, bd_some]
    by_cases y : pc10 fb < 4
    · rw [if_pos y, if_pos rfl]
      obtain ⟨nx1, so1, st1, va1, wd1, sp1, so1', pl1, nu1, wd1', s1, s2, s3, -⟩ := e_stp ht he h
      rw [s1, bd_some, if_neg (show ¬ (2 : Int32) = 0 by decide), if_neg (show ¬ (2 : Int32) = 1 by decide), if_pos rfl]
      rcases e_forkL (fn := 0) (fp := -1) (f := 0) (w := w) ht he (by omega) b12 b10 y s2 s3 with ⟨v, nx2, so2, st2, va2, wd2, sp2, so2', pl2, nu2, wd2', v1, v2, v4, v5, v6⟩ | ⟨Q, Q', v1, v2, v3⟩
      · rw [v4, v5, bd_some, bd_some]
        exact Or.inl ⟨_, _, rfl, rfl, lnR_i v6 (bX_fork b0 z v1 v2)⟩
      · rw [v1, v2, bd_some, bd_some]
        exact Or.inr ⟨_, _, rfl, rfl, v3⟩
    · have e1 : iI ((pc10 fb : Nat) : Int) = 4 := by rw [i_4]; exact congrArg iI (by omega)
      rw [if_neg y, if_neg (show ¬ (1 : Int32) = 0 by decide), o_fork (x := 0) hb (lb_full e1 h5), bd_some]
      exact Or.inr ⟨_, _, rfl, rfl, rfl, rfl, (by decide : (0 : Int32) < 5), rfl, rfl⟩
theorem e_rl3 (ht : byOK t) (he : e ≤ 800) (hw : wd = 461414299502) (h : tkR e lo nx so st va wd sp so' pl nu wd') (b : bX nm rnm up uy tp se on ot ki ye sa rse ron rot rye rki run rma rtr csl csw cqc rsl rsw rqc S O T K Y U M R ns p n fb u r fd) : (∃ c m, f_Parser_readLine nm 0 (-1) t (iI (e : Nat)) nx so st va wd up uy tp (iI (ns : Nat)) csl csw cqc (iI (p : Nat)) (iI (fb : Nat)) (iI (u : Nat)) (iI (r : Nat)) (iI (fd : Nat)) se on ot ki ye sa (iI (n : Nat)) = some (1, c) ∧ f_M_readLine t (iI (e : Nat)) sp so' pl nu 0 w wd' (iI (ns : Nat)) rsl rsw rqc (iI (p : Nat)) (iI (n : Nat)) (iI (fb : Nat)) (iI (u : Nat)) (iI (r : Nat)) (iI (fd : Nat)) rse ron rot rye rki run rma rtr rnm = some m ∧ lnR e lo w c m) ∨ (∃ Q Q', f_Parser_readLine nm 0 (-1) t (iI (e : Nat)) nx so st va wd up uy tp (iI (ns : Nat)) csl csw cqc (iI (p : Nat)) (iI (fb : Nat)) (iI (u : Nat)) (iI (r : Nat)) (iI (fd : Nat)) se on ot ki ye sa (iI (n : Nat)) = some Q ∧ f_M_readLine t (iI (e : Nat)) sp so' pl nu 0 w wd' (iI (ns : Nat)) rsl rsw rqc (iI (p : Nat)) (iI (n : Nat)) (iI (fb : Nat)) (iI (u : Nat)) (iI (r : Nat)) (iI (fd : Nat)) rse ron rot rye rki run rma rtr rnm = some Q' ∧ bad3 Q.1 Q.2.2.1 Q.2.2.2.1 Q'.2.1 Q'.2.2.2.2.1 Q'.2.2.2.2.2.1) := by
  subst hw
  have h5 := tk_5 h
  have hpl := tk_pl h
  subst hpl
  have b0 := b
  obtain ⟨b1, ⟨d1, d2, d3, d4, d5, d6⟩, ⟨f1, f2, f3, f4, f5⟩, b4, b5, ⟨b6, b7, b8, b9, b10, b11, b12⟩, b13, b14, b15, b16, b17, b18⟩ := b
  have n10 := pok_10 b6 b15
  unfold f_Parser_readLine f_M_readLine
  rw [q_use, bd_some, show iI ((useN 461414299502 : Nat) : Int) = (3 : Int32) from by decide, if_pos (show (3 : Int32) < 6 by decide), r_isWord h kw_table, bd_some, if_neg (show ¬ (461414299502 : Int64) = 499850046565 by decide), if_pos rfl, r_isWord h kw_person, bd_some, if_neg (show ¬ (461414299502 : Int64) = 123581014175598 by decide), if_pos rfl, r_isWord h kw_fork, bd_some, if_neg (show ¬ (461414299502 : Int64) = 1718579819 by decide), if_pos rfl, r_isWord h kw_known, bd_some, if_pos rfl, if_neg (show ¬ (1 : Int32) = 0 by decide)]
  by_cases z : ns = 0
  · have zz := b17 z
    rw [if_pos (show iI (ns : Nat) ≤ 0 by rw [z]; decide), bd_some, if_neg (show ¬ (3 : Int32) = 0 by decide), bd_some, if_pos rfl, if_neg (show ¬ (3 : Int32) = 0 by decide), if_pos rfl, bd_some, if_neg Bool.false_ne_true, o_known b6 (lb_lacks (show ¬ iI (n : Nat) = 10 by rw [i_10, iI_eq] <;> omega) (by rw [z]; rfl) h5), bd_some]
    exact Or.inr ⟨_, _, rfl, rfl, rfl, rfl, (by decide : (0 : Int32) < 6), rfl, rfl⟩
  · have z2 := (b18 z).1
    have hs : ¬ iI (ns : Nat) ≤ 0 := by rw [i_0, iI_le] <;> omega
    have hs0 : ¬ iI (ns : Nat) = 0 := by rw [i_0, iI_eq] <;> omega
    rw [if_neg hs, bd_some, if_neg (show ¬ (3 : Int32) = 0 by decide), bd_some, if_pos rfl, if_neg (show ¬ (3 : Int32) = 0 by decide), if_neg (show ¬ (1 : Int32) = 0 by decide), bd_some, if_pos rfl, q_full3 n10, bd_some]
    by_cases y : n < 10
    · rw [if_pos y, if_pos rfl]
      obtain ⟨nx1, so1, st1, va1, wd1, sp1, so1', pl1, nu1, wd1', s1, s2, s3, -⟩ := e_stp ht he h
      rw [s1, bd_some, if_neg (show ¬ (3 : Int32) = 0 by decide), if_neg (show ¬ (3 : Int32) = 1 by decide), if_neg (show ¬ (3 : Int32) = 2 by decide), if_pos rfl]
      rcases e_knownL (ki := ki) (ye := ye) (sa := sa) (rye := rye) (rki := rki) (fn := 0) (fp := -1) (f := 0) (w := w) ht he hs0 b6 y b1 d2 d3 f2 f3 b15.1 s2 s3 with ⟨a, c, y', k, nx2, so2, st2, va2, wd2, sp2, so2', pl2, nu2, wd2', v1, v2, v3, v4, v5, v6, v7, v8, v9⟩ | ⟨Q, Q', v1, v2, v3⟩
      · rw [v7, v8, bd_some, bd_some]
        exact Or.inl ⟨_, _, rfl, rfl, lnR_i v9 (bX_known b0 z v1 v2 v3 v4 v5 v6)⟩
      · rw [v1, v2, bd_some, bd_some]
        exact Or.inr ⟨_, _, rfl, rfl, v3⟩
    · have e1 : iI (n : Nat) = 10 := by rw [i_10]; exact congrArg iI (by omega)
      rw [if_neg y, if_neg (show ¬ (1 : Int32) = 0 by decide), o_known b6 (lb_full e1 h5), bd_some]
      exact Or.inr ⟨_, _, rfl, rfl, rfl, rfl, (by decide : (0 : Int32) < 5), rfl, rfl⟩
theorem e_rl4 (ht : byOK t) (he : e ≤ 800) (hw : wd = 129117243929189) (h : tkR e lo nx so st va wd sp so' pl nu wd') (b : bX nm rnm up uy tp se on ot ki ye sa rse ron rot rye rki run rma rtr csl csw cqc rsl rsw rqc S O T K Y U M R ns p n fb u r fd) : (∃ c m, f_Parser_readLine nm 0 (-1) t (iI (e : Nat)) nx so st va wd up uy tp (iI (ns : Nat)) csl csw cqc (iI (p : Nat)) (iI (fb : Nat)) (iI (u : Nat)) (iI (r : Nat)) (iI (fd : Nat)) se on ot ki ye sa (iI (n : Nat)) = some (1, c) ∧ f_M_readLine t (iI (e : Nat)) sp so' pl nu 0 w wd' (iI (ns : Nat)) rsl rsw rqc (iI (p : Nat)) (iI (n : Nat)) (iI (fb : Nat)) (iI (u : Nat)) (iI (r : Nat)) (iI (fd : Nat)) rse ron rot rye rki run rma rtr rnm = some m ∧ lnR e lo w c m) ∨ (∃ Q Q', f_Parser_readLine nm 0 (-1) t (iI (e : Nat)) nx so st va wd up uy tp (iI (ns : Nat)) csl csw cqc (iI (p : Nat)) (iI (fb : Nat)) (iI (u : Nat)) (iI (r : Nat)) (iI (fd : Nat)) se on ot ki ye sa (iI (n : Nat)) = some Q ∧ f_M_readLine t (iI (e : Nat)) sp so' pl nu 0 w wd' (iI (ns : Nat)) rsl rsw rqc (iI (p : Nat)) (iI (n : Nat)) (iI (fb : Nat)) (iI (u : Nat)) (iI (r : Nat)) (iI (fd : Nat)) rse ron rot rye rki run rma rtr rnm = some Q' ∧ bad3 Q.1 Q.2.2.1 Q.2.2.2.1 Q'.2.1 Q'.2.2.2.2.1 Q'.2.2.2.2.2.1) := by
  subst hw
  have h5 := tk_5 h
  have hpl := tk_pl h
  subst hpl
  have b0 := b
  obtain ⟨b1, ⟨d1, d2, d3, d4, d5, d6⟩, ⟨f1, f2, f3, f4, f5⟩, b4, b5, ⟨b6, b7, b8, b9, b10, b11, b12⟩, b13, b14, b15, b16, b17, b18⟩ := b
  have n10 := pok_10 b6 b15
  unfold f_Parser_readLine f_M_readLine
  rw [q_use, bd_some, show iI ((useN 129117243929189 : Nat) : Int) = (4 : Int32) from by decide, if_pos (show (4 : Int32) < 6 by decide), r_isWord h kw_table, bd_some, if_neg (show ¬ (129117243929189 : Int64) = 499850046565 by decide), if_pos rfl, r_isWord h kw_person, bd_some, if_neg (show ¬ (129117243929189 : Int64) = 123581014175598 by decide), if_pos rfl, r_isWord h kw_fork, bd_some, if_neg (show ¬ (129117243929189 : Int64) = 1718579819 by decide), if_pos rfl, r_isWord h kw_known, bd_some, if_neg (show ¬ (129117243929189 : Int64) = 461414299502 by decide), if_pos rfl, r_isWord h kw_unsure, bd_some, if_pos rfl, if_neg (show ¬ (1 : Int32) = 0 by decide)]
  by_cases z : ns = 0
  · have zz := b17 z
    rw [if_pos (show iI (ns : Nat) ≤ 0 by rw [z]; decide), bd_some, if_neg (show ¬ (4 : Int32) = 0 by decide), bd_some, if_pos rfl, if_neg (show ¬ (4 : Int32) = 0 by decide), if_pos rfl, bd_some, if_neg Bool.false_ne_true, o_unsure b6 (lb_lacks (show ¬ iI (u : Nat) = 4 by rw [i_4, iI_eq] <;> omega) (by rw [z]; rfl) h5), bd_some]
    exact Or.inr ⟨_, _, rfl, rfl, rfl, rfl, (by decide : (0 : Int32) < 6), rfl, rfl⟩
  · have z2 := (b18 z).1
    have hs : ¬ iI (ns : Nat) ≤ 0 := by rw [i_0, iI_le] <;> omega
    have hs0 : ¬ iI (ns : Nat) = 0 := by rw [i_0, iI_eq] <;> omega
    rw [if_neg hs, bd_some, if_neg (show ¬ (4 : Int32) = 0 by decide), bd_some, if_pos rfl, if_neg (show ¬ (4 : Int32) = 0 by decide), if_neg (show ¬ (1 : Int32) = 0 by decide), bd_some, if_pos rfl, q_full4 b7, bd_some]
    by_cases y : u < 4
    · rw [if_pos y, if_pos rfl]
      obtain ⟨nx1, so1, st1, va1, wd1, sp1, so1', pl1, nu1, wd1', s1, s2, s3, -⟩ := e_stp ht he h
      rw [s1, bd_some, if_neg (show ¬ (4 : Int32) = 0 by decide), if_neg (show ¬ (4 : Int32) = 1 by decide), if_neg (show ¬ (4 : Int32) = 2 by decide), if_neg (show ¬ (4 : Int32) = 3 by decide), if_pos rfl]
      rcases e_unsureL (uy := uy) (rma := rma) (fn := 0) (fp := -1) (f := 0) (w := w) ht he hs0 b6 n10 y b1 d2 d3 f2 f3 b15.1 (fun i hi => (b4 i hi).1) (fun i hi => (b4 i hi).2.2.1) (fun i hi => (b4 i hi).2.2.2.2.1) s2 s3 with ⟨k, v, nx2, so2, st2, va2, wd2, sp2, so2', pl2, nu2, wd2', v1, v2, v3, v4, v5⟩ | ⟨Q, Q', v1, v2, v3⟩
      · rw [v3, v4, bd_some, bd_some]
        exact Or.inl ⟨_, _, rfl, rfl, lnR_i v5 (bX_unsure b0 z y v1 v2)⟩
      · rw [v1, v2, bd_some, bd_some]
        exact Or.inr ⟨_, _, rfl, rfl, v3⟩
    · have e1 : iI (u : Nat) = 4 := by rw [i_4]; exact congrArg iI (by omega)
      rw [if_neg y, if_neg (show ¬ (1 : Int32) = 0 by decide), o_unsure b6 (lb_full e1 h5), bd_some]
      exact Or.inr ⟨_, _, rfl, rfl, rfl, rfl, (by decide : (0 : Int32) < 5), rfl, rfl⟩
theorem e_rl5 (ht : byOK t) (he : e ≤ 800) (hw : wd = 500135716196) (h : tkR e lo nx so st va wd sp so' pl nu wd') (b : bX nm rnm up uy tp se on ot ki ye sa rse ron rot rye rki run rma rtr csl csw cqc rsl rsw rqc S O T K Y U M R ns p n fb u r fd) : (∃ c m, f_Parser_readLine nm 0 (-1) t (iI (e : Nat)) nx so st va wd up uy tp (iI (ns : Nat)) csl csw cqc (iI (p : Nat)) (iI (fb : Nat)) (iI (u : Nat)) (iI (r : Nat)) (iI (fd : Nat)) se on ot ki ye sa (iI (n : Nat)) = some (1, c) ∧ f_M_readLine t (iI (e : Nat)) sp so' pl nu 0 w wd' (iI (ns : Nat)) rsl rsw rqc (iI (p : Nat)) (iI (n : Nat)) (iI (fb : Nat)) (iI (u : Nat)) (iI (r : Nat)) (iI (fd : Nat)) rse ron rot rye rki run rma rtr rnm = some m ∧ lnR e lo w c m) ∨ (∃ Q Q', f_Parser_readLine nm 0 (-1) t (iI (e : Nat)) nx so st va wd up uy tp (iI (ns : Nat)) csl csw cqc (iI (p : Nat)) (iI (fb : Nat)) (iI (u : Nat)) (iI (r : Nat)) (iI (fd : Nat)) se on ot ki ye sa (iI (n : Nat)) = some Q ∧ f_M_readLine t (iI (e : Nat)) sp so' pl nu 0 w wd' (iI (ns : Nat)) rsl rsw rqc (iI (p : Nat)) (iI (n : Nat)) (iI (fb : Nat)) (iI (u : Nat)) (iI (r : Nat)) (iI (fd : Nat)) rse ron rot rye rki run rma rtr rnm = some Q' ∧ bad3 Q.1 Q.2.2.1 Q.2.2.2.1 Q'.2.1 Q'.2.2.2.2.1 Q'.2.2.2.2.2.1) := by
  subst hw
  have h5 := tk_5 h
  have hpl := tk_pl h
  subst hpl
  have b0 := b
  obtain ⟨b1, ⟨d1, d2, d3, d4, d5, d6⟩, ⟨f1, f2, f3, f4, f5⟩, b4, b5, ⟨b6, b7, b8, b9, b10, b11, b12⟩, b13, b14, b15, b16, b17, b18⟩ := b
  have n10 := pok_10 b6 b15
  unfold f_Parser_readLine f_M_readLine
  rw [q_use, bd_some, show iI ((useN 500135716196 : Nat) : Int) = (5 : Int32) from by decide, if_pos (show (5 : Int32) < 6 by decide), r_isWord h kw_table, bd_some, if_neg (show ¬ (500135716196 : Int64) = 499850046565 by decide), if_pos rfl, r_isWord h kw_person, bd_some, if_neg (show ¬ (500135716196 : Int64) = 123581014175598 by decide), if_pos rfl, r_isWord h kw_fork, bd_some, if_neg (show ¬ (500135716196 : Int64) = 1718579819 by decide), if_pos rfl, r_isWord h kw_known, bd_some, if_neg (show ¬ (500135716196 : Int64) = 461414299502 by decide), if_pos rfl, r_isWord h kw_unsure, bd_some, if_neg (show ¬ (500135716196 : Int64) = 129117243929189 by decide), if_pos rfl, r_isWord h kw_tried, bd_some, if_pos rfl, if_neg (show ¬ (1 : Int32) = 0 by decide)]
  by_cases z : ns = 0
  · have zz := b17 z
    rw [if_pos (show iI (ns : Nat) ≤ 0 by rw [z]; decide), bd_some, if_neg (show ¬ (5 : Int32) = 0 by decide), bd_some, if_pos rfl, if_neg (show ¬ (5 : Int32) = 0 by decide), if_pos rfl, bd_some, if_neg Bool.false_ne_true, o_tried b6 (lb_lacks (show ¬ iI (r : Nat) = 6 by rw [i_6, iI_eq] <;> omega) (by rw [z]; rfl) h5), bd_some]
    exact Or.inr ⟨_, _, rfl, rfl, rfl, rfl, (by decide : (0 : Int32) < 6), rfl, rfl⟩
  · have z2 := (b18 z).1
    have hs : ¬ iI (ns : Nat) ≤ 0 := by rw [i_0, iI_le] <;> omega
    have hs0 : ¬ iI (ns : Nat) = 0 := by rw [i_0, iI_eq] <;> omega
    rw [if_neg hs, bd_some, if_neg (show ¬ (5 : Int32) = 0 by decide), bd_some, if_pos rfl, if_neg (show ¬ (5 : Int32) = 0 by decide), if_neg (show ¬ (1 : Int32) = 0 by decide), bd_some, if_pos rfl, q_full5 b8, bd_some]
    by_cases y : r < 6
    · rw [if_pos y, if_pos rfl]
      obtain ⟨nx1, so1, st1, va1, wd1, sp1, so1', pl1, nu1, wd1', s1, s2, s3, -⟩ := e_stp ht he h
      rw [s1, bd_some, if_neg (show ¬ (5 : Int32) = 0 by decide), if_neg (show ¬ (5 : Int32) = 1 by decide), if_neg (show ¬ (5 : Int32) = 2 by decide), if_neg (show ¬ (5 : Int32) = 3 by decide), if_neg (show ¬ (5 : Int32) = 4 by decide)]
      rcases e_triedL (fn := 0) (fp := -1) (f := 0) (w := w) b9 ht he hs0 b6 n10 y b1 d2 d3 f2 f3 b15.1 (fun i hi => (b5 i hi).1) (fun i hi => (b5 i hi).2.1) (fun i hi => (b5 i hi).2.2) s2 s3 with ⟨k, v, nx2, so2, st2, va2, wd2, sp2, so2', pl2, nu2, wd2', v1, v2, v3, v4, v5⟩ | ⟨Q, Q', v1, v2, v3⟩
      · rw [v3, v4, bd_some, bd_some]
        exact Or.inl ⟨_, _, rfl, rfl, lnR_i v5 (bX_tried b0 z y v1 v2)⟩
      · rw [v1, v2, bd_some, bd_some]
        exact Or.inr ⟨_, _, rfl, rfl, v3⟩
    · have e1 : iI (r : Nat) = 6 := by rw [i_6]; exact congrArg iI (by omega)
      rw [if_neg y, if_neg (show ¬ (1 : Int32) = 0 by decide), o_tried b6 (lb_full e1 h5), bd_some]
      exact Or.inr ⟨_, _, rfl, rfl, rfl, rfl, (by decide : (0 : Int32) < 5), rfl, rfl⟩
theorem e_rl (ht : byOK t) (he : e ≤ 800) (h : tkR e lo nx so st va wd sp so' pl nu wd') (b : bX nm rnm up uy tp se on ot ki ye sa rse ron rot rye rki run rma rtr csl csw cqc rsl rsw rqc S O T K Y U M R ns p n fb u r fd) : (∃ c m, f_Parser_readLine nm 0 (-1) t (iI (e : Nat)) nx so st va wd up uy tp (iI (ns : Nat)) csl csw cqc (iI (p : Nat)) (iI (fb : Nat)) (iI (u : Nat)) (iI (r : Nat)) (iI (fd : Nat)) se on ot ki ye sa (iI (n : Nat)) = some (1, c) ∧ f_M_readLine t (iI (e : Nat)) sp so' pl nu 0 w wd' (iI (ns : Nat)) rsl rsw rqc (iI (p : Nat)) (iI (n : Nat)) (iI (fb : Nat)) (iI (u : Nat)) (iI (r : Nat)) (iI (fd : Nat)) rse ron rot rye rki run rma rtr rnm = some m ∧ lnR e lo w c m) ∨ (∃ Q Q', f_Parser_readLine nm 0 (-1) t (iI (e : Nat)) nx so st va wd up uy tp (iI (ns : Nat)) csl csw cqc (iI (p : Nat)) (iI (fb : Nat)) (iI (u : Nat)) (iI (r : Nat)) (iI (fd : Nat)) se on ot ki ye sa (iI (n : Nat)) = some Q ∧ f_M_readLine t (iI (e : Nat)) sp so' pl nu 0 w wd' (iI (ns : Nat)) rsl rsw rqc (iI (p : Nat)) (iI (n : Nat)) (iI (fb : Nat)) (iI (u : Nat)) (iI (r : Nat)) (iI (fd : Nat)) rse ron rot rye rki run rma rtr rnm = some Q' ∧ bad3 Q.1 Q.2.2.1 Q.2.2.2.1 Q'.2.1 Q'.2.2.2.2.1 Q'.2.2.2.2.2.1) := by
  by_cases c0 : wd = 499850046565
  · exact e_rl0 ht he c0 h b
  by_cases c1 : wd = 123581014175598
  · exact e_rl1 ht he c1 h b
  by_cases c2 : wd = 1718579819
  · exact e_rl2 ht he c2 h b
  by_cases c3 : wd = 461414299502
  · exact e_rl3 ht he c3 h b
  by_cases c4 : wd = 129117243929189
  · exact e_rl4 ht he c4 h b
  by_cases c5 : wd = 500135716196
  · exact e_rl5 ht he c5 h b
  have h5 := tk_5 h
  have hpl := tk_pl h
  subst hpl
  have hu : 6 ≤ useN wd ∧ useN wd < 8 := by
    unfold useN
    rw [if_neg c0, if_neg c1, if_neg c2, if_neg c3, if_neg c4, if_neg c5]
    split <;> omega
  unfold f_Parser_readLine f_M_readLine
  rw [q_use, bd_some, if_neg (show ¬ iI ((useN wd : Nat) : Int) < 6 by rw [i_6, iI_lt] <;> omega), r_isWord h kw_table, bd_some, if_neg c0, if_pos rfl, r_isWord h kw_person, bd_some, if_neg c1, if_pos rfl, r_isWord h kw_fork, bd_some, if_neg c2, if_pos rfl, r_isWord h kw_known, bd_some, if_neg c3, if_pos rfl, r_isWord h kw_unsure, bd_some, if_neg c4, if_pos rfl, r_isWord h kw_tried, bd_some, if_neg c5, if_pos rfl, n_flaw h5, bd_some]
  exact Or.inr ⟨_, _, rfl, rfl, rfl, rfl, (by decide : (0 : Int32) < 1), rfl, rfl⟩
end
