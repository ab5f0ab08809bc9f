/-! lines: table, person, fork -/
def bad3 (r fn fp so f w : Int32) : Prop := r = 0 ∧ so = 5 ∧ 0 < f ∧ fn = f ∧ fp = w
section
variable {e lo : Nat} {nx so st va : Int32} {wd : Int64} {sp so' pl nu : Int32} {wd' : Int64} {t : Nat → Int32} {fn fp f w : Int32} {sp0 so0 pl0 nu0 : Int32} {wd0 : Int64}
theorem lb_go {l1 l2 rs : Int32} (h1 : ¬ l1 = l2) (h2 : ¬ rs = 0) (hg : f_M_goesOn t (iI (e : Nat)) sp0 so0 pl0 nu0 wd0 = some (sp, so', pl, nu, wd')) : f_M_lineBegins l1 l2 t (iI (e : Nat)) sp0 so0 pl0 nu0 f w wd0 rs = some (sp, so', pl, nu, f, w, wd') := by
  unfold f_M_lineBegins
  rw [if_neg h1, bd_some, if_neg h2, bd_some, hg, bd_some]
theorem lb_full {l1 l2 rs : Int32} (h1 : l1 = l2) (h5 : ¬ so0 = 5) : f_M_lineBegins l1 l2 t (iI (e : Nat)) sp0 so0 pl0 nu0 f w wd0 rs = some (sp0, 5, pl0, nu0, 5, pl0, wd0) := by
  unfold f_M_lineBegins
  rw [if_pos h1, n_flaw h5, bd_some, bd_some]
  split
  · rw [o_flaw, bd_some, bd_some, o_goesOn, bd_some]
  · rw [bd_some, o_goesOn, bd_some]
theorem lb_lacks {l1 l2 rs : Int32} (h1 : ¬ l1 = l2) (h2 : rs = 0) (h5 : ¬ so0 = 5) : f_M_lineBegins l1 l2 t (iI (e : Nat)) sp0 so0 pl0 nu0 f w wd0 rs = some (sp0, 5, pl0, nu0, 6, pl0, wd0) := by
  unfold f_M_lineBegins
  rw [if_neg h1, bd_some, if_pos h2, n_flaw h5, bd_some, bd_some, o_goesOn, bd_some]
theorem e_tableL {a1 a2 a3 a4 b2 b3 b4 : Int32} (ht : byOK t) (he : e ≤ 800) (hg : f_M_goesOn t (iI (e : Nat)) sp0 so0 pl0 nu0 wd0 = some (sp, so', pl, nu, wd')) (h : tkR e lo nx so st va wd sp so' pl nu wd') :
    (∃ ns sl sw qc : Nat, ∃ nx2 so2 st2 va2 wd2 sp2 so2' pl2 nu2 wd2', (2 ≤ ns ∧ ns ≤ 10 ∧ sl ≤ 3 ∧ 1 ≤ sw ∧ sw ≤ 9 ∧ qc ≤ 100) ∧ f_Parser_tableLine fn fp t (iI (e : Nat)) nx so st va wd a1 a2 a3 a4 = some (1, fn, fp, nx2, so2, st2, va2, wd2, iI (ns : Nat), iI (sl : Nat), iI (sw : Nat), iI (qc : Nat)) ∧ f_M_readTable t (iI (e : Nat)) sp0 so0 pl0 nu0 f w wd0 0 b2 b3 b4 = some (sp2, so2', pl2, nu2, f, w, wd2', iI (ns : Nat), iI (sl : Nat), iI (sw : Nat), iI (qc : Nat)) ∧ tkR e lo nx2 so2 st2 va2 wd2 sp2 so2' pl2 nu2 wd2') ∨
    (∃ R R', f_Parser_tableLine fn fp t (iI (e : Nat)) nx so st va wd a1 a2 a3 a4 = some R ∧ f_M_readTable t (iI (e : Nat)) sp0 so0 pl0 nu0 f w wd0 0 b2 b3 b4 = some R' ∧ bad3 R.1 R.2.1 R.2.2.1 R'.2.1 R'.2.2.2.2.1 R'.2.2.2.2.2.1) := by
  unfold f_Parser_tableLine f_M_readTable
  rw [if_pos (show (0 : Int32) ≤ 0 by decide), bd_some, hg, bd_some]
  rcases e_amount (fn := fn) (fp := fp) (f := f) (w := w) (l := 2) (hi := 10) (L := 2) (H := 10) ht he rfl rfl (by omega) (by omega) kw_seats h with ⟨ns, nx1, so1, st1, va1, wd1, sp1, so1', pl1, nu1, wd1', u1, u2, u3, u4, u5⟩ | ⟨k, p, nx1, so1, st1, va1, wd1, sp1, pl1, nu1, wd1', k1, k2, k3⟩
  · rw [u3, u4, bd_some, bd_some, if_pos (show (0 : Int32) ≤ iI (ns : Nat) by rw [i_0, iI_le] <;> omega)]
    rcases e_amount (fn := fn) (fp := fp) (f := f) (w := w) (l := 0) (hi := 3) (L := 0) (H := 3) ht he rfl rfl (by omega) (by omega) kw_slack u5 with ⟨sl, nx2, so2, st2, va2, wd2, sp2, so2', pl2, nu2, wd2', v1, v2, v3, v4, v5⟩ | ⟨k, p, nx1, so1, st1, va1, wd1, sp1, pl1, nu1, wd1', k1, k2, k3⟩
    · rw [v3, v4, bd_some, bd_some, bd_some, if_pos (show (0 : Int32) ≤ iI (sl : Nat) by rw [i_0, iI_le] <;> omega)]
      rcases e_amount (fn := fn) (fp := fp) (f := f) (w := w) (l := 1) (hi := 9) (L := 1) (H := 9) ht he rfl rfl (by omega) (by omega) kw_saw v5 with ⟨sw, nx3, so3, st3, va3, wd3, sp3, so3', pl3, nu3, wd3', w1, w2, w3, w4, w5⟩ | ⟨k, p, nx1, so1, st1, va1, wd1, sp1, pl1, nu1, wd1', k1, k2, k3⟩
      · rw [w3, w4, bd_some, bd_some, bd_some, if_pos (show (0 : Int32) ≤ iI (sw : Nat) by rw [i_0, iI_le] <;> omega)]
        rcases e_amount (fn := fn) (fp := fp) (f := f) (w := w) (l := 0) (hi := 100) (L := 0) (H := 100) ht he rfl rfl (by omega) (by omega) kw_quarrel w5 with ⟨qc, nx4, so4, st4, va4, wd4, sp4, so4', pl4, nu4, wd4', x1, x2, x3, x4, x5⟩ | ⟨k, p, nx1, so1, st1, va1, wd1, sp1, pl1, nu1, wd1', k1, k2, k3⟩
        · rw [x3, x4, bd_some, bd_some, bd_some, if_pos (show (0 : Int32) ≤ iI (qc : Nat) by rw [i_0, iI_le] <;> omega), if_neg (tk_5 x5)]
          exact Or.inl ⟨ns, sl, sw, qc, _, _, _, _, _, _, _, _, _, _, ⟨u1, u2, v2, w1, w2, x2⟩, rfl, rfl, x5⟩
        · rw [k2, k3, bd_some, bd_some, bd_some, if_neg (show ¬ (0 : Int32) ≤ -1 by decide), if_pos rfl]
          exact Or.inr ⟨_, _, rfl, rfl, rfl, rfl, k1, rfl, rfl⟩
      · rw [k2, k3, bd_some, bd_some, bd_some, if_neg (show ¬ (0 : Int32) ≤ -1 by decide), bd_some, if_neg (show ¬ (0 : Int32) ≤ -1 by decide), o_readPart, bd_some, if_pos rfl]
        exact Or.inr ⟨_, _, rfl, rfl, rfl, rfl, k1, rfl, rfl⟩
    · rw [k2, k3, bd_some, bd_some, bd_some, if_neg (show ¬ (0 : Int32) ≤ -1 by decide), bd_some, if_neg (show ¬ (0 : Int32) ≤ -1 by decide), bd_some, if_neg (show ¬ (0 : Int32) ≤ -1 by decide), o_readPart, bd_some, o_readPart, bd_some, if_pos rfl]
      exact Or.inr ⟨_, _, rfl, rfl, rfl, rfl, k1, rfl, rfl⟩
  · rw [k2, k3, bd_some, bd_some, if_neg (show ¬ (0 : Int32) ≤ -1 by decide), bd_some, if_neg (show ¬ (0 : Int32) ≤ -1 by decide), bd_some, if_neg (show ¬ (0 : Int32) ≤ -1 by decide), bd_some, if_neg (show ¬ (0 : Int32) ≤ -1 by decide), o_readPart, bd_some, o_readPart, bd_some, o_readPart, bd_some, if_pos rfl]
    exact Or.inr ⟨_, _, rfl, rfl, rfl, rfl, k1, rfl, rfl⟩
theorem o_table {rs b2 b3 b4 : Int32} (h5 : ¬ so0 = 5) (hs : ¬ rs ≤ 0) : f_M_readTable t (iI (e : Nat)) sp0 so0 pl0 nu0 f w wd0 rs b2 b3 b4 = some (sp0, 5, pl0, nu0, 3, pl0, wd0, rs, b2, b3, b4) := by
  unfold f_M_readTable
  rw [if_neg hs, n_flaw h5, bd_some, bd_some, o_goesOn, bd_some, o_readPart, bd_some, o_readPart, bd_some, o_readPart, bd_some, o_readPart, bd_some, if_pos rfl]
theorem pc10_set : ∀ fb, fb < 1024 → ∀ v, v < 10 → pc10 (fb ||| 2 ^ v) ≤ pc10 fb + 1 := by decide +kernel
theorem e_forkL {ns fb : Nat} (ht : byOK t) (he : e ≤ 800) (h1 : 1 ≤ ns) (hs : ns ≤ 10) (hf : fb < 2 ^ ns) (h4 : pc10 fb < 4) (hg : f_M_goesOn t (iI (e : Nat)) sp0 so0 pl0 nu0 wd0 = some (sp, so', pl, nu, wd')) (h : tkR e lo nx so st va wd sp so' pl nu wd') :
    (∃ fb' : Nat, ∃ nx2 so2 st2 va2 wd2 sp2 so2' pl2 nu2 wd2', fb' < 2 ^ ns ∧ pc10 fb' ≤ 4 ∧ f_Parser_forkLine fn fp t (iI (e : Nat)) nx so st va wd (iI (ns : Nat)) (iI (fb : Nat)) = some (1, fn, fp, nx2, so2, st2, va2, wd2, iI (fb' : Nat)) ∧ f_M_readFork t (iI (e : Nat)) sp0 so0 pl0 nu0 f w wd0 (iI (ns : Nat)) (iI (fb : Nat)) = some (sp2, so2', pl2, nu2, f, w, wd2', iI (fb' : Nat)) ∧ tkR e lo nx2 so2 st2 va2 wd2 sp2 so2' pl2 nu2 wd2') ∨
    (∃ R R', f_Parser_forkLine fn fp t (iI (e : Nat)) nx so st va wd (iI (ns : Nat)) (iI (fb : Nat)) = some R ∧ f_M_readFork t (iI (e : Nat)) sp0 so0 pl0 nu0 f w wd0 (iI (ns : Nat)) (iI (fb : Nat)) = some R' ∧ bad3 R.1 R.2.1 R.2.2.1 R'.2.1 R'.2.2.2.2.1 R'.2.2.2.2.2.1) := by
  have h5 := tk_5 h
  have hpl := tk_pl h
  subst hpl
  have hb : fb < 1024 := Nat.lt_of_lt_of_le hf (Nat.le_trans (Nat.pow_le_pow_right (by omega) hs) (by decide))
  unfold f_Parser_forkLine f_M_readFork
  rw [r_bits fb hb, bd_some, lb_go (show ¬ iI ((pc10 fb : Nat) : Int) = 4 by rw [i_4, iI_eq] <;> omega) (show ¬ iI (ns : Nat) = 0 by rw [i_0, iI_eq] <;> omega) hg, bd_some]
  rcases e_whole (fn := fn) (fp := fp) (f := f) (w := w) (l := 0) (hi := ns - 1) (L := 0) (H := iI (ns : Nat) - 1) rfl (by rw [i_1, iI_sub]; exact congrArg iI (by omega)) (by omega) (by omega) h with ⟨v, v1, v2, rfl, v4, v5⟩ | ⟨k, k1, k2, k3⟩
  · rw [v4, v5, bd_some, bd_some, if_neg (show ¬ (1 : Int32) = 0 by decide), q_has (by omega) (by omega), bd_some, if_neg h5, r_bit (by omega) (by omega), bd_some]
    by_cases c : fb.testBit v = true
    · rw [c, if_neg (show ¬ b01 true = 0 by decide), if_neg (show ¬ b01 true = 0 by decide), bd_some, if_neg Bool.false_ne_true, n_flaw h5, bd_some, bd_some, o_goesOn, bd_some, if_pos rfl]
      exact Or.inr ⟨_, _, rfl, rfl, rfl, rfl, (by decide : (0 : Int32) < 3), rfl, rfl⟩
    · obtain ⟨nx2, so2, st2, va2, wd2, sp2, so2', pl2, nu2, wd2', t1, t2, t3, -⟩ := e_stp ht he h
      rw [Bool.eq_false_iff.mpr c, if_pos (show b01 false = 0 from rfl), if_pos (show b01 false = 0 from rfl), bd_some, if_pos rfl, bd_some, t1, t2, lt_eq, bd_some, bd_some, if_neg (tk_5 t3), lt_eq, iI_shl1 (by omega), iI_or]
      refine Or.inl ⟨fb ||| 2 ^ v, _, _, _, _, _, _, _, _, _, _, ?_, by have := pc10_set fb hb v (by omega); omega, rfl, rfl, t3⟩
      exact Nat.or_lt_two_pow hf (Nat.pow_lt_pow_right (by omega) (by omega))
  · rw [k2, k3, bd_some, bd_some, if_pos rfl, if_pos rfl, bd_some, if_pos rfl, bd_some, o_goesOn, bd_some, if_pos rfl]
    exact Or.inr ⟨_, _, rfl, rfl, rfl, rfl, k1, rfl, rfl⟩
theorem o_fork {x k p sp1 pl1 nu1 rs : Int32} {wd1 : Int64} {fb : Nat} (hb : fb < 1024) (hl : f_M_lineBegins (iI ((pc10 fb : Nat) : Int)) 4 t (iI (e : Nat)) sp0 so0 pl0 nu0 f w wd0 rs = some (sp1, 5, pl1, nu1, k, p, wd1)) : f_M_readFork t (iI (e : Nat)) sp0 so0 pl0 nu0 f w wd0 rs (iI (fb : Nat)) = some (sp1, 5, pl1, nu1, k, p, wd1, iI (fb : Nat)) := by
  unfold f_M_readFork
  rw [r_bits fb hb, bd_some, hl, bd_some, o_wholeAt, bd_some, if_pos rfl, bd_some, if_pos rfl, bd_some, o_goesOn, bd_some, if_pos rfl]
theorem e_personL {ns p : Nat} {nm rnm : Nat → Int64} {sa rse : Nat → Int32} {S : Nat → Nat} (ht : byOK t) (he : e ≤ 800) (h1 : 1 ≤ ns) (hs : ns ≤ 10) (hp : p < 5) (hS : ∀ q, q < p → S q < ns) (hn : ∀ i, i < p → WR (nm i) (rnm i)) (ha : ar sa p S) (hr : ar rse p S) (hg : f_M_goesOn t (iI (e : Nat)) sp0 so0 pl0 nu0 wd0 = some (sp, so', pl, nu, wd')) (h : tkR e lo nx so st va wd sp so' pl nu wd') :
    (∃ v : Nat, ∃ nx2 so2 st2 va2 wd2 sp2 so2' pl2 nu2 wd2', v < ns ∧ (∀ q, q < p → S q ≠ v) ∧ WR wd wd' ∧ f_Parser_personLine nm fn fp t (iI (e : Nat)) nx so st va wd (iI (ns : Nat)) (iI (p : Nat)) sa = some (1, vp_updL nm p wd, fn, fp, nx2, so2, st2, va2, wd2, iI ((p + 1 : Nat) : Int), upd sa p (iI (v : Nat))) ∧ f_M_readOne t (iI (e : Nat)) sp0 so0 pl0 nu0 f w wd0 (iI (ns : Nat)) (iI (p : Nat)) rse rnm = some (sp2, so2', pl2, nu2, f, w, wd2', iI ((p + 1 : Nat) : Int), upd rse p (iI (v : Nat)), vp_updL rnm p wd') ∧ tkR e lo nx2 so2 st2 va2 wd2 sp2 so2' pl2 nu2 wd2') ∨
    (∃ R R', f_Parser_personLine nm fn fp t (iI (e : Nat)) nx so st va wd (iI (ns : Nat)) (iI (p : Nat)) sa = some R ∧ f_M_readOne t (iI (e : Nat)) sp0 so0 pl0 nu0 f w wd0 (iI (ns : Nat)) (iI (p : Nat)) rse rnm = some R' ∧ bad3 R.1 R.2.2.1 R.2.2.2.1 R'.2.1 R'.2.2.2.2.1 R'.2.2.2.2.2.1) := by
  have h5 := tk_5 h
  have hpl := tk_pl h
  subst hpl
  unfold f_Parser_personLine f_M_readOne
  rw [lb_go (show ¬ iI (p : Nat) = 5 by rw [i_5, iI_eq] <;> omega) (show ¬ iI (ns : Nat) = 0 by rw [i_0, iI_eq] <;> omega) hg, bd_some, q_use, bd_some, r_isName h, bd_some, q_personNamed (by omega), r_tfind (by omega)]
  by_cases c : useN wd = 6
  · have hW : WR wd wd' := by
      rcases tk_w h with ⟨-, q⟩ | ⟨-, q⟩
      · exact q
      · rw [q] at c; exact absurd c (by decide)
    have ef : fst0 (fun i => decide (rnm i = wd')) p = fst0 (fun i => decide (nm i = wd)) p := fst_congr (fun i hi => by
      have q := WR_eq (hn i hi) hW
      by_cases d : nm i = wd
      · rw [decide_eq_true d, decide_eq_true (q.mp d)]
      · rw [decide_eq_false d, decide_eq_false (fun x => d (q.mpr x))]) _ _
    rw [ef, if_pos c, if_neg (show ¬ (1 : Int32) = 0 by decide), if_pos (show iI ((useN wd : Nat) : Int) = 6 by rw [c]; rfl), bd_some, bd_some, bd_some]
    cases hf : fst0 (fun i => decide (nm i = wd)) p with
    | some q =>
      have hq := (fst_lt _ _ _ hf).1
      rw [show on1 (some q) = (q : Int) from rfl, if_neg (show ¬ iI (q : Nat) < 0 by rw [i_0, iI_lt] <;> omega), if_neg (show ¬ iI (q : Nat) = -1 by rw [i_m1, iI_eq] <;> omega), n_flaw h5, bd_some, bd_some, o_goesOn, bd_some, o_needs, bd_some, o_wholeAt, bd_some, if_pos rfl, bd_some, if_pos rfl, bd_some, o_goesOn, bd_some, if_pos rfl]
      exact Or.inr ⟨_, _, rfl, rfl, rfl, rfl, (by decide : (0 : Int32) < 3), rfl, rfl⟩
    | none =>
      rw [show on1 none = (-1 : Int) from rfl, if_pos (show iI (-1) < 0 by decide), if_pos (show iI (-1) = -1 from rfl), bd_some, iI_ck (show p < 5 by omega) (by omega)]
      obtain ⟨nx1, so1, st1, va1, wd1, sp1, so1', pl1, nu1, wd1', s1, s2, s3, -⟩ := e_stp ht he h
      have s5 := tk_5 s3
      have spl := tk_pl s3
      subst spl
      rw [s1, s2, bd_some, bd_some]
      unfold f_M_needs
      rw [q_isKeyword, r_isWord s3 kw_at, bd_some, bd_some]
      by_cases d : wd1 = 24948
      · rw [if_pos d, if_pos d, if_neg (show ¬ (1 : Int32) = 0 by decide), if_neg (show ¬ (1 : Int32) = 0 by decide), bd_some]
        obtain ⟨nx2, so2, st2, va2, wd2, sp2, so2', pl2, nu2, wd2', u1, u2, u3, -⟩ := e_stp ht he s3
        have u5 := tk_5 u3
        have upl := tk_pl u3
        subst upl
        rw [u1, u2, bd_some, bd_some, bd_some]
        rcases e_whole (fn := fn) (fp := fp) (f := f) (w := w) (l := 0) (hi := ns - 1) (L := 0) (H := iI (ns : Nat) - 1) rfl (by rw [i_1, iI_sub]; exact congrArg iI (by omega)) (by omega) (by omega) u3 with ⟨v, v1, v2, rfl, v4, v5⟩ | ⟨k, k1, k2, k3⟩
        · rw [v4, v5, bd_some, bd_some, if_neg (show ¬ (1 : Int32) = 0 by decide), q_isTaken (by omega) (by omega) ha (fun q hq => by have := hS q hq; omega), bd_some, if_neg u5, r_isTaken (by omega) (by omega) hr (fun q hq => by have := hS q hq; omega), bd_some]
          cases ht2 : fst0 (fun i => decide (S i = v)) p with
          | some q =>
            rw [show (Option.isSome (some q)) = true from rfl, if_pos rfl, if_neg (show ¬ (1 : Int32) = 0 by decide), if_neg (show ¬ (1 : Int32) = 0 by decide), bd_some, if_neg Bool.false_ne_true, n_flaw u5, bd_some, bd_some, o_goesOn, bd_some, if_pos rfl]
            exact Or.inr ⟨_, _, rfl, rfl, rfl, rfl, (by decide : (0 : Int32) < 3), rfl, rfl⟩
          | none =>
            obtain ⟨nx3, so3, st3, va3, wd3, sp3, so3', pl3, nu3, wd3', w1, w2, w3, -⟩ := e_stp ht he u3
            rw [show (Option.isSome (none : Option Nat)) = false from rfl, if_neg Bool.false_ne_true, if_pos rfl, if_pos rfl, iI_ck (show p < 5 by omega) (by omega), lt_eq, w1, bd_some, bd_some, if_pos rfl, bd_some, w2, bd_some, if_neg (tk_5 w3), iI_ck (show p < 5 by omega) (by omega), iI_ck (show p < 5 by omega) (by omega), lt_eq, sm1, iI_cl (by omega)]
            refine Or.inl ⟨v, _, _, _, _, _, _, _, _, _, _, by omega, fun q hq hh => ?_, hW, rfl, rfl, w3⟩
            exact absurd (decide_eq_true hh) (by rw [fst_none _ _ (by omega) ht2 q (by omega) hq]; exact Bool.false_ne_true)
        · rw [k2, k3, bd_some, bd_some, if_pos rfl, if_pos rfl, bd_some, if_pos rfl, bd_some, o_goesOn, bd_some, if_pos rfl]
          exact Or.inr ⟨_, _, rfl, rfl, rfl, rfl, k1, rfl, rfl⟩
      · rw [if_neg d, if_neg d, if_pos rfl, if_pos rfl, n_flaw s5, bd_some, bd_some, o_goesOn, bd_some, bd_some, o_wholeAt, bd_some, if_pos rfl, bd_some, if_pos rfl, bd_some, o_goesOn, bd_some, if_pos rfl]
        exact Or.inr ⟨_, _, rfl, rfl, rfl, rfl, (by decide : (0 : Int32) < 1), rfl, rfl⟩
  · have e0 : ¬ iI ((useN wd : Nat) : Int) = 6 := by
      have : useN wd < 8 := by unfold useN; repeat' split
                               all_goals omega
      rw [show (6 : Int32) = iI 6 from rfl, iI_eq] <;> omega
    rw [if_neg c, if_pos rfl, n_flaw h5, if_neg e0, bd_some, bd_some, bd_some]
    have e1 : (if iI (on1 (fst0 (fun i => decide (rnm i = wd')) p)) = (-1 : Int32) then some ((5 : Int32), (1 : Int32), pl) else bd (f_M_flaw (3 : Int32) 5 pl 1 pl) (fun x16 => some (x16.1, x16.2.1, x16.2.2)) : Option (Int32 × Int32 × Int32)) = some (5, 1, pl) := by
      split
      · rfl
      · rw [o_flaw, bd_some]
    rw [e1, bd_some, o_goesOn, bd_some, o_needs, bd_some, o_wholeAt, bd_some, if_pos rfl, bd_some, if_pos rfl, bd_some, o_goesOn, bd_some, if_pos rfl]
    exact Or.inr ⟨_, _, rfl, rfl, rfl, rfl, (by decide : (0 : Int32) < 1), rfl, rfl⟩
theorem o_person {k q sp1 pl1 nu1 rs : Int32} {wd1 : Int64} {p : Nat} {rse : Nat → Int32} {rnm : Nat → Int64} (hp : p ≤ 5) (hl : f_M_lineBegins (iI (p : Nat)) 5 t (iI (e : Nat)) sp0 so0 pl0 nu0 f w wd0 rs = some (sp1, 5, pl1, nu1, k, q, wd1)) : f_M_readOne t (iI (e : Nat)) sp0 so0 pl0 nu0 f w wd0 rs (iI (p : Nat)) rse rnm = some (sp1, 5, pl1, nu1, k, q, wd1, iI (p : Nat), rse, rnm) := by
  unfold f_M_readOne
  have e1 : (if iI (on1 (fst0 (fun i => decide (rnm i = wd1)) p)) = (-1 : Int32) then some ((5 : Int32), k, q) else bd (f_M_flaw (3 : Int32) 5 pl1 k q) (fun x16 => some (x16.1, x16.2.1, x16.2.2)) : Option (Int32 × Int32 × Int32)) = some (5, k, q) := by
    split
    · rfl
    · rw [o_flaw, bd_some]
  rw [hl, bd_some, o_isName, bd_some, if_pos rfl, o_flaw, bd_some, bd_some, r_tfind hp, bd_some, e1, bd_some, o_goesOn, bd_some, o_needs, bd_some, o_wholeAt, bd_some, if_pos rfl, bd_some, if_pos rfl, bd_some, o_goesOn, bd_some, if_pos rfl]
end
