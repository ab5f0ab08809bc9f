/-! lines: known, unsure, tried -/
section
variable {e lo : Nat} {nx so st va : Int32} {wd : Int64} {sp so' pl nu : Int32} {wd' : Int64} {t : Nat → Int32} {fn fp f w : Int32} {sp0 so0 pl0 nu0 : Int32} {wd0 : Int64}
theorem e_kind (h : tkR e lo nx so st va wd sp so' pl nu wd') : ∃ z : Int, ((0 ≤ z ∧ z < 3) ∨ z = -1) ∧ f_Parser_kindOfWord wd = some (iI z) ∧ bd (f_M_isWord (17171758 : Int64) so' wd') (fun x7 => (if x7 = 0 then bd (f_M_isWord (278338724 : Int64) so' wd') (fun x13 => if x13 = 0 then bd (f_M_isWord (613883044 : Int64) so' wd') (fun x14 => if x14 = 0 then some (-1 : Int32) else some (2 : Int32)) else some (1 : Int32)) else some (0 : Int32) : Option Int32)) = some (iI z) := by
  unfold f_Parser_kindOfWord
  simp only [lg0]
  rw [r_isWord h kw_plain, r_isWord h kw_hinged, r_isWord h kw_ringed]
  simp only [bd_some]
  by_cases c0 : wd = 482854660462
  · exact ⟨0, Or.inl ⟨by omega, by omega⟩, by rw [if_pos c0]; rfl, by rw [if_pos c0, if_neg (show ¬ (1 : Int32) = 0 by decide)]; rfl⟩
  by_cases c1 : wd = 114802033124708
  · exact ⟨1, Or.inl ⟨by omega, by omega⟩, by rw [if_neg c0, if_pos c1]; rfl, by rw [if_neg c0, if_pos rfl, if_pos c1, if_neg (show ¬ (1 : Int32) = 0 by decide)]; rfl⟩
  by_cases c2 : wd = 125797149402468
  · exact ⟨2, Or.inl ⟨by omega, by omega⟩, by rw [if_neg c0, if_neg c1, if_pos c2]; rfl, by rw [if_neg c0, if_pos rfl, if_neg c1, if_pos rfl, if_pos c2, if_neg (show ¬ (1 : Int32) = 0 by decide)]; rfl⟩
  · exact ⟨-1, Or.inr rfl, by rw [if_neg c0, if_neg c1, if_neg c2]; rfl, by rw [if_neg c0, if_pos rfl, if_neg c1, if_pos rfl, if_neg c2, if_pos rfl]; rfl⟩
theorem bd_bd {α β γ : Type} (x : Option α) (k : α → Option β) (l : β → Option γ) : bd x (fun a => bd (k a) l) = bd (bd x k) l := by cases x <;> rfl
theorem q_addP4 {a b y k on ot ki ye sa} {n : Nat} (hn : n < 10) : f_Now_addPair a b y k on ot ki ye sa (iI (n : Nat)) = some (upd on n a, upd ot n b, upd ki n k, upd ye n y, upd sa n 0, iI ((n + 1 : Nat) : Int)) := by
  unfold f_Now_addPair
  rw [if_pos (show iI (n : Nat) < 10 by rw [i_10, iI_lt] <;> omega), iI_ck (by omega) (by omega), iI_ck (by omega) (by omega), iI_ck (by omega) (by omega), iI_ck (by omega) (by omega), iI_ck (by omega) (by omega), lt_eq, sm1, iI_cl (by omega)]
section
variable {p n : Nat} {nm rnm : Nat → Int64} {on ot ki ye sa ron rot rye rki : Nat → Int32} {O T : Nat → Nat}
theorem e_knownL {rs : Int32} (ht : byOK t) (he : e ≤ 800) (hrs : ¬ rs = 0) (hp : p ≤ 5) (h10 : n < 10) (hn : ∀ i, i < p → WR (nm i) (rnm i)) (h1 : ar on n O) (h2 : ar ot n T) (g1 : ar ron n O) (g2 : ar rot n T) (hb : ∀ k, k < n → O k < p ∧ T k < p ∧ O k ≠ T k) (hg : f_M_goesOn t (iI (e : Nat)) sp0 so0 pl0 nu0 wd0 = some (sp, so', pl, nu, wd')) (h : tkR e lo nx so st va wd sp so' pl nu wd') :
    (∃ a b y k : Nat, ∃ nx2 so2 st2 va2 wd2 sp2 so2' pl2 nu2 wd2', a < p ∧ b < p ∧ a ≠ b ∧ (∀ k, k < n → isP O T a b k = false) ∧ y ≤ 99 ∧ k < 3 ∧ f_Parser_knownLine nm fn fp t (iI (e : Nat)) nx so st va wd (iI (p : Nat)) on ot ki ye sa (iI (n : Nat)) = some (1, fn, fp, nx2, so2, st2, va2, wd2, upd on n (iI (a : Nat)), upd ot n (iI (b : Nat)), upd ki n (iI (k : Nat)), upd ye n (iI (y : Nat)), upd sa n 0, iI ((n + 1 : Nat) : Int)) ∧ f_M_readKnown t (iI (e : Nat)) sp0 so0 pl0 nu0 f w wd0 rs (iI (p : Nat)) (iI (n : Nat)) ron rot rye rki rnm = some (sp2, so2', pl2, nu2, f, w, wd2', iI ((n + 1 : Nat) : Int), upd ron n (iI (a : Nat)), upd rot n (iI (b : Nat)), upd rye n (iI (y : Nat)), upd rki n (iI (k : Nat))) ∧ tkR e lo nx2 so2 st2 va2 wd2 sp2 so2' pl2 nu2 wd2') ∨
    (∃ R R', f_Parser_knownLine nm fn fp t (iI (e : Nat)) nx so st va wd (iI (p : Nat)) on ot ki ye sa (iI (n : Nat)) = some R ∧ f_M_readKnown t (iI (e : Nat)) sp0 so0 pl0 nu0 f w wd0 rs (iI (p : Nat)) (iI (n : Nat)) ron rot rye rki rnm = some R' ∧ bad3 R.1 R.2.1 R.2.2.1 R'.2.1 R'.2.2.2.2.1 R'.2.2.2.2.2.1) := by
  have h5 := tk_5 h
  unfold f_Parser_knownLine f_M_readKnown f_M_readPerson
  rw [lb_go (show ¬ iI (n : Nat) = 10 by rw [i_10, iI_eq] <;> omega) hrs hg, bd_some]
  have tail : ∀ (sp1 pl1 nu1 k q : Int32) (wd1 : Int64) (x y : Int32), bd (f_M_readPart (26379859 : Int64) (0 : Int32) (99 : Int32) t (iI (e : Nat)) sp1 5 pl1 nu1 k q wd1) (fun x6 => bd (f_M_isWord (17171758 : Int64) x6.2.2.1 x6.2.2.2.2.2.2.2) (fun x7 => bd (if x7 = 0 then bd (f_M_isWord (278338724 : Int64) x6.2.2.1 x6.2.2.2.2.2.2.2) (fun x13 => if x13 = 0 then bd (f_M_isWord (613883044 : Int64) x6.2.2.1 x6.2.2.2.2.2.2.2) (fun x14 => if x14 = 0 then some (-1 : Int32) else some (2 : Int32)) else some (1 : Int32)) else some (0 : Int32) : Option (Int32)) (fun x8 => bd (if x8 = (-1 : Int32) then bd (f_M_flaw (1 : Int32) x6.2.2.1 x6.2.2.2.1 x6.2.2.2.2.2.1 x6.2.2.2.2.2.2.1) (fun x12 => some (x12.1, x12.2.1, x12.2.2)) else some (x6.2.2.1, x6.2.2.2.2.2.1, x6.2.2.2.2.2.2.1) : Option (Int32 × Int32 × Int32)) (fun x9 => bd (f_M_goesOn t (iI (e : Nat)) x6.2.1 x9.1 x6.2.2.2.1 x6.2.2.2.2.1 x6.2.2.2.2.2.2.2) (fun x10 => if x10.2.1 = (5 : Int32) then some (x10.1, x10.2.1, x10.2.2.1, x10.2.2.2.1, x9.2.1, x9.2.2, x10.2.2.2.2, iI (n : Nat), ron, rot, rye, rki) else ck (iI (n : Nat)) 10 (ck (iI (n : Nat)) 10 (ck (iI (n : Nat)) 10 (ck (iI (n : Nat)) 10 (lt (iI (n : Nat) + (1 : Int32) : Int32) (fun x11 => some (x10.1, x10.2.1, x10.2.2.1, x10.2.2.2.1, x9.2.1, x9.2.2, x10.2.2.2.2, x11, upd ron (iI (n : Nat)).toNatClampNeg x, upd rot (iI (n : Nat)).toNatClampNeg y, upd rye (iI (n : Nat)).toNatClampNeg x6.1, upd rki (iI (n : Nat)).toNatClampNeg x8))))))))))) = some (sp1, 5, pl1, nu1, k, q, wd1, iI (n : Nat), ron, rot, rye, rki) := by
    intro sp1 pl1 nu1 k q wd1 x y
    rw [o_readPart, bd_some, o_isWord, bd_some, if_pos rfl, o_isWord, bd_some, if_pos rfl, o_isWord, bd_some, if_pos rfl, bd_some, if_pos rfl, o_flaw, bd_some, bd_some, o_goesOn, bd_some, if_pos rfl]
  rcases e_person (fn := fn) (fp := fp) (f := f) (w := w) hp hn h with ⟨a, a1, a2, a3⟩ | ⟨k, k1, k2, k3⟩
  · rw [a2, a3, bd_some, bd_some, if_pos (show (0 : Int32) ≤ iI (a : Nat) by rw [i_0, iI_le] <;> omega)]
    obtain ⟨nx1, so1, st1, va1, wd1, sp1, so1', pl1, nu1, wd1', s1, s2, s3, -⟩ := e_stp ht he h
    have s5 := tk_5 s3
    have spl := tk_pl s3
    subst spl
    rw [s1, s2, bd_some, bd_some, bd_some]
    rcases e_person (fn := fn) (fp := fp) (f := f) (w := w) hp hn s3 with ⟨b, b1, b2, b3⟩ | ⟨k, k1, k2, k3⟩
    · rw [b2, b3, bd_some, bd_some, if_pos (show (0 : Int32) ≤ iI (b : Nat) by rw [i_0, iI_le] <;> omega), if_neg s5]
      by_cases c : a = b
      · subst c
        rw [if_pos rfl, if_pos rfl, bd_some, bd_some, if_pos rfl, if_neg Bool.false_ne_true, n_flaw s5, bd_some, bd_some, o_goesOn, bd_some, tail]
        exact Or.inr ⟨_, _, rfl, rfl, rfl, rfl, (by decide : (0 : Int32) < 3), rfl, rfl⟩
      · have hne : ¬ iI (a : Nat) = iI (b : Nat) := by rw [iI_eq] <;> omega
        rw [if_neg hne, if_neg hne, q_find1 (by omega) h1 h2 (fun k hk => by have := hb k hk; exact ⟨by omega, by omega, this.2.2⟩) (by omega) (by omega), r_tpairOf (by omega) g1 g2 (fun k hk => by have := hb k hk; exact ⟨by omega, by omega⟩) (by omega) (by omega), bd_some, bd_some]
        cases hf : fst0 (isP O T a b) n with
        | some k =>
          have hk := (fst_lt _ _ _ hf).1
          rw [show on2 (some k) = (k : Int) from rfl, show on1 (some k) = (k : Int) from rfl, if_neg (show ¬ iI (k : Nat) < 0 by rw [i_0, iI_lt] <;> omega), if_neg (show ¬ iI (k : Nat) = -1 by rw [i_m1, iI_eq] <;> omega), bd_some, bd_some, if_pos rfl, if_neg Bool.false_ne_true, n_flaw s5, bd_some, bd_some, o_goesOn, bd_some, tail]
          exact Or.inr ⟨_, _, rfl, rfl, rfl, rfl, (by decide : (0 : Int32) < 3), rfl, rfl⟩
        | none =>
          have hno : ∀ k, k < n → isP O T a b k = false := fun k hk => fst_none _ _ (by omega) hf k (by omega) hk
          rw [show on2 none = (-2 : Int) from rfl, show on1 none = (-1 : Int) from rfl, if_pos (show iI (-2) < 0 by decide), if_pos (show iI (-1) = -1 from rfl), bd_some, bd_some, if_neg Bool.false_ne_true, if_pos rfl, bd_some]
          obtain ⟨nx2, so2, st2, va2, wd2, sp2, so2', pl2, nu2, wd2', u1, u2, u3, -⟩ := e_stp ht he s3
          rw [u1, u2, bd_some, bd_some]
          rcases e_amount (fn := fn) (fp := fp) (f := f) (w := w) (l := 0) (hi := 99) (L := 0) (H := 99) ht he rfl rfl (by omega) (by omega) kw_years u3 with ⟨y, nx3, so3, st3, va3, wd3, sp3, so3', pl3, nu3, wd3', y1, y2, y3, y4, y5⟩ | ⟨k, q, nx3, so3, st3, va3, wd3, sp3, pl3, nu3, wd3', k1, k2, k3⟩
          · obtain ⟨z, z1, z2, z3⟩ := e_kind y5
            rw [y3, y4, bd_some, bd_some, if_pos (show (0 : Int32) ≤ iI (y : Nat) by rw [i_0, iI_le] <;> omega), z2, bd_some, bd_bd, z3, bd_some]
            have y6 := tk_5 y5
            have ypl := tk_pl y5
            subst ypl
            rcases z1 with ⟨z4, z5⟩ | rfl
            · obtain ⟨k, rfl⟩ := Int.eq_ofNat_of_zero_le z4
              obtain ⟨nx4, so4, st4, va4, wd4, sp4, so4', pl4, nu4, wd4', v1, v2, v3, -⟩ := e_stp ht he y5
              rw [if_pos (show (0 : Int32) ≤ iI (k : Nat) by rw [i_0, iI_le] <;> omega), q_addP4 h10, bd_some, v1, bd_some, if_neg (show ¬ iI (k : Nat) = -1 by rw [i_m1, iI_eq] <;> omega), bd_some, v2, bd_some, if_neg (tk_5 v3), iI_ck h10 (by omega), iI_ck h10 (by omega), iI_ck h10 (by omega), iI_ck h10 (by omega), lt_eq, sm1, iI_cl (by omega)]
              exact Or.inl ⟨a, b, y, k, _, _, _, _, _, _, _, _, _, _, a1, b1, c, hno, y2, by omega, rfl, rfl, v3⟩
            · rw [if_neg (show ¬ (0 : Int32) ≤ iI (-1) by decide), if_pos (show iI (-1) = -1 from rfl), n_flaw y6, bd_some, bd_some, o_goesOn, bd_some, if_pos rfl]
              exact Or.inr ⟨_, _, rfl, rfl, rfl, rfl, (by decide : (0 : Int32) < 1), rfl, rfl⟩
          · have e1 := tail sp3 pl3 nu3 k q wd3' (iI (a : Nat)) (iI (b : Nat))
            rw [o_readPart, bd_some] at e1
            rw [k2, k3, bd_some, bd_some, if_neg (show ¬ (0 : Int32) ≤ -1 by decide), e1]
            exact Or.inr ⟨_, _, rfl, rfl, rfl, rfl, k1, rfl, rfl⟩
    · rw [k2, k3, bd_some, bd_some, if_neg (show ¬ (0 : Int32) ≤ -1 by decide), if_pos rfl, bd_some, if_pos rfl, bd_some, o_goesOn, bd_some, tail]
      exact Or.inr ⟨_, _, rfl, rfl, rfl, rfl, k1, rfl, rfl⟩
  · rw [k2, k3, bd_some, bd_some, if_neg (show ¬ (0 : Int32) ≤ -1 by decide), o_goesOn, bd_some, bd_some, o_personAt hp, bd_some, if_pos rfl, bd_some, if_pos rfl, bd_some, o_goesOn, bd_some, tail]
    exact Or.inr ⟨_, _, rfl, rfl, rfl, rfl, k1, rfl, rfl⟩
theorem o_known {k q sp1 pl1 nu1 rs : Int32} {wd1 : Int64} (hp : p ≤ 5) (hl : f_M_lineBegins (iI (n : Nat)) 10 t (iI (e : Nat)) sp0 so0 pl0 nu0 f w wd0 rs = some (sp1, 5, pl1, nu1, k, q, wd1)) : f_M_readKnown t (iI (e : Nat)) sp0 so0 pl0 nu0 f w wd0 rs (iI (p : Nat)) (iI (n : Nat)) ron rot rye rki rnm = some (sp1, 5, pl1, nu1, k, q, wd1, iI (n : Nat), ron, rot, rye, rki) := by
  unfold f_M_readKnown
  rw [hl, bd_some, o_readPerson hp, bd_some, o_personAt hp, bd_some, if_pos rfl, bd_some, if_pos rfl, bd_some, o_goesOn, bd_some, o_readPart, bd_some, o_isWord, bd_some, if_pos rfl, o_isWord, bd_some, if_pos rfl, o_isWord, bd_some, if_pos rfl, bd_some, if_pos rfl, o_flaw, bd_some, bd_some, o_goesOn, bd_some, if_pos rfl]
theorem e_pairU {u : Nat} {up run : Nat → Int32} {U : Nat → Nat} (ht : byOK t) (he : e ≤ 800) (hp : p ≤ 5) (h10 : n ≤ 10) (hu : u ≤ 4) (hn : ∀ i, i < p → WR (nm i) (rnm i)) (h1 : ar on n O) (h2 : ar ot n T) (g1 : ar ron n O) (g2 : ar rot n T) (hb : ∀ k, k < n → O k < p ∧ T k < p ∧ O k ≠ T k) (hU : ar up u U) (hV : ar run u U) (hB : ∀ i, i < u → U i < n) (h : tkR e lo nx so st va wd sp so' pl nu wd') :
    (∃ k : Nat, ∃ nx2 so2 st2 va2 wd2 sp1 so1' pl1 nu1 wd1' sp2 so2' pl2 nu2 wd2', k < n ∧ (∀ i, i < u → U i ≠ k) ∧ f_Parser_pairTold (iI (u : Nat)) nm fn fp t (iI (e : Nat)) nx so st va wd up (iI (p : Nat)) on ot (iI (n : Nat)) = some (iI (k : Nat), fn, fp, nx2, so2, st2, va2, wd2) ∧ f_M_pairAt t (iI (e : Nat)) sp so' pl nu f w wd' (iI (p : Nat)) (iI (n : Nat)) ron rot rnm = some (iI (k : Nat), sp1, so1', pl1, nu1, f, w, wd1') ∧ ¬ so1' = 5 ∧ f_Tab_isUnsure (iI (k : Nat)) (iI (u : Nat)) run = some 0 ∧ f_M_goesOn t (iI (e : Nat)) sp1 so1' pl1 nu1 wd1' = some (sp2, so2', pl2, nu2, wd2') ∧ tkR e lo nx2 so2 st2 va2 wd2 sp2 so2' pl2 nu2 wd2') ∨
    (∃ kk q nx2 so2 st2 va2 wd2, (0 : Int32) < kk ∧ f_Parser_pairTold (iI (u : Nat)) nm fn fp t (iI (e : Nat)) nx so st va wd up (iI (p : Nat)) on ot (iI (n : Nat)) = some (-1, kk, q, nx2, so2, st2, va2, wd2) ∧ ((∃ sp1 pl1 nu1 wd1', f_M_pairAt t (iI (e : Nat)) sp so' pl nu f w wd' (iI (p : Nat)) (iI (n : Nat)) ron rot rnm = some (0, sp1, 5, pl1, nu1, kk, q, wd1')) ∨ (∃ k : Nat, ∃ sp1 so1' nu1 wd1', f_M_pairAt t (iI (e : Nat)) sp so' pl nu f w wd' (iI (p : Nat)) (iI (n : Nat)) ron rot rnm = some (iI (k : Nat), sp1, so1', q, nu1, f, w, wd1') ∧ ¬ so1' = 5 ∧ f_Tab_isUnsure (iI (k : Nat)) (iI (u : Nat)) run = some 1 ∧ kk = 3))) := by
  have h5 := tk_5 h
  unfold f_Parser_pairTold f_M_pairAt f_M_readPerson
  rcases e_person (fn := fn) (fp := fp) (f := f) (w := w) hp hn h with ⟨a, a1, a2, a3⟩ | ⟨k, k1, k2, k3⟩
  · rw [a2, a3, bd_some, bd_some, if_pos (show (0 : Int32) ≤ iI (a : Nat) by rw [i_0, iI_le] <;> omega)]
    obtain ⟨nx1, so1, st1, va1, wd1, sp1, so1', pl1, nu1, wd1', s1, s2, s3, -⟩ := e_stp ht he h
    have s5 := tk_5 s3
    have spl := tk_pl s3
    subst spl
    rw [s1, s2, bd_some, bd_some, bd_some]
    rcases e_person (fn := fn) (fp := fp) (f := f) (w := w) hp hn s3 with ⟨b, b1, b2, b3⟩ | ⟨k, k1, k2, k3⟩
    · rw [b2, b3, bd_some, bd_some, if_pos (show (0 : Int32) ≤ iI (b : Nat) by rw [i_0, iI_le] <;> omega), if_neg s5, q_find1 (by omega) h1 h2 (fun k hk => by have := hb k hk; exact ⟨by omega, by omega, this.2.2⟩) (by omega) (by omega), r_tpairOf (by omega) g1 g2 (fun k hk => by have := hb k hk; exact ⟨by omega, by omega⟩) (by omega) (by omega), bd_some, bd_some, bd_some]
      cases hf : fst0 (isP O T a b) n with
      | some k =>
        have hk := (fst_lt _ _ _ hf).1
        obtain ⟨nx2, so2, st2, va2, wd2, sp2, so2', pl2, nu2, wd2', u1, u2, u3, -⟩ := e_stp ht he s3
        have eL : f_Parser_pairTold_L62 (iI (u : Nat)) (iI (k : Nat)) fn fp nx1 so1 pl1 va1 wd1 up fu 0 = some (match fst0 (fun i => decide (U i = k)) u with | some i => .inl ((-1 : Int32), (3 : Int32), pl1, nx1, so1, pl1, va1, wd1) | none => .inr (fn, fp)) :=
          lpS0 (L := fun f j => f_Parser_pairTold_L62 (iI (u : Nat)) (iI (k : Nat)) fn fp nx1 so1 pl1 va1 wd1 up f j) (P := fun i => decide (U i = k)) (n := u) (A := fun _ => ((-1 : Int32), (3 : Int32), pl1, nx1, so1, pl1, va1, wd1)) (B := (fn, fp)) (by omega) (fun f j hj => by
            simp only [f_Parser_pairTold_L62]
            by_cases c : j < u
            · have b := hB j c
              rw [if_neg (show ¬ iI (u : Nat) ≤ iI (j : Nat) by rw [iI_le] <;> omega), if_pos c, iI_ck (show j < 4 by omega) (by omega), iI_cl (by omega), hU j c]
              by_cases d : U j = k
              · rw [if_pos (by rw [d]), if_pos (decide_eq_true d)]; rfl
              · rw [if_neg (show ¬ iI (U j : Nat) = iI (k : Nat) by rw [iI_eq] <;> omega), if_neg (fun hh => d (of_decide_eq_true hh)), lt_eq, sm1]
            · rw [if_pos (show iI (u : Nat) ≤ iI (j : Nat) by rw [iI_le] <;> omega), if_neg c])
        have eT := r_isUnsure (s := k) hu (by omega) hV (fun q hq => by have := hB q hq; omega)
        rw [show on2 (some k) = (k : Int) from rfl, show on1 (some k) = (k : Int) from rfl, if_pos (show (0 : Int32) ≤ iI (k : Nat) by rw [i_0, iI_le] <;> omega), if_neg (show ¬ iI (k : Nat) = -1 by rw [i_m1, iI_eq] <;> omega), bd_some, if_neg s5, eL, bd_some]
        cases ht2 : fst0 (fun i => decide (U i = k)) u with
        | some i =>
          rw [ht2] at eT
          exact Or.inr ⟨3, pl1, _, _, _, _, _, by decide, rfl, Or.inr ⟨k, _, _, _, _, rfl, s5, eT, rfl⟩⟩
        | none =>
          rw [ht2] at eT
          refine Or.inl ⟨k, nx2, so2, st2, va2, wd2, _, _, _, _, _, sp2, so2', pl2, nu2, wd2', hk, fun i hi hh => ?_, ?_, rfl, s5, eT, u2, u3⟩
          · exact absurd (decide_eq_true hh) (by rw [fst_none _ _ (by omega) ht2 i (by omega) hi]; exact Bool.false_ne_true)
          · show bd (f_Reader_step t (iI (e : Nat)) nx1) _ = _
            rw [u1, bd_some]
      | none =>
        rw [show on2 none = (-2 : Int) from rfl, show on1 none = (-1 : Int) from rfl, if_neg (show ¬ (0 : Int32) ≤ iI (-2) by decide), if_pos (show iI (-1) = -1 from rfl), n_flaw s5, bd_some, bd_some, if_pos rfl]
        exact Or.inr ⟨2, pl1, _, _, _, _, _, by decide, rfl, Or.inl ⟨_, _, _, _, rfl⟩⟩
    · rw [k2, k3, bd_some, bd_some, if_neg (show ¬ (0 : Int32) ≤ -1 by decide), if_pos rfl, bd_some, if_neg (show ¬ (0 : Int32) = -1 by decide), bd_some, if_pos rfl]
      exact Or.inr ⟨k, _, _, _, _, _, _, k1, rfl, Or.inl ⟨_, _, _, _, rfl⟩⟩
  · rw [k2, k3, bd_some, bd_some, if_neg (show ¬ (0 : Int32) ≤ -1 by decide), o_goesOn, bd_some, bd_some, o_personAt hp, bd_some, if_pos rfl, bd_some, if_neg (show ¬ (0 : Int32) = -1 by decide), bd_some, if_pos rfl]
    exact Or.inr ⟨k, _, _, _, _, _, _, k1, rfl, Or.inl ⟨_, _, _, _, rfl⟩⟩
theorem e_pairT {u : Nat} {up run : Nat → Int32} {U : Nat → Nat} (ht : byOK t) (he : e ≤ 800) (hp : p ≤ 5) (h10 : n ≤ 10) (hu : u ≤ 6) (hn : ∀ i, i < p → WR (nm i) (rnm i)) (h1 : ar on n O) (h2 : ar ot n T) (g1 : ar ron n O) (g2 : ar rot n T) (hb : ∀ k, k < n → O k < p ∧ T k < p ∧ O k ≠ T k) (hU : ar up u U) (hV : ar run u U) (hB : ∀ i, i < u → U i < n) (h : tkR e lo nx so st va wd sp so' pl nu wd') :
    (∃ k : Nat, ∃ nx2 so2 st2 va2 wd2 sp1 so1' pl1 nu1 wd1' sp2 so2' pl2 nu2 wd2', k < n ∧ (∀ i, i < u → U i ≠ k) ∧ f_Parser_pairTold_X (iI (u : Nat)) nm fn fp t (iI (e : Nat)) nx so st va wd up (iI (p : Nat)) on ot (iI (n : Nat)) = some (iI (k : Nat), fn, fp, nx2, so2, st2, va2, wd2) ∧ f_M_pairAt t (iI (e : Nat)) sp so' pl nu f w wd' (iI (p : Nat)) (iI (n : Nat)) ron rot rnm = some (iI (k : Nat), sp1, so1', pl1, nu1, f, w, wd1') ∧ ¬ so1' = 5 ∧ f_Tab_isTried (iI (k : Nat)) (iI (u : Nat)) run = some 0 ∧ f_M_goesOn t (iI (e : Nat)) sp1 so1' pl1 nu1 wd1' = some (sp2, so2', pl2, nu2, wd2') ∧ tkR e lo nx2 so2 st2 va2 wd2 sp2 so2' pl2 nu2 wd2') ∨
    (∃ kk q nx2 so2 st2 va2 wd2, (0 : Int32) < kk ∧ f_Parser_pairTold_X (iI (u : Nat)) nm fn fp t (iI (e : Nat)) nx so st va wd up (iI (p : Nat)) on ot (iI (n : Nat)) = some (-1, kk, q, nx2, so2, st2, va2, wd2) ∧ ((∃ sp1 pl1 nu1 wd1', f_M_pairAt t (iI (e : Nat)) sp so' pl nu f w wd' (iI (p : Nat)) (iI (n : Nat)) ron rot rnm = some (0, sp1, 5, pl1, nu1, kk, q, wd1')) ∨ (∃ k : Nat, ∃ sp1 so1' nu1 wd1', f_M_pairAt t (iI (e : Nat)) sp so' pl nu f w wd' (iI (p : Nat)) (iI (n : Nat)) ron rot rnm = some (iI (k : Nat), sp1, so1', q, nu1, f, w, wd1') ∧ ¬ so1' = 5 ∧ f_Tab_isTried (iI (k : Nat)) (iI (u : Nat)) run = some 1 ∧ kk = 3))) := by
  have h5 := tk_5 h
  unfold f_Parser_pairTold_X f_M_pairAt f_M_readPerson
  rcases e_person (fn := fn) (fp := fp) (f := f) (w := w) hp hn h with ⟨a, a1, a2, a3⟩ | ⟨k, k1, k2, k3⟩
  · rw [a2, a3, bd_some, bd_some, if_pos (show (0 : Int32) ≤ iI (a : Nat) by rw [i_0, iI_le] <;> omega)]
    obtain ⟨nx1, so1, st1, va1, wd1, sp1, so1', pl1, nu1, wd1', s1, s2, s3, -⟩ := e_stp ht he h
    have s5 := tk_5 s3
    have spl := tk_pl s3
    subst spl
    rw [s1, s2, bd_some, bd_some, bd_some]
    rcases e_person (fn := fn) (fp := fp) (f := f) (w := w) hp hn s3 with ⟨b, b1, b2, b3⟩ | ⟨k, k1, k2, k3⟩
    · rw [b2, b3, bd_some, bd_some, if_pos (show (0 : Int32) ≤ iI (b : Nat) by rw [i_0, iI_le] <;> omega), if_neg s5, q_find1 (by omega) h1 h2 (fun k hk => by have := hb k hk; exact ⟨by omega, by omega, this.2.2⟩) (by omega) (by omega), r_tpairOf (by omega) g1 g2 (fun k hk => by have := hb k hk; exact ⟨by omega, by omega⟩) (by omega) (by omega), bd_some, bd_some, bd_some]
      cases hf : fst0 (isP O T a b) n with
      | some k =>
        have hk := (fst_lt _ _ _ hf).1
        obtain ⟨nx2, so2, st2, va2, wd2, sp2, so2', pl2, nu2, wd2', u1, u2, u3, -⟩ := e_stp ht he s3
        have eL : f_Parser_pairTold_X_L62 (iI (u : Nat)) (iI (k : Nat)) fn fp nx1 so1 pl1 va1 wd1 up fu 0 = some (match fst0 (fun i => decide (U i = k)) u with | some i => .inl ((-1 : Int32), (3 : Int32), pl1, nx1, so1, pl1, va1, wd1) | none => .inr (fn, fp)) :=
          lpS0 (L := fun f j => f_Parser_pairTold_X_L62 (iI (u : Nat)) (iI (k : Nat)) fn fp nx1 so1 pl1 va1 wd1 up f j) (P := fun i => decide (U i = k)) (n := u) (A := fun _ => ((-1 : Int32), (3 : Int32), pl1, nx1, so1, pl1, va1, wd1)) (B := (fn, fp)) (by omega) (fun f j hj => by
            simp only [f_Parser_pairTold_X_L62]
            by_cases c : j < u
            · have b := hB j c
              rw [if_neg (show ¬ iI (u : Nat) ≤ iI (j : Nat) by rw [iI_le] <;> omega), if_pos c, iI_ck (show j < 6 by omega) (by omega), iI_cl (by omega), hU j c]
              by_cases d : U j = k
              · rw [if_pos (by rw [d]), if_pos (decide_eq_true d)]; rfl
              · rw [if_neg (show ¬ iI (U j : Nat) = iI (k : Nat) by rw [iI_eq] <;> omega), if_neg (fun hh => d (of_decide_eq_true hh)), lt_eq, sm1]
            · rw [if_pos (show iI (u : Nat) ≤ iI (j : Nat) by rw [iI_le] <;> omega), if_neg c])
        have eT := r_isTried (s := k) hu (by omega) hV (fun q hq => by have := hB q hq; omega)
        rw [show on2 (some k) = (k : Int) from rfl, show on1 (some k) = (k : Int) from rfl, if_pos (show (0 : Int32) ≤ iI (k : Nat) by rw [i_0, iI_le] <;> omega), if_neg (show ¬ iI (k : Nat) = -1 by rw [i_m1, iI_eq] <;> omega), bd_some, if_neg s5, eL, bd_some]
        cases ht2 : fst0 (fun i => decide (U i = k)) u with
        | some i =>
          rw [ht2] at eT
          exact Or.inr ⟨3, pl1, _, _, _, _, _, by decide, rfl, Or.inr ⟨k, _, _, _, _, rfl, s5, eT, rfl⟩⟩
        | none =>
          rw [ht2] at eT
          refine Or.inl ⟨k, nx2, so2, st2, va2, wd2, _, _, _, _, _, sp2, so2', pl2, nu2, wd2', hk, fun i hi hh => ?_, ?_, rfl, s5, eT, u2, u3⟩
          · exact absurd (decide_eq_true hh) (by rw [fst_none _ _ (by omega) ht2 i (by omega) hi]; exact Bool.false_ne_true)
          · show bd (f_Reader_step t (iI (e : Nat)) nx1) _ = _
            rw [u1, bd_some]
      | none =>
        rw [show on2 none = (-2 : Int) from rfl, show on1 none = (-1 : Int) from rfl, if_neg (show ¬ (0 : Int32) ≤ iI (-2) by decide), if_pos (show iI (-1) = -1 from rfl), n_flaw s5, bd_some, bd_some, if_pos rfl]
        exact Or.inr ⟨2, pl1, _, _, _, _, _, by decide, rfl, Or.inl ⟨_, _, _, _, rfl⟩⟩
    · rw [k2, k3, bd_some, bd_some, if_neg (show ¬ (0 : Int32) ≤ -1 by decide), if_pos rfl, bd_some, if_neg (show ¬ (0 : Int32) = -1 by decide), bd_some, if_pos rfl]
      exact Or.inr ⟨k, _, _, _, _, _, _, k1, rfl, Or.inl ⟨_, _, _, _, rfl⟩⟩
  · rw [k2, k3, bd_some, bd_some, if_neg (show ¬ (0 : Int32) ≤ -1 by decide), o_goesOn, bd_some, bd_some, o_personAt hp, bd_some, if_pos rfl, bd_some, if_neg (show ¬ (0 : Int32) = -1 by decide), bd_some, if_pos rfl]
    exact Or.inr ⟨k, _, _, _, _, _, _, k1, rfl, Or.inl ⟨_, _, _, _, rfl⟩⟩
theorem e_unsureL {uy rma : Nat → Int32} {rs : Int32} {u : Nat} {up run : Nat → Int32} {U : Nat → Nat} (ht : byOK t) (he : e ≤ 800) (hrs : ¬ rs = 0) (hp : p ≤ 5) (h10 : n ≤ 10) (hu : u < 4) (hn : ∀ i, i < p → WR (nm i) (rnm i)) (h1 : ar on n O) (h2 : ar ot n T) (g1 : ar ron n O) (g2 : ar rot n T) (hb : ∀ k, k < n → O k < p ∧ T k < p ∧ O k ≠ T k) (hU : ar up u U) (hV : ar run u U) (hB : ∀ i, i < u → U i < n) (hg : f_M_goesOn t (iI (e : Nat)) sp0 so0 pl0 nu0 wd0 = some (sp, so', pl, nu, wd')) (h : tkR e lo nx so st va wd sp so' pl nu wd') :
    (∃ k v : Nat, ∃ nx2 so2 st2 va2 wd2 sp2 so2' pl2 nu2 wd2', k < n ∧ v ≤ 99 ∧ f_Parser_unsureLine nm fn fp t (iI (e : Nat)) nx so st va wd up uy (iI (p : Nat)) (iI (u : Nat)) on ot (iI (n : Nat)) = some (1, fn, fp, nx2, so2, st2, va2, wd2, upd up u (iI (k : Nat)), upd uy u (iI (v : Nat)), iI ((u + 1 : Nat) : Int)) ∧ f_M_readUnsure t (iI (e : Nat)) sp0 so0 pl0 nu0 f w wd0 rs (iI (p : Nat)) (iI (n : Nat)) (iI (u : Nat)) ron rot run rma rnm = some (sp2, so2', pl2, nu2, f, w, wd2', iI ((u + 1 : Nat) : Int), upd run u (iI (k : Nat)), upd rma u (iI (v : Nat))) ∧ tkR e lo nx2 so2 st2 va2 wd2 sp2 so2' pl2 nu2 wd2') ∨
    (∃ R R', f_Parser_unsureLine nm fn fp t (iI (e : Nat)) nx so st va wd up uy (iI (p : Nat)) (iI (u : Nat)) on ot (iI (n : Nat)) = some R ∧ f_M_readUnsure t (iI (e : Nat)) sp0 so0 pl0 nu0 f w wd0 rs (iI (p : Nat)) (iI (n : Nat)) (iI (u : Nat)) ron rot run rma rnm = some R' ∧ bad3 R.1 R.2.1 R.2.2.1 R'.2.1 R'.2.2.2.2.1 R'.2.2.2.2.2.1) := by
  unfold f_Parser_unsureLine f_M_readUnsure
  rw [lb_go (show ¬ iI (u : Nat) = 4 by rw [i_4, iI_eq] <;> omega) hrs hg, bd_some]
  rcases e_pairU (fn := fn) (fp := fp) (f := f) (w := w) ht he hp h10 (by omega) hn h1 h2 g1 g2 hb hU hV hB h with ⟨k, nx2, so2, st2, va2, wd2, sp1, so1', pl1, nu1, wd1', sp2, so2', pl2, nu2, wd2', q1, -, q3, q4, q5, q6, q7, q8⟩ | ⟨kk, q, nx2, so2, st2, va2, wd2, q1, q2, ⟨sp1, pl1, nu1, wd1', q3⟩ | ⟨k, sp1, so1', nu1, wd1', q3, q4, q5, rfl⟩⟩
  · rw [q3, q4, bd_some, bd_some, if_neg (show ¬ iI (k : Nat) < 0 by rw [i_0, iI_lt] <;> omega), if_neg q5, q6, bd_some, if_pos rfl, bd_some, if_pos rfl, bd_some, q7, bd_some]
    unfold f_M_readWhole
    rcases e_whole (fn := fn) (fp := fp) (f := f) (w := w) (l := 0) (hi := 99) (L := 0) (H := 99) rfl rfl (by omega) (by omega) q8 with ⟨v, v1, v2, rfl, v4, v5⟩ | ⟨k', k1, k2, k3⟩
    · obtain ⟨nx3, so3, st3, va3, wd3, sp3, so3', pl3, nu3, wd3', t1, t2, t3, -⟩ := e_stp ht he q8
      rw [v4, v5, bd_some, bd_some, if_neg (show ¬ (1 : Int32) = 0 by decide), iI_ck hu (by omega), iI_ck hu (by omega), lt_eq, t1, t2, bd_some, bd_some, bd_some, if_neg (tk_5 t3), iI_ck hu (by omega), iI_ck hu (by omega), lt_eq, sm1, iI_cl (by omega)]
      exact Or.inl ⟨k, v, _, _, _, _, _, _, _, _, _, _, q1, v2, rfl, rfl, t3⟩
    · rw [k2, k3, bd_some, bd_some, if_pos rfl, o_goesOn, bd_some, bd_some, if_pos rfl]
      exact Or.inr ⟨_, _, rfl, rfl, rfl, rfl, k1, rfl, rfl⟩
  · rw [q2, q3, bd_some, bd_some, if_pos (show (-1 : Int32) < 0 by decide), if_pos rfl, bd_some, if_pos rfl, bd_some, o_goesOn, bd_some, o_readWhole, bd_some, if_pos rfl]
    exact Or.inr ⟨_, _, rfl, rfl, rfl, rfl, q1, rfl, rfl⟩
  · rw [q2, q3, bd_some, bd_some, if_pos (show (-1 : Int32) < 0 by decide), if_neg q4, q5, bd_some, if_neg (show ¬ (1 : Int32) = 0 by decide), bd_some, if_neg Bool.false_ne_true, n_flaw q4, bd_some, bd_some, o_goesOn, bd_some, o_readWhole, bd_some, if_pos rfl]
    exact Or.inr ⟨_, _, rfl, rfl, rfl, rfl, q1, rfl, rfl⟩
theorem o_unsure {k q sp1 pl1 nu1 rs : Int32} {wd1 : Int64} {u : Nat} {run rma : Nat → Int32} (hp : p ≤ 5) (hl : f_M_lineBegins (iI (u : Nat)) 4 t (iI (e : Nat)) sp0 so0 pl0 nu0 f w wd0 rs = some (sp1, 5, pl1, nu1, k, q, wd1)) : f_M_readUnsure t (iI (e : Nat)) sp0 so0 pl0 nu0 f w wd0 rs (iI (p : Nat)) (iI (n : Nat)) (iI (u : Nat)) ron rot run rma rnm = some (sp1, 5, pl1, nu1, k, q, wd1, iI (u : Nat), run, rma) := by
  unfold f_M_readUnsure
  rw [hl, bd_some, o_pairAt hp, bd_some, if_pos rfl, bd_some, if_pos rfl, bd_some, o_goesOn, bd_some, o_readWhole, bd_some, if_pos rfl]
theorem e_triedL {fd : Nat} (hfd : fd < 64) {rs : Int32} {u : Nat} {up run : Nat → Int32} {U : Nat → Nat} (ht : byOK t) (he : e ≤ 800) (hrs : ¬ rs = 0) (hp : p ≤ 5) (h10 : n ≤ 10) (hu : u < 6) (hn : ∀ i, i < p → WR (nm i) (rnm i)) (h1 : ar on n O) (h2 : ar ot n T) (g1 : ar ron n O) (g2 : ar rot n T) (hb : ∀ k, k < n → O k < p ∧ T k < p ∧ O k ≠ T k) (hU : ar up u U) (hV : ar run u U) (hB : ∀ i, i < u → U i < n) (hg : f_M_goesOn t (iI (e : Nat)) sp0 so0 pl0 nu0 wd0 = some (sp, so', pl, nu, wd')) (h : tkR e lo nx so st va wd sp so' pl nu wd') :
    (∃ k fd' : Nat, ∃ nx2 so2 st2 va2 wd2 sp2 so2' pl2 nu2 wd2', k < n ∧ fd' < 64 ∧ f_Parser_triedLine nm fn fp t (iI (e : Nat)) nx so st va wd up (iI (p : Nat)) (iI (u : Nat)) (iI (fd : Nat)) on ot (iI (n : Nat)) = some (1, fn, fp, nx2, so2, st2, va2, wd2, upd up u (iI (k : Nat)), iI ((u + 1 : Nat) : Int), iI (fd' : Nat)) ∧ f_M_readTried t (iI (e : Nat)) sp0 so0 pl0 nu0 f w wd0 rs (iI (p : Nat)) (iI (n : Nat)) (iI (u : Nat)) (iI (fd : Nat)) ron rot run rnm = some (sp2, so2', pl2, nu2, f, w, wd2', iI ((u + 1 : Nat) : Int), iI (fd' : Nat), upd run u (iI (k : Nat))) ∧ tkR e lo nx2 so2 st2 va2 wd2 sp2 so2' pl2 nu2 wd2') ∨
    (∃ R R', f_Parser_triedLine nm fn fp t (iI (e : Nat)) nx so st va wd up (iI (p : Nat)) (iI (u : Nat)) (iI (fd : Nat)) on ot (iI (n : Nat)) = some R ∧ f_M_readTried t (iI (e : Nat)) sp0 so0 pl0 nu0 f w wd0 rs (iI (p : Nat)) (iI (n : Nat)) (iI (u : Nat)) (iI (fd : Nat)) ron rot run rnm = some R' ∧ bad3 R.1 R.2.1 R.2.2.1 R'.2.1 R'.2.2.2.2.1 R'.2.2.2.2.2.1) := by
  unfold f_Parser_triedLine f_M_readTried
  rw [lb_go (show ¬ iI (u : Nat) = 6 by rw [i_6, iI_eq] <;> omega) hrs hg, bd_some]
  rcases e_pairT (fn := fn) (fp := fp) (f := f) (w := w) ht he hp h10 (by omega) hn h1 h2 g1 g2 hb hU hV hB h with ⟨k, nx2, so2, st2, va2, wd2, sp1, so1', pl1, nu1, wd1', sp2, so2', pl2, nu2, wd2', q1, -, q3, q4, q5, q6, q7, q8⟩ | ⟨kk, q, nx2, so2, st2, va2, wd2, q1, q2, ⟨sp1, pl1, nu1, wd1', q3⟩ | ⟨k, sp1, so1', nu1, wd1', q3, q4, q5, rfl⟩⟩
  · have h5 := tk_5 q8
    have hpl := tk_pl q8
    subst hpl
    rw [q3, q4, bd_some, bd_some, if_pos (show (0 : Int32) ≤ iI (k : Nat) by rw [i_0, iI_le] <;> omega), if_neg q5, q6, bd_some, if_pos rfl, bd_some, if_pos rfl, bd_some, q7, bd_some, r_isWord q8 kw_fed, bd_some, r_isWord q8 kw_starved]
    simp only [lg0]
    obtain ⟨nx3, so3, st3, va3, wd3, sp3, so3', pl3, nu3, wd3', t1, t2, t3, -⟩ := e_stp ht he q8
    by_cases c : wd2 = 6710628
    · rw [if_pos c, if_pos c, if_pos c, bd_some, if_pos rfl, iI_ck hu (by omega), lt_eq, bd_some, lt_eq, t1, bd_some, if_neg (show ¬ (1 : Int32) = 0 by decide), bd_some, if_pos rfl, bd_some, t2, bd_some, if_neg (tk_5 t3), iI_ck hu (by omega), if_neg (show ¬ (1 : Int32) = 0 by decide), bd_some, lt_eq, lt_eq, sm1, iI_cl (by omega), iI_shl1 (by omega), iI_or]
      refine Or.inl ⟨k, fd ||| 2 ^ u, _, _, _, _, _, _, _, _, _, _, q1, ?_, rfl, rfl, t3⟩
      exact Nat.or_lt_two_pow (n := 6) hfd (Nat.pow_lt_pow_right (by omega) (by omega))
    · rw [if_neg c, if_neg c, if_neg c]
      by_cases d : wd2 = 32497584202736996
      · rw [if_pos d, bd_some, if_pos rfl, iI_ck hu (by omega), bd_some, lt_eq, t1, bd_some, if_pos rfl, if_pos d, bd_some, if_neg (show ¬ (1 : Int32) = 0 by decide), bd_some, if_pos rfl, bd_some, t2, bd_some, if_neg (tk_5 t3), iI_ck hu (by omega), if_pos rfl, bd_some, lt_eq, lt_eq, sm1, iI_cl (by omega), Int32.or_zero]
        exact Or.inl ⟨k, fd, _, _, _, _, _, _, _, _, _, _, q1, hfd, rfl, rfl, t3⟩
      · rw [if_neg d, bd_some, if_neg Bool.false_ne_true, if_pos rfl, if_neg d, bd_some, if_pos rfl, bd_some, if_neg Bool.false_ne_true, n_flaw h5, bd_some, bd_some, o_goesOn, bd_some, if_pos rfl]
        exact Or.inr ⟨_, _, rfl, rfl, rfl, rfl, (by decide : (0 : Int32) < 1), rfl, rfl⟩
  · rw [q2, q3, bd_some, bd_some, if_neg (show ¬ (0 : Int32) ≤ -1 by decide), if_pos rfl, bd_some, if_pos rfl, bd_some, o_goesOn, bd_some, o_isWord, bd_some, if_pos rfl, o_isWord, bd_some, if_pos rfl, bd_some, if_neg Bool.false_ne_true, o_flaw, bd_some, bd_some, o_goesOn, bd_some, if_pos rfl]
    exact Or.inr ⟨_, _, rfl, rfl, rfl, rfl, q1, rfl, rfl⟩
  · rw [q2, q3, bd_some, bd_some, if_neg (show ¬ (0 : Int32) ≤ -1 by decide), if_neg q4, q5, bd_some, if_neg (show ¬ (1 : Int32) = 0 by decide), bd_some, if_neg Bool.false_ne_true, n_flaw q4, bd_some, bd_some, o_goesOn, bd_some, o_isWord, bd_some, if_pos rfl, o_isWord, bd_some, if_pos rfl, bd_some, if_neg Bool.false_ne_true, o_flaw, bd_some, bd_some, o_goesOn, bd_some, if_pos rfl]
    exact Or.inr ⟨_, _, rfl, rfl, rfl, rfl, q1, rfl, rfl⟩
theorem o_tried {k q sp1 pl1 nu1 rs : Int32} {wd1 : Int64} {u fd : Nat} {run : Nat → Int32} (hp : p ≤ 5) (hl : f_M_lineBegins (iI (u : Nat)) 6 t (iI (e : Nat)) sp0 so0 pl0 nu0 f w wd0 rs = some (sp1, 5, pl1, nu1, k, q, wd1)) : f_M_readTried t (iI (e : Nat)) sp0 so0 pl0 nu0 f w wd0 rs (iI (p : Nat)) (iI (n : Nat)) (iI (u : Nat)) (iI (fd : Nat)) ron rot run rnm = some (sp1, 5, pl1, nu1, k, q, wd1, iI (u : Nat), iI (fd : Nat), run) := by
  unfold f_M_readTried
  rw [hl, bd_some, o_pairAt hp, bd_some, if_pos rfl, bd_some, if_pos rfl, bd_some, o_goesOn, bd_some, o_isWord, bd_some, if_pos rfl, o_isWord, bd_some, if_pos rfl, bd_some, if_neg Bool.false_ne_true, o_flaw, bd_some, bd_some, o_goesOn, bd_some, if_pos rfl]
end
end
