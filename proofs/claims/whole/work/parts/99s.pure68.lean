/-! behind a flaw: nothing moves -/
theorem o_flaw (k pl f w : Int32) : f_M_flaw k 5 pl f w = some (5, f, w) := by unfold f_M_flaw; rw [if_pos rfl]
theorem n_flaw {so : Int32} (h : ¬ so = 5) (k pl f w : Int32) : f_M_flaw k so pl f w = some (5, k, pl) := by unfold f_M_flaw; rw [if_neg h]
theorem o_goesOn (t : Nat → Int32) (e sp pl nu : Int32) (wd : Int64) : f_M_goesOn t e sp 5 pl nu wd = some (sp, 5, pl, nu, wd) := by unfold f_M_goesOn; rw [if_pos rfl]
theorem o_isWord (k wd : Int64) : f_M_isWord k 5 wd = some 0 := by unfold f_M_isWord; rw [if_neg (show ¬ (5 : Int32) = 2 by decide), bd_some, if_pos rfl]
theorem o_isName (wd : Int64) : f_M_isName 5 wd = some 0 := by unfold f_M_isName; rw [if_neg (show ¬ (5 : Int32) = 2 by decide), bd_some, if_pos rfl]
theorem o_wholeAt (l h pl nu f w : Int32) : f_M_wholeAt l h 5 pl nu f w = some (l, 5, f, w) := by unfold f_M_wholeAt; rw [if_neg (show ¬ (5 : Int32) = 3 by decide), o_flaw, bd_some, bd_some, if_pos rfl]
theorem o_readWhole (l h : Int32) (t : Nat → Int32) (e sp pl nu f w : Int32) (wd : Int64) : f_M_readWhole l h t e sp 5 pl nu f w wd = some (l, sp, 5, pl, nu, f, w, wd) := by unfold f_M_readWhole; rw [o_wholeAt, bd_some, o_goesOn, bd_some]
theorem o_needs (k : Int64) (t : Nat → Int32) (e sp pl nu f w : Int32) (wd : Int64) : f_M_needs k t e sp 5 pl nu f w wd = some (sp, 5, pl, nu, f, w, wd) := by unfold f_M_needs; rw [o_isWord, bd_some, if_pos rfl, o_flaw, bd_some, bd_some, o_goesOn, bd_some]
theorem o_readPart (k : Int64) (l h : Int32) (t : Nat → Int32) (e sp pl nu f w : Int32) (wd : Int64) : f_M_readPart k l h t e sp 5 pl nu f w wd = some (l, sp, 5, pl, nu, f, w, wd) := by unfold f_M_readPart; rw [o_needs, bd_some, o_readWhole, bd_some]
theorem o_personAt {p : Nat} (hp : p ≤ 5) (pl f w : Int32) (wd : Int64) (nm : Nat → Int64) : f_M_personAt 5 pl f w wd (iI (p : Nat)) nm = some (0, 5, f, w) := by
  unfold f_M_personAt
  rw [o_isName, bd_some, if_pos rfl, o_flaw, bd_some, bd_some, r_tfind hp, bd_some]
  split
  · rw [o_flaw, bd_some, bd_some, if_pos rfl]
  · rw [bd_some, if_pos rfl]
theorem o_readPerson {p : Nat} (hp : p ≤ 5) (t : Nat → Int32) (e sp pl nu f w : Int32) (wd : Int64) (nm : Nat → Int64) : f_M_readPerson t e sp 5 pl nu f w wd (iI (p : Nat)) nm = some (0, sp, 5, pl, nu, f, w, wd) := by unfold f_M_readPerson; rw [o_personAt hp, bd_some, o_goesOn, bd_some]
theorem o_pairAt {p : Nat} (hp : p ≤ 5) (t : Nat → Int32) (e sp pl nu f w : Int32) (wd : Int64) (n : Int32) (on ot : Nat → Int32) (nm : Nat → Int64) : f_M_pairAt t e sp 5 pl nu f w wd (iI (p : Nat)) n on ot nm = some (0, sp, 5, pl, nu, f, w, wd) := by unfold f_M_pairAt; rw [o_readPerson hp, bd_some, o_personAt hp, bd_some, if_pos rfl, bd_some, if_neg (show ¬ (0 : Int32) = -1 by decide), bd_some, if_pos rfl]
/-! one test beside the other -/
section
variable {e lo : Nat} {nx so st va : Int32} {wd : Int64} {sp so' pl nu : Int32} {wd' : Int64} {t : Nat → Int32} {fn fp f w : Int32}
theorem tk_w (h : tkR e lo nx so st va wd sp so' pl nu wd') : (so' = 2 ∧ WR wd wd') ∨ (¬ so' = 2 ∧ wd = 0) := by
  obtain ⟨a, s, -, -, -, -, -, -, -, hh⟩ := h
  rcases hh with ⟨-, rfl, h⟩ | ⟨-, h1, h2⟩ | ⟨-, rfl, h, -⟩ | ⟨-, rfl, h, -⟩ | ⟨-, rfl, h⟩
  · exact Or.inr ⟨by decide, h⟩
  · exact Or.inl ⟨h1, h2⟩
  · exact Or.inr ⟨by decide, h⟩
  · exact Or.inr ⟨by decide, h⟩
  · exact Or.inr ⟨by decide, h⟩
theorem tk_5 (h : tkR e lo nx so st va wd sp so' pl nu wd') : ¬ so' = 5 := by
  obtain ⟨a, s, -, -, -, -, -, -, -, hh⟩ := h
  rcases hh with ⟨-, rfl, h⟩ | ⟨-, rfl, h2⟩ | ⟨-, rfl, h, -⟩ | ⟨-, rfl, h, -⟩ | ⟨-, rfl, h⟩ <;> decide
theorem tk_pl (h : tkR e lo nx so st va wd sp so' pl nu wd') : pl = st := by
  obtain ⟨a, s, -, -, -, -, -, h1, h2, hh⟩ := h
  rw [h1, h2]
theorem e_stp (ht : byOK t) (he : e ≤ 800) (h : tkR e lo nx so st va wd sp so' pl nu wd') : ∃ nx2 so2 st2 va2 wd2 sp2 so2' pl2 nu2 wd2', f_Reader_step t (iI (e : Nat)) nx = some (nx2, so2, st2, va2, wd2) ∧ f_M_goesOn t (iI (e : Nat)) sp so' pl nu wd' = some (sp2, so2', pl2, nu2, wd2') ∧ tkR e lo nx2 so2 st2 va2 wd2 sp2 so2' pl2 nu2 wd2' ∧ (so = 3 → tkR e (lo + 1) nx2 so2 st2 va2 wd2 sp2 so2' pl2 nu2 wd2') := by
  have h5 := tk_5 h
  obtain ⟨a, s, h1, h2, h3, rfl, rfl, -, -, hh⟩ := h
  obtain ⟨R, R', r1, r2, r3⟩ := e_step0 (so := so') (pl := pl) (nu := nu) (wd := wd') ht he h3 h5
  refine ⟨R.1, R.2.1, R.2.2.1, R.2.2.2.1, R.2.2.2.2, R'.1, R'.2.1, R'.2.2.1, R'.2.2.2.1, R'.2.2.2.2, r1, r2, tkR_mono r3 (by omega), fun h3 => ?_⟩
  subst h3
  rcases hh with ⟨q, -⟩ | ⟨q, -⟩ | ⟨q, -⟩ | ⟨-, -, -, q⟩ | ⟨q, -⟩
  · exact absurd q (by decide)
  · exact absurd q (by decide)
  · exact absurd q (by decide)
  · exact tkR_mono r3 (by omega)
  · exact absurd q (by decide)
theorem r_isWord {kc km : Int64} (h : tkR e lo nx so st va wd sp so' pl nu wd') (hk : WR kc km) : f_M_isWord km so' wd' = some (if wd = kc then 1 else 0) := by
  unfold f_M_isWord
  rcases tk_w h with ⟨h1, h2⟩ | ⟨h1, h2⟩
  · rw [if_pos h1]
    have hh := WR_eq h2 hk
    by_cases c : wd = kc
    · rw [if_pos ((lg0 _ _).mpr (hh.mp c)), bd_some, if_neg Bool.false_ne_true, if_pos c]
    · rw [if_neg (fun q => c (hh.mpr ((lg0 _ _).mp q))), bd_some, if_pos rfl, if_neg c]
  · rw [if_neg h1, bd_some, if_pos rfl, if_neg (fun q => WR_0 hk (q.symm.trans h2))]
def useN (w : Int64) : Nat := if w = 499850046565 then 0 else if w = 123581014175598 then 1 else if w = 1718579819 then 2 else if w = 461414299502 then 3 else if w = 129117243929189 then 4 else if w = 500135716196 then 5 else if w = 0 then 7 else 6
theorem q_use (w : Int64) : f_Parser_useOfWord w = some (iI (useN w : Nat)) := by
  unfold f_Parser_useOfWord useN
  simp only [lg0]
  by_cases c0 : w = 499850046565
  · rw [if_pos c0, if_pos c0]; rfl
  rw [if_neg c0, if_neg c0]
  by_cases c1 : w = 123581014175598
  · rw [if_pos c1, if_pos c1]; rfl
  rw [if_neg c1, if_neg c1]
  by_cases c2 : w = 1718579819
  · rw [if_pos c2, if_pos c2]; rfl
  rw [if_neg c2, if_neg c2]
  by_cases c3 : w = 461414299502
  · rw [if_pos c3, if_pos c3]; rfl
  rw [if_neg c3, if_neg c3]
  by_cases c4 : w = 129117243929189
  · rw [if_pos c4, if_pos c4]; rfl
  rw [if_neg c4, if_neg c4]
  by_cases c5 : w = 500135716196
  · rw [if_pos c5, if_pos c5]; rfl
  rw [if_neg c5, if_neg c5]
  by_cases c6 : w = 0
  · rw [if_pos c6, if_pos c6]; rfl
  rw [if_neg c6, if_neg c6]; rfl
theorem r_isName (h : tkR e lo nx so st va wd sp so' pl nu wd') : f_M_isName so' wd' = some (if useN wd = 6 then 1 else 0) := by
  unfold f_M_isName
  rw [r_isWord h kw_table, r_isWord h kw_person, r_isWord h kw_fork, r_isWord h kw_known, r_isWord h kw_unsure, r_isWord h kw_tried]
  rcases tk_w h with ⟨h1, h2⟩ | ⟨h1, h2⟩
  · have h0 := WR_0 h2
    rw [if_pos h1]
    unfold useN
    simp only [bd_some]
    by_cases c0 : wd = 499850046565
    · simp only [if_pos c0]; rfl
    simp only [if_neg c0]
    by_cases c1 : wd = 123581014175598
    · simp only [if_pos c1]; rfl
    simp only [if_neg c1]
    by_cases c2 : wd = 1718579819
    · simp only [if_pos c2]; rfl
    simp only [if_neg c2]
    by_cases c3 : wd = 461414299502
    · simp only [if_pos c3]; rfl
    simp only [if_neg c3]
    by_cases c4 : wd = 129117243929189
    · simp only [if_pos c4]; rfl
    simp only [if_neg c4]
    by_cases c5 : wd = 500135716196
    · simp only [if_pos c5]; rfl
    simp only [if_neg c5, if_neg h0]; rfl
  · rw [if_neg h1, h2, if_neg (show ¬ useN 0 = 6 by decide), bd_some, if_pos rfl]
theorem e_whole {l hi : Nat} {L H : Int32} (hL : L = iI (l : Nat)) (hH : H = iI (hi : Nat)) (hl : l ≤ 1000) (hh : hi ≤ 1000) (h : tkR e lo nx so st va wd sp so' pl nu wd') : (∃ v : Nat, l ≤ v ∧ v ≤ hi ∧ va = iI (v : Nat) ∧ f_Parser_isWhole L H fn fp so st va = some (1, fn, fp) ∧ f_M_wholeAt L H so' pl nu f w = some (iI (v : Nat), so', f, w)) ∨ (∃ k, (0 : Int32) < k ∧ f_Parser_isWhole L H fn fp so st va = some (0, k, st) ∧ f_M_wholeAt L H so' pl nu f w = some (L, 5, k, st)) := by
  have h5 := tk_5 h
  have hp := tk_pl h
  subst hp
  subst hL
  subst hH
  unfold f_Parser_isWhole f_M_wholeAt f_Parser_wrong f_M_in
  obtain ⟨a, s, -, -, -, -, -, -, -, hq⟩ := h
  have bad : ∀ so, ¬ so = 2 → ¬ so' = 3 → (∃ k, (0 : Int32) < k ∧ (if so = (2 : Int32) then bd (if va < iI (l : Nat) then some true else if va ≤ iI (hi : Nat) then some false else some true : Option Bool) (fun b1 => if b1 = true then bd (some ((0 : Int32), (4 : Int32), pl)) (fun x2 => if x2.1 = 0 then some ((0 : Int32), x2.2.1, x2.2.2) else some ((1 : Int32), x2.2.1, x2.2.2)) else some ((1 : Int32), fn, fp)) else bd (some ((0 : Int32), (1 : Int32), pl)) (fun x3 => some (x3.1, x3.2.1, x3.2.2))) = some (0, k, pl) ∧ (bd (if so' = (3 : Int32) then bd (bd (if nu < iI (l : Nat) then some true else if iI (hi : Nat) < nu then some true else some false : Option Bool) (fun b1 => if b1 = true then some (0 : Int32) else some (1 : Int32))) (fun x2 => if x2 = 0 then bd (f_M_flaw (4 : Int32) so' pl f w) (fun x3 => some (x3.1, x3.2.1, x3.2.2)) else some (so', f, w)) else bd (f_M_flaw (1 : Int32) so' pl f w) (fun x4 => some (x4.1, x4.2.1, x4.2.2)) : Option (Int32 × Int32 × Int32)) (fun x1 => if x1.1 = (5 : Int32) then some (iI (l : Nat), x1.1, x1.2.1, x1.2.2) else some (nu, x1.1, x1.2.1, x1.2.2))) = some (iI (l : Nat), 5, k, pl)) := by
    intro so q1 q2
    refine ⟨1, by decide, ?_, ?_⟩
    · rw [if_neg q1, bd_some]
    · rw [if_neg q2, n_flaw h5, bd_some, bd_some, if_pos rfl]
  rcases hq with ⟨rfl, q, -⟩ | ⟨rfl, q, -⟩ | ⟨rfl, q, -, rfl, v, v1, rfl⟩ | ⟨rfl, q, -⟩ | ⟨rfl, q, -⟩
  · exact Or.inr (bad 0 (by decide) (by rw [q]; decide))
  · exact Or.inr (bad 1 (by decide) (by rw [q]; decide))
  · by_cases c1 : v < l
    · refine Or.inr ⟨4, by decide, ?_, ?_⟩
      · rw [if_pos rfl, if_pos (show iI (v : Nat) < iI (l : Nat) by rw [iI_lt] <;> omega), bd_some, if_pos rfl, bd_some, if_pos rfl]
      · rw [if_pos q, if_pos (show iI (v : Nat) < iI (l : Nat) by rw [iI_lt] <;> omega), bd_some, if_pos rfl, bd_some, if_pos rfl, n_flaw h5, bd_some, bd_some, if_pos rfl]
    · by_cases c2 : hi < v
      · refine Or.inr ⟨4, by decide, ?_, ?_⟩
        · rw [if_pos rfl, if_neg (show ¬ iI (v : Nat) < iI (l : Nat) by rw [iI_lt] <;> omega), if_neg (show ¬ iI (v : Nat) ≤ iI (hi : Nat) by rw [iI_le] <;> omega), bd_some, if_pos rfl, bd_some, if_pos rfl]
        · rw [if_pos q, if_neg (show ¬ iI (v : Nat) < iI (l : Nat) by rw [iI_lt] <;> omega), if_pos (show iI (hi : Nat) < iI (v : Nat) by rw [iI_lt] <;> omega), bd_some, if_pos rfl, bd_some, if_pos rfl, n_flaw h5, bd_some, bd_some, if_pos rfl]
      · refine Or.inl ⟨v, by omega, by omega, rfl, ?_, ?_⟩
        · rw [if_pos rfl, if_neg (show ¬ iI (v : Nat) < iI (l : Nat) by rw [iI_lt] <;> omega), if_pos (show iI (v : Nat) ≤ iI (hi : Nat) by rw [iI_le] <;> omega), bd_some, if_neg Bool.false_ne_true]
        · rw [if_pos q, if_neg (show ¬ iI (v : Nat) < iI (l : Nat) by rw [iI_lt] <;> omega), if_neg (show ¬ iI (hi : Nat) < iI (v : Nat) by rw [iI_lt] <;> omega), bd_some, if_neg Bool.false_ne_true, bd_some, if_neg (show ¬ (1 : Int32) = 0 by decide), bd_some, if_neg h5]
  · exact Or.inr (bad 3 (by decide) (by rw [q]; decide))
  · exact Or.inr (bad 4 (by decide) (by rw [q]; decide))
theorem q_isKeyword {kc : Int64} : f_Parser_isKeyword kc fn fp st wd = some (if wd = kc then (1, fn, fp) else (0, 1, st)) := by
  unfold f_Parser_isKeyword f_Parser_wrong
  simp only [lg0]
  by_cases c : wd = kc
  · rw [if_pos c, if_pos c]
  · rw [if_neg c, if_neg c, bd_some, if_pos rfl]
theorem e_amount {kc km : Int64} {l hi : Nat} {L H : Int32} (ht : byOK t) (he : e ≤ 800) (hL : L = iI (l : Nat)) (hH : H = iI (hi : Nat)) (hl : l ≤ 1000) (hh : hi ≤ 1000) (hk : WR kc km) (h : tkR e lo nx so st va wd sp so' pl nu wd') :
    (∃ v : Nat, ∃ nx2 so2 st2 va2 wd2 sp2 so2' pl2 nu2 wd2', l ≤ v ∧ v ≤ hi ∧ f_Parser_amount kc L H fn fp t (iI (e : Nat)) nx so st va wd = some (iI (v : Nat), fn, fp, nx2, so2, st2, va2, wd2) ∧ f_M_readPart km L H t (iI (e : Nat)) sp so' pl nu f w wd' = some (iI (v : Nat), sp2, so2', pl2, nu2, f, w, wd2') ∧ tkR e lo nx2 so2 st2 va2 wd2 sp2 so2' pl2 nu2 wd2') ∨
    (∃ k p nx2 so2 st2 va2 wd2 sp2 pl2 nu2 wd2', (0 : Int32) < k ∧ f_Parser_amount kc L H fn fp t (iI (e : Nat)) nx so st va wd = some (-1, k, p, nx2, so2, st2, va2, wd2) ∧ f_M_readPart km L H t (iI (e : Nat)) sp so' pl nu f w wd' = some (L, sp2, 5, pl2, nu2, k, p, wd2')) := by
  have h5 := tk_5 h
  have hp := tk_pl h
  subst hp
  unfold f_Parser_amount f_M_readPart f_M_needs
  rw [q_isKeyword, r_isWord h hk, bd_some, bd_some]
  by_cases c : wd = kc
  · rw [if_pos c, if_pos c, if_neg (show ¬ (1 : Int32) = 0 by decide), if_neg (show ¬ (1 : Int32) = 0 by decide), bd_some]
    obtain ⟨nx1, so1, st1, va1, wd1, sp1, so1', pl1, nu1, wd1', s1, s2, s3, -⟩ := e_stp ht he h
    rw [s1, s2, bd_some, bd_some, bd_some]
    unfold f_M_readWhole
    rcases e_whole (fn := fn) (fp := fp) (f := f) (w := w) hL hH hl hh s3 with ⟨v, v1, v2, rfl, v4, v5⟩ | ⟨k, k1, k2, k3⟩
    · obtain ⟨nx2, so2, st2, va2, wd2, sp2, so2', pl2, nu2, wd2', t1, t2, t3, -⟩ := e_stp ht he s3
      rw [v4, v5, bd_some, bd_some, if_neg (show ¬ (1 : Int32) = 0 by decide), t1, t2, bd_some, bd_some, bd_some]
      exact Or.inl ⟨v, _, _, _, _, _, _, _, _, _, _, v1, v2, rfl, rfl, t3⟩
    · rw [k2, k3, bd_some, bd_some, if_pos rfl, o_goesOn, bd_some, bd_some]
      exact Or.inr ⟨k, _, _, _, _, _, _, _, _, _, _, k1, rfl, rfl⟩
  · rw [if_neg c, if_neg c, if_pos rfl, if_pos rfl, n_flaw h5, bd_some, bd_some, o_goesOn, bd_some, bd_some, o_readWhole, bd_some]
    exact Or.inr ⟨1, _, _, _, _, _, _, _, _, _, _, by decide, rfl, rfl⟩
theorem e_person {p : Nat} {nm rnm : Nat → Int64} (hp : p ≤ 5) (hn : ∀ i, i < p → WR (nm i) (rnm i)) (h : tkR e lo nx so st va wd sp so' pl nu wd') : (∃ q : Nat, q < p ∧ f_Parser_personTold nm fn fp st wd (iI (p : Nat)) = some (iI (q : Nat), fn, fp) ∧ f_M_personAt so' pl f w wd' (iI (p : Nat)) rnm = some (iI (q : Nat), so', f, w)) ∨ (∃ k, (0 : Int32) < k ∧ f_Parser_personTold nm fn fp st wd (iI (p : Nat)) = some (-1, k, st) ∧ f_M_personAt so' pl f w wd' (iI (p : Nat)) rnm = some (0, 5, k, st)) := by
  have h5 := tk_5 h
  have hpl := tk_pl h
  subst hpl
  unfold f_Parser_personTold f_M_personAt f_Parser_wrong
  rw [q_use, r_isName h, q_personNamed hp, r_tfind hp]
  simp only [bd_some]
  by_cases c : useN wd = 6
  · have hW : WR wd wd' := by
      rcases tk_w h with ⟨-, q⟩ | ⟨-, q⟩
      · exact q
      · rw [q] at c; exact absurd c (by decide)
    have ef : fst0 (fun i => decide (rnm i = wd')) p = fst0 (fun i => decide (nm i = wd)) p := fst_congr (fun i hi => by
      have q := WR_eq (hn i hi) hW
      by_cases d : nm i = wd
      · rw [decide_eq_true d, decide_eq_true (q.mp d)]
      · rw [decide_eq_false d, decide_eq_false (fun x => d (q.mpr x))]) _ _
    rw [ef, if_pos c, if_neg (show ¬ (1 : Int32) = 0 by decide), if_pos (show iI ((useN wd : Nat) : Int) = 6 by rw [c]; rfl)]
    simp only [bd_some]
    cases hf : fst0 (fun i => decide (nm i = wd)) p with
    | some q =>
      have hq := (fst_lt _ _ _ hf).1
      refine Or.inl ⟨q, hq, ?_, ?_⟩
      · show (if 0 ≤ iI (q : Nat) then some (iI (q : Nat), fn, fp) else _) = _
        rw [if_pos (show (0 : Int32) ≤ iI (q : Nat) by rw [i_0, iI_le] <;> omega)]
      · show bd (if iI (q : Nat) = -1 then _ else some (so', f, w)) _ = _
        rw [if_neg (show ¬ iI (q : Nat) = -1 by rw [i_m1, iI_eq] <;> omega), bd_some, if_neg h5]
        rfl
    | none =>
      refine Or.inr ⟨2, by decide, ?_, ?_⟩
      · show (if (0 : Int32) ≤ iI (-1) then _ else _) = _
        rw [if_neg (show ¬ (0 : Int32) ≤ iI (-1) by decide)]
        rfl
      · show bd (if iI (-1) = -1 then _ else some (so', f, w)) _ = _
        rw [if_pos (show iI (-1) = -1 from rfl), n_flaw h5, bd_some, bd_some, if_pos rfl]
  · have e0 : ¬ iI ((useN wd : Nat) : Int) = 6 := by
      have : useN wd < 8 := by unfold useN; repeat' split
                               all_goals omega
      rw [show (6 : Int32) = iI 6 from rfl, iI_eq] <;> omega
    rw [if_neg c, if_pos rfl, n_flaw h5, if_neg e0]
    simp only [bd_some]
    refine Or.inr ⟨1, by decide, rfl, ?_⟩
    split
    · rw [o_flaw, bd_some, bd_some, if_pos rfl]
    · rw [bd_some, if_pos rfl]
end
