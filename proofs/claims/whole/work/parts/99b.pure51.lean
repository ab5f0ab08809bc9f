/-! acts -/
/-- the state of both sides, as acts change it -/
def stA (p fb ns sl : Nat) (so on ot ki ye sa : Nat → Int32) (pr go : Int32) (br : Nat → Int32) (bw fr : Int32) (pa pw pm : Nat → Int32) (pn pc : Int32) (v past : Nat → Int32) (acts : Int32) : Prop := ∃ h c, cP so on ot ki ye sa pr go (h 0) p ∧ xP v (h 0) p fb ∧ okP (h 0) p fb ns sl ∧ pstOK p fb ns sl h c acts past pa pw pm pn pc ∧ seOK (h 0).2.1 (h 0).2.2.1 (h 0).2.2.2.1 (H0 (h 0).2.2.2.1 (h 0).2.2.2.2.1 (h 0).2.2.2.2.2.1) fb sl (h 0).2.2.2.2.2.2.1 ns p br bw fr
theorem xv_57 {x : Nat → Int32} {S O T K Y Z : Nat → Nat} {p n fb : Nat} {w : Int32} (hp : p ≤ 5) (hn : n ≤ 10) (h : xv x S O T K Y Z p n fb) : xv (upd x 57 w) S O T K Y Z p n fb := by
  obtain ⟨h1, h2, h3, h4⟩ := h
  refine ⟨fun q hq => by rw [upd_n (by omega)]; exact h1 q hq, fun k hk => ?_, by rw [upd_n (by omega)]; exact h3, by rw [upd_n (by omega)]; exact h4⟩
  obtain ⟨a, b, c, d, f⟩ := h2 k hk
  exact ⟨by rw [upd_n (by omega)]; exact a, by rw [upd_n (by omega)]; exact b, by rw [upd_n (by omega)]; exact c, by rw [upd_n (by omega)]; exact d, by rw [upd_n (by omega)]; exact f⟩
theorem q_pass {ye : Nat → Int32} {Y Y' : Nat → Nat} {n : Nat} {l1 go : Int32} (hn : n ≤ 10) (h : ar ye n Y) (hY : ∀ k, k < n → iI (Y k : Nat) + l1 = iI (Y' k : Nat)) : ∃ ye', f_Now_passYears l1 ye (iI n) go = some (ye', go + l1) ∧ ar ye' n Y' := by
  have key := lp (L := fun fz jz (sz : (Nat → Int32)) => f_Now_passYears_L2 l1 (iI n) fz (iI (jz : Int)) sz) (n := n) (I := fun j st => (∀ k, k < j → st k = iI (Y' k : Nat)) ∧ ∀ k, j ≤ k → st k = ye k) (Post := fun st => ar st n Y') ?_ ?_ fu 0 ye (by omega) (by have := fu_big; omega) ⟨fun k hk => by omega, fun _ _ => rfl⟩
  · obtain ⟨st, hst, he⟩ := key
    have he2 : f_Now_passYears_L2 l1 (iI n) fu (0 : Int32) ye = some st := he
    refine ⟨st, ?_, hst⟩
    unfold f_Now_passYears
    rw [he2, bd_some, lt_eq]
  · intro f j st hj hst
    left
    refine ⟨upd st j (iI (Y' j : Nat)), ⟨fun k hk => ?_, fun k hk => ?_⟩, ?_⟩
    · by_cases e : k = j
      · subst e; exact upd_s _ _ _
      · rw [upd_n e]; exact hst.1 k (by omega)
    · rw [upd_n (by omega)]; exact hst.2 k (by omega)
    · simp only [f_Now_passYears_L2]
      rw [if_neg (by rw [iI_le] <;> omega), iI_ck (by omega) (by omega), iI_ck (by omega) (by omega), iI_cl (by omega), hst.2 j (by omega), h j hj, hY j hj, lt_eq, sm1]
  · intro f st hst
    refine ⟨st, fun k hk => hst.1 k hk, ?_⟩
    simp only [f_Now_passYears_L2]
    rw [if_pos (by rw [iI_le] <;> omega)]
section
variable {so on ot ki ye sa v x past pa pw pm s1 s2 s3 s4 s9 sp' br : Nat → Int32} {pr go bw fr pn pc acts s5 s6 s7 s8 s10 mm ms mc : Int32} {p fb ns sl sw : Nat}
theorem e_year (h : stA p fb ns sl so on ot ki ye sa pr go br bw fr pa pw pm pn pc v past acts) : ∃ R R', f_X_year (iI sl) (iI p) (iI fb) so on ot ki ye sa pr go s1 s2 s3 s4 s5 s6 s7 s8 s9 s10 fr pa pw pm pn pc = some R ∧ f_M_year v x past acts mm ms mc sp' (iI ns) (iI sl) = some R' ∧ qz R.1 R.2.1 R'.1 R'.2.2.1 R'.2.2.2.1 ∧ stA p fb ns sl so on ot ki R.2.2.1 sa pr R.2.2.2.1 br bw R.2.2.2.2.2.2.2.2.2.2.2.2.2.2.1 R.2.2.2.2.2.2.2.2.2.2.2.2.2.2.2.1 R.2.2.2.2.2.2.2.2.2.2.2.2.2.2.2.2.1 R.2.2.2.2.2.2.2.2.2.2.2.2.2.2.2.2.2.1 R.2.2.2.2.2.2.2.2.2.2.2.2.2.2.2.2.2.2.1 R.2.2.2.2.2.2.2.2.2.2.2.2.2.2.2.2.2.2.2 R'.2.2.2.2.1 R'.2.2.2.2.2.2.1 R'.2.2.2.2.2.2.2.1 := by
  obtain ⟨h, c, ⟨hc, rfl, rfl⟩, ⟨hv, hg⟩, ⟨ho, g999, hY⟩, hp, hse⟩ := h
  have i999 : (999 : Int32) = iI 999 := rfl
  have p5 := ho.1.1
  have n10 := ho.1.2.1
  unfold f_X_year f_M_year
  rw [q_noTable ho.2.2.2.2 ho.1.1, bd_some, if_pos rfl, ck57, cl57, hg, i999]
  by_cases e : (h 0).2.2.2.2.2.2.2 = 999
  · rw [if_neg (by rw [iI_lt] <;> omega), if_pos (by rw [e]; rfl)]
    refine ⟨_, _, rfl, rfl, ⟨rfl, rfl, (show ¬ (3 : Int32) = 4 by decide), rfl⟩, h, c, ⟨hc, rfl, rfl⟩, ⟨hv, hg⟩, ⟨ho, g999, hY⟩, hp, hse⟩
  · obtain ⟨ye', y1, y2⟩ := q_pass (l1 := (1 : Int32)) (go := iI ((h 0).2.2.2.2.2.2.2 : Nat)) (Y' := fun k => (h 0).2.2.2.2.1 k + 1) n10 hc.2.2.2.2.1 (fun k hk => by rw [i_1, iI_add]; rfl)
    have hou : unD (0 : Int32) (0 : Int32) (0 : Int32) ((h 0).1, (h 0).2.1, (h 0).2.2.1, (h 0).2.2.2.1, (fun k => (h 0).2.2.2.2.1 k + 1), (h 0).2.2.2.2.2.1, (h 0).2.2.2.2.2.2.1, (h 0).2.2.2.2.2.2.2 + 1) (h 0) p := Or.inl ⟨rfl, rfl, rfl, fun _ _ => rfl, fun _ _ => ⟨rfl, rfl, rfl, rfl, rfl⟩⟩
    obtain ⟨past', acts', Q, p1, p2, p3, p4⟩ := pst_push hp ⟨ho, g999, hY⟩ ⟨hv, hg⟩ hou
    obtain ⟨x2, w1, w2, w3⟩ := r_worksIn (x := x) (t := 1) hv ho
    have w1 : f_M_worksIn (1 : Int32) v x = some x2 := w1
    have hxo := xok_grow (t := 1) ho (by omega)
    have ho' : nok (h 0).1 (h 0).2.1 (h 0).2.2.1 (h 0).2.2.2.1 (fun k => (h 0).2.2.2.2.1 k + 1) (h 0).2.2.2.2.2.1 p (h 0).2.2.2.2.2.2.1 fb ns sl := ⟨hxo, ho.2.1, fun k hk => by have h1 := ho.2.2.1 k hk; have h2 := hY k hk; exact ⟨by show _ ≤ _ + 1; omega, by show _ + 1 < 5000; omega⟩, ho.2.2.2.1, ho.2.2.2.2⟩
    have hc' : cv so on ot ki ye' sa (h 0).1 (h 0).2.1 (h 0).2.2.1 (h 0).2.2.2.1 (fun k => (h 0).2.2.2.2.1 k + 1) (h 0).2.2.2.2.2.1 p (h 0).2.2.2.2.2.2.1 := ⟨hc.1, hc.2.1, hc.2.2.1, hc.2.2.2.1, y2, hc.2.2.2.2.2⟩
    obtain ⟨R, q1, q2⟩ := q_fedBehind (sso := s1) (shd := s2) (bo := s3) (sp := s4) (bi := s9) (t := 0) hc' ho' (by omega)
    have q1 : f_X_fedBehind (0 : Int32) (iI sl) (iI fb) so on ot ki ye' sa (iI ((h 0).2.2.2.2.2.2.1 : Nat)) s1 s2 s3 s4 s9 = some R := q1
    have hx3 := xv_57 (w := x2 57 + 1) p5 n10 w2
    obtain ⟨sp2, m1⟩ := r_matchB (sp := sp') hx3 hxo (show sl < 10 by have := ho.2.2.2.1; omega)
    obtain ⟨v', r1, r2⟩ := r_remains (v := v) (x := upd x2 57 (x2 57 + 1))
    rw [if_pos (by rw [iI_lt] <;> omega), if_neg (by rw [iI_eq] <;> omega), y1, bd_some, p2, bd_some, q1, bd_some, p1, bd_some, w1, bd_some, ck57, ck57, r1, bd_some, m1, bd_some]
    refine ⟨_, _, rfl, rfl, qz_0 q2, hcons ((h 0).1, (h 0).2.1, (h 0).2.2.1, (h 0).2.2.2.1, (fun k => (h 0).2.2.2.2.1 k + 1), (h 0).2.2.2.2.2.1, (h 0).2.2.2.2.2.2.1, (h 0).2.2.2.2.2.2.2 + 1) h, _, ⟨hc', rfl, by show _ + _ = _; rw [i_1, iI_add]; rfl⟩, ⟨xv_cp p5 n10 hx3 r2, ?_⟩, ⟨ho', by show _ + 1 ≤ 999; omega, fun k hk => by show _ + 1 ≤ 99 + (_ + 1); have := hY k hk; omega⟩, p4, Or.inl p3⟩
    show v' 57 = _
    rw [r2 57 (by omega), upd_s, w3, hg, i_1, iI_add]
    rfl
theorem e_sit (h : stA p fb ns sl so on ot ki ye sa pr go br bw fr pa pw pm pn pc v past acts) (l1 l2 : Int32) : ∃ R R', f_X_sit l1 l2 (iI ns) (iI p) so fr pa pw pm pn pc = some R ∧ f_M_sit l1 l2 v past acts (iI ns) (iI p) = some R' ∧ qz R.1 R.2.1 R'.1 R'.2.2.1 R'.2.2.2.1 ∧ stA p fb ns sl R.2.2.1 on ot ki ye sa pr go br bw R.2.2.2.1 R.2.2.2.2.1 R.2.2.2.2.2.1 R.2.2.2.2.2.2.1 R.2.2.2.2.2.2.2.1 R.2.2.2.2.2.2.2.2 R'.2.2.2.2.1 R'.2.2.2.2.2.1 R'.2.2.2.2.2.2 := by
  obtain ⟨h, c, ⟨hc, rfl, rfl⟩, ⟨hv, hg⟩, ⟨ho, g999, hY⟩, hp, hse⟩ := h
  have p5 := ho.1.1
  have n10 := ho.1.2.1
  have ns10 := ho.1.2.2.1
  unfold f_X_sit f_M_sit
  rcases pers p5 l1 with ⟨q, hq, rfl, e1, e2⟩ | ⟨e1, e2⟩
  · rw [e1, e2, bd_some, bd_some, if_pos rfl, if_neg (show ¬ (1 : Int32) = 0 by decide)]
    obtain ⟨z, z1, z2, rfl⟩ := i_any l2
    have hin : f_M_in (iI z) 0 (iI (ns : Nat) - 1) = some (b01 (decide (0 ≤ z ∧ z ≤ (ns : Int) - 1))) := by
      unfold f_M_in b01
      rw [i_1, iI_sub]
      simp (disch := omega) only [i_0, iI_lt]
      by_cases c1 : z < 0
      · rw [if_pos c1]; simp [bd, show ¬ (0 ≤ z ∧ z ≤ (ns : Int) - 1) by omega]
      · rw [if_neg c1]
        by_cases c2 : (ns : Int) - 1 < z
        · rw [if_pos c2]; simp [bd, show ¬ (0 ≤ z ∧ z ≤ (ns : Int) - 1) by omega]
        · rw [if_neg c2]; simp [bd, show (0 ≤ z ∧ z ≤ (ns : Int) - 1) by omega]
    rw [hin, bd_some]
    by_cases hz : 0 ≤ z ∧ z ≤ (ns : Int) - 1
    · obtain ⟨s, rfl⟩ := Int.eq_ofNat_of_zero_le hz.1
      obtain ⟨b, u1, u2, -⟩ := e_isFree hc hv ho (show s < 1000 by omega)
      rw [if_neg (show ¬ iI ((s : Nat) : Int) < 0 by rw [i_0, iI_lt] <;> omega), if_pos (show iI ((s : Nat) : Int) < iI (ns : Nat) by rw [iI_lt] <;> omega), bd_some, if_neg (by simp), if_neg (by simp only [hz, decide_true]; decide), u1, u2, bd_some, bd_some]
      cases b
      · rw [if_pos (by rfl), if_neg (by decide)]
        exact ⟨_, _, rfl, rfl, ⟨rfl, rfl, (show ¬ (5 : Int32) = 4 by decide), rfl⟩, h, c, ⟨hc, rfl, rfl⟩, ⟨hv, hg⟩, ⟨ho, g999, hY⟩, hp, hse⟩
      · have hou : unD (2 : Int32) (iI (q : Nat)) (iI ((h 0).1 q : Nat)) (setN (h 0).1 q s, (h 0).2) (h 0) p := Or.inr (Or.inr (Or.inl ⟨rfl, q, (h 0).1 q, hq, rfl, rfl, rfl, rfl, rfl, fun i _ hne => by show (h 0).1 i = setN (h 0).1 q s i; unfold setN; rw [if_neg hne], fun _ _ => ⟨rfl, rfl, rfl, rfl, rfl⟩⟩))
        obtain ⟨past', acts', Q, p1, p2, p3, p4⟩ := pst_push hp ⟨ho, g999, hY⟩ ⟨hv, hg⟩ hou
        have ho' : nok (setN (h 0).1 q s) (h 0).2.1 (h 0).2.2.1 (h 0).2.2.2.1 (h 0).2.2.2.2.1 (h 0).2.2.2.2.2.1 p (h 0).2.2.2.2.2.2.1 fb ns sl := ⟨xok_seat ho.1 (setN_lt ho.1.2.2.2.2.1 (by omega)), ho.2⟩
        rw [if_neg (by decide), if_pos (by rfl), iI_ck (by omega) (by omega), lt_eq, iI_cl (by omega), hc.1 q hq, iI_ck (by omega) (by omega), p2, bd_some, p1, bd_some, iI_ck (by omega) (by omega), lt_eq, hv.1 q hq, iI_ck (by omega) (by omega)]
        refine ⟨_, _, rfl, rfl, qz_0 rfl, hcons (setN (h 0).1 q s, (h 0).2) h, _, ⟨⟨ar_set hc.1, hc.2⟩, rfl, rfl⟩, ⟨xv_set p5 hq hv, ?_⟩, ⟨ho', g999, hY⟩, p4, Or.inl p3⟩
        show upd v q (iI ((s : Nat) : Int)) 57 = _
        rw [upd_n (by omega)]; exact hg
    · have hb : (if iI z < 0 then some true else if iI z < iI (ns : Nat) then some false else some true : Option Bool) = some true := by
        by_cases c1 : z < 0
        · rw [if_pos (by rw [i_0, iI_lt] <;> omega)]
        · rw [if_neg (by rw [i_0, iI_lt] <;> omega), if_neg (by rw [iI_lt] <;> omega)]
      rw [hb, bd_some, if_pos rfl, if_pos (show b01 (decide (0 ≤ z ∧ z ≤ (ns : Int) - 1)) = 0 by rw [decide_eq_false hz]; rfl)]
      exact ⟨_, _, rfl, rfl, qz_2, h, c, ⟨hc, rfl, rfl⟩, ⟨hv, hg⟩, ⟨ho, g999, hY⟩, hp, hse⟩
  · rw [e1, e2]; exact ⟨_, _, rfl, rfl, qz_1, h, c, ⟨hc, rfl, rfl⟩, ⟨hv, hg⟩, ⟨ho, g999, hY⟩, hp, hse⟩
end
