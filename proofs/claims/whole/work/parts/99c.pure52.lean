/-! acts: quarrel, know -/
theorem setN_ne {S : Nat → Nat} {q s i : Nat} (h : ¬ i = q) : setN S q s i = S i := by unfold setN; rw [if_neg h]
theorem ar_push {f : Nat → Int32} {g : Nat → Nat} {n s : Nat} (h : ar f n g) : ar (upd f n (iI (s : Nat))) (n + 1) (setN g n s) := by
  intro j hj
  by_cases c : j = n
  · subst c; rw [upd_s, setN_s]
  · rw [upd_n c, setN_ne c]; exact h j (by omega)
theorem q_addPair {on ot ki ye sa : Nat → Int32} {n : Nat} {l1 l2 : Int32} (hn : n < 10) : f_Now_addPair l1 l2 (0 : Int32) (0 : Int32) on ot ki ye sa (iI (n : Nat)) = some (upd on n l1, upd ot n l2, upd ki n 0, upd ye n 0, upd sa n 0, iI ((n + 1 : Nat) : Int)) := by
  unfold f_Now_addPair
  rw [if_pos (show iI (n : Nat) < 10 by rw [i_10, iI_lt] <;> omega), iI_ck (by omega) (by omega), iI_ck (by omega) (by omega), iI_ck (by omega) (by omega), iI_ck (by omega) (by omega), iI_ck (by omega) (by omega), iI_cl (by omega), lt_eq, sm1]
section
variable {so on ot ki ye sa v x past pa pw pm br : Nat → Int32} {pr go bw fr pn pc acts : Int32} {p fb ns sl sw : Nat}
theorem e_quarrel (h : stA p fb ns sl so on ot ki ye sa pr go br bw fr pa pw pm pn pc v past acts) (hs9 : sw < 10) (l1 : Int32) : ∃ R R', f_X_quarrel l1 (iI sw) ki ye sa pr fr pa pw pm pn pc = some R ∧ f_M_quarrel l1 v x past acts (iI sw) = some R' ∧ qz R.1 R.2.1 R'.1 R'.2.2.1 R'.2.2.2.1 ∧ stA p fb ns sl so on ot ki ye R.2.2.1 pr go br bw R.2.2.2.1 R.2.2.2.2.1 R.2.2.2.2.2.1 R.2.2.2.2.2.2.1 R.2.2.2.2.2.2.2.1 R.2.2.2.2.2.2.2.2 R'.2.2.2.2.1 R'.2.2.2.2.2.2.1 R'.2.2.2.2.2.2.2 := by
  obtain ⟨h, c, ⟨hc, rfl, rfl⟩, ⟨hv, hg⟩, ⟨ho, g999, hY⟩, hp, hse⟩ := h
  have p5 := ho.1.1
  have n10 := ho.1.2.1
  unfold f_X_quarrel f_M_quarrel
  rcases prs n10 hv.2.2.1 l1 with ⟨k, hk, rfl, e1, e2⟩ | ⟨e1, e2⟩
  · obtain ⟨d1, d2, d3, d4, d5, d6⟩ := ho.1.2.2.2.2.2 k hk
    obtain ⟨x2, w1, w2, w3⟩ := r_worksX (x := x) hv ho
    have hh := q_handle n10 hk hc.2.2.2.1 hc.2.2.2.2.1 hc.2.2.2.2.2 d4 (by omega) (by omega)
    change _ = some (iI ((H0 (h 0).2.2.2.1 (h 0).2.2.2.2.1 (h 0).2.2.2.2.2.1 k : Nat) : Int)) at hh
    have hr := r_handleOf w2 ho.1 hk
    change _ = some (iI ((H0 (h 0).2.2.2.1 (h 0).2.2.2.2.1 (h 0).2.2.2.2.2.1 k : Nat) : Int)) at hr
    have hH := H0_lt (K := (h 0).2.2.2.1) (Z := (h 0).2.2.2.2.2.1) d5
    have hk10 : k < 10 := by omega
    rw [e1, e2, bd_some, bd_some, if_pos rfl, if_neg (show ¬ (1 : Int32) = 0 by decide), hh, bd_some, w1, bd_some, iI_ck hk10 (by omega), iI_cl (by omega), hc.2.2.2.1 k hk, ck45 hk10, cl45 hk10, (w2.2.1 k hk).2.2.2.2]
    by_cases c1 : (h 0).2.2.2.1 k = 2
    · have c1' : iI (((h 0).2.2.2.1 k : Nat) : Int) = 2 := by rw [c1]; rfl
      rw [if_pos c1', if_pos c1', bd_some, bd_some, if_pos rfl, if_pos rfl]
      exact ⟨_, _, rfl, rfl, ⟨rfl, rfl, (show ¬ (5 : Int32) = 4 by decide), rfl⟩, h, c, ⟨hc, rfl, rfl⟩, ⟨hv, hg⟩, ⟨ho, g999, hY⟩, hp, hse⟩
    · have c1' : ¬ iI (((h 0).2.2.2.1 k : Nat) : Int) = 2 := by rw [i_2, iI_eq] <;> omega
      rw [if_neg c1', if_neg c1', hr, bd_some]
      by_cases c2 : H0 (h 0).2.2.2.1 (h 0).2.2.2.2.1 (h 0).2.2.2.2.2.1 k = 0
      · have c2' : iI ((H0 (h 0).2.2.2.1 (h 0).2.2.2.2.1 (h 0).2.2.2.2.2.1 k : Nat) : Int) = 0 := by rw [c2]; rfl
        rw [if_pos c2', bd_some, bd_some, if_pos rfl, if_pos rfl]
        exact ⟨_, _, rfl, rfl, ⟨rfl, rfl, (show ¬ (5 : Int32) = 4 by decide), rfl⟩, h, c, ⟨hc, rfl, rfl⟩, ⟨hv, hg⟩, ⟨ho, g999, hY⟩, hp, hse⟩
      · have c2' : ¬ iI ((H0 (h 0).2.2.2.1 (h 0).2.2.2.2.1 (h 0).2.2.2.2.2.1 k : Nat) : Int) = 0 := by rw [i_0, iI_eq] <;> omega
        have hm : (if iI ((H0 (h 0).2.2.2.1 (h 0).2.2.2.2.1 (h 0).2.2.2.2.2.1 k : Nat) : Int) < iI (sw : Nat) then iI ((H0 (h 0).2.2.2.1 (h 0).2.2.2.2.1 (h 0).2.2.2.2.2.1 k : Nat) : Int) else iI (sw : Nat)) = iI ((min (H0 (h 0).2.2.2.1 (h 0).2.2.2.2.1 (h 0).2.2.2.2.2.1 k) sw : Nat) : Int) := by
          generalize H0 (h 0).2.2.2.1 (h 0).2.2.2.2.1 (h 0).2.2.2.2.2.1 k = z at *
          by_cases d : z < sw
          · rw [if_pos (by rw [iI_lt] <;> omega)]; exact congrArg iI (by omega)
          · rw [if_neg (by rw [iI_lt] <;> omega)]; exact congrArg iI (by omega)
        have hz : ∀ m : Nat, sa k + iI (m : Nat) = iI (((h 0).2.2.2.2.2.1 k + m : Nat) : Int) := fun m => by rw [hc.2.2.2.2.2 k hk, iI_add]; rfl
        have hle : (h 0).2.2.2.2.2.1 k + min (H0 (h 0).2.2.2.1 (h 0).2.2.2.2.1 (h 0).2.2.2.2.2.1 k) sw ≤ (h 0).2.2.2.2.1 k := by
          have h1 := (ho.2.2.1 k hk).1
          unfold H0 hnd
          rw [if_neg c1]
          omega
        obtain ⟨x7, q1, q2, q3⟩ := r_sawsOff w2 ho.1 hk (show sw < 100 by omega)
        rw [if_neg c1] at q2
        generalize hM : min (H0 (h 0).2.2.2.1 (h 0).2.2.2.2.1 (h 0).2.2.2.2.2.1 k) sw = M at *
        have hou : unD (1 : Int32) (iI (k : Nat)) (iI (M : Nat)) ((h 0).1, (h 0).2.1, (h 0).2.2.1, (h 0).2.2.2.1, (h 0).2.2.2.2.1, setN (h 0).2.2.2.2.2.1 k ((h 0).2.2.2.2.2.1 k + M), (h 0).2.2.2.2.2.2.1, (h 0).2.2.2.2.2.2.2) (h 0) p := Or.inr (Or.inl ⟨rfl, k, M, hk, rfl, rfl, rfl, rfl, fun _ _ => rfl, fun j _ => ⟨rfl, rfl, rfl, rfl, by
          show setN _ _ _ j = _
          by_cases e : j = k
          · subst e; rw [setN_s, if_pos rfl]
          · rw [setN_ne e, if_neg e]⟩⟩)
        obtain ⟨past', acts', Q, p1, p2, p3, p4⟩ := pst_push hp ⟨ho, g999, hY⟩ ⟨hv, hg⟩ hou
        have ho' : nok (h 0).1 (h 0).2.1 (h 0).2.2.1 (h 0).2.2.2.1 (h 0).2.2.2.2.1 (setN (h 0).2.2.2.2.2.1 k ((h 0).2.2.2.2.2.1 k + M)) p (h 0).2.2.2.2.2.2.1 fb ns sl := by
          obtain ⟨⟨o1, o2, o3, o4, o5, o6⟩, o7, o8, o9⟩ := ho
          refine ⟨⟨o1, o2, o3, o4, o5, fun j hj => ?_⟩, o7, fun j hj => ?_, o9⟩
          · obtain ⟨b1, b2, b3, b4, b5, b6⟩ := o6 j hj
            refine ⟨b1, b2, b3, b4, b5, ?_⟩
            by_cases e : j = k
            · subst e; rw [setN_s]; omega
            · rw [setN_ne e]; exact b6
          · obtain ⟨b1, b2⟩ := o8 j hj
            refine ⟨?_, b2⟩
            by_cases e : j = k
            · subst e; rw [setN_s]; exact hle
            · rw [setN_ne e]; exact b1
        have hc' : cv so on ot ki ye (upd sa k (iI (((h 0).2.2.2.2.2.1 k + M : Nat) : Int))) (h 0).1 (h 0).2.1 (h 0).2.2.1 (h 0).2.2.2.1 (h 0).2.2.2.2.1 (setN (h 0).2.2.2.2.2.1 k ((h 0).2.2.2.2.2.1 k + M)) p (h 0).2.2.2.2.2.2.1 := ⟨hc.1, hc.2.1, hc.2.2.1, hc.2.2.2.1, hc.2.2.2.2.1, ar_set hc.2.2.2.2.2⟩
        have d6' := (ho'.1.2.2.2.2.2 k hk).2.2.2.2.2
        have hh2 := q_handle n10 hk hc'.2.2.2.1 hc'.2.2.2.2.1 hc'.2.2.2.2.2 d4 (by omega) (by omega)
        have hr2 := r_handleOf q2 ho'.1 hk
        obtain ⟨v', r1, r2⟩ := r_remains (v := v) (x := x7)
        rw [if_neg c2', bd_some, bd_some, if_neg Bool.false_ne_true, if_neg Bool.false_ne_true, hm, lt_eq, iI_ck hk10 (by omega), iI_ck hk10 (by omega), p2, bd_some, hz, hh2, bd_some, p1, bd_some, q1, bd_some, r1, bd_some, hr2, bd_some]
        refine ⟨_, _, rfl, rfl, qz_0 rfl, hcons ((h 0).1, (h 0).2.1, (h 0).2.2.1, (h 0).2.2.2.1, (h 0).2.2.2.2.1, setN (h 0).2.2.2.2.2.1 k ((h 0).2.2.2.2.2.1 k + M), (h 0).2.2.2.2.2.2.1, (h 0).2.2.2.2.2.2.2) h, _, ⟨hc', rfl, rfl⟩, ⟨xv_cp p5 n10 q2 r2, ?_⟩, ⟨ho', g999, hY⟩, p4, Or.inl p3⟩
        show v' 57 = _
        rw [r2 57 (by omega), q3, w3, hg]
        rfl
  · rw [e1, e2]; exact ⟨_, _, rfl, rfl, qz_1, h, c, ⟨hc, rfl, rfl⟩, ⟨hv, hg⟩, ⟨ho, g999, hY⟩, hp, hse⟩
end
