/-! acts: know, undo -/
section
variable {so on ot ki ye sa v x past pa pw pm br : Nat → Int32} {pr go bw fr pn pc acts : Int32} {p fb ns sl sw : Nat}
theorem nok_add {S O T K Y Z : Nat → Nat} {n a b : Nat} (ho : nok S O T K Y Z p n fb ns sl) (ha : a < p) (hb : b < p) (hab : a ≠ b) (po : pok (setN O n a) (setN T n b) p (n + 1)) : nok S (setN O n a) (setN T n b) (setN K n 0) (setN Y n 0) (setN Z n 0) p (n + 1) fb ns sl := by
  obtain ⟨⟨o1, o2, o3, o4, o5, o6⟩, o7, o8, o9⟩ := ho
  refine ⟨⟨o1, pok_10 o1 po, o3, o4, o5, fun j hj => ?_⟩, po, fun j hj => ?_, o9⟩
  · by_cases e : j = n
    · subst e; rw [setN_s, setN_s, setN_s, setN_s, setN_s]; omega
    · rw [setN_ne e, setN_ne e, setN_ne e, setN_ne e, setN_ne e]; exact o6 j (by omega)
  · by_cases e : j = n
    · subst e; rw [setN_s, setN_s]; omega
    · rw [setN_ne e, setN_ne e]; exact o8 j (by omega)
theorem e_know (h : stA p fb ns sl so on ot ki ye sa pr go br bw fr pa pw pm pn pc v past acts) (l1 l2 : Int32) : ∃ R R', f_X_know l1 l2 (iI p) on ot ki ye sa pr fr pa pw pm pn pc = some R ∧ f_M_know l1 l2 v x past acts (iI p) = some R' ∧ qz R.1 R.2.1 R'.1 R'.2.2.1 R'.2.2.2.1 ∧ stA p fb ns sl so R.2.2.1 R.2.2.2.1 R.2.2.2.2.1 R.2.2.2.2.2.1 R.2.2.2.2.2.2.1 R.2.2.2.2.2.2.2.1 go br bw R.2.2.2.2.2.2.2.2.1 R.2.2.2.2.2.2.2.2.2.1 R.2.2.2.2.2.2.2.2.2.2.1 R.2.2.2.2.2.2.2.2.2.2.2.1 R.2.2.2.2.2.2.2.2.2.2.2.2.1 R.2.2.2.2.2.2.2.2.2.2.2.2.2 R'.2.2.2.2.1 R'.2.2.2.2.2.2.1 R'.2.2.2.2.2.2.2 := by
  obtain ⟨h, c, ⟨hc, rfl, rfl⟩, ⟨hv, hg⟩, ⟨ho, g999, hY⟩, hp, hse⟩ := h
  have p5 := ho.1.1
  have n10 := ho.1.2.1
  unfold f_X_know f_M_know
  rcases twos p5 l1 l2 with ⟨a, b, ha, hb, hab, rfl, rfl, e1, e2⟩ | ⟨e1, e2⟩
  · obtain ⟨x2, w1, w2, w3⟩ := r_worksX (x := x) hv ho
    have hf := q_find n10 hc.2.1 hc.2.2.1 (fun k hk => by have := ho.1.2.2.2.2.2 k hk; omega) (show a < 5 by omega) (show b < 5 by omega) hab
    have hr := r_pairBy w2 ho.1 (show a < 5 by omega) (show b < 5 by omega) hab
    rw [e1, e2, bd_some, bd_some, if_pos rfl, if_neg (show ¬ (1 : Int32) = 0 by decide), hf, bd_some, w1, bd_some, hr, bd_some]
    cases hf0 : fst0 (isP (h 0).2.1 (h 0).2.2.1 a b) (h 0).2.2.2.2.2.2.1 with
    | none =>
      have hno : ∀ k, k < (h 0).2.2.2.2.2.2.1 → isP (h 0).2.1 (h 0).2.2.1 a b k = false := fun k hk => fst_none _ _ (by omega) hf0 k (by omega) hk
      have po := pok_add p5 ho.2.1 ha hb hab hno
      have n9 := pok_10 p5 po
      have ho' := nok_add ho ha hb hab po
      have hou : unD (3 : Int32) (0 : Int32) (0 : Int32) ((h 0).1, setN (h 0).2.1 (h 0).2.2.2.2.2.2.1 a, setN (h 0).2.2.1 (h 0).2.2.2.2.2.2.1 b, setN (h 0).2.2.2.1 (h 0).2.2.2.2.2.2.1 0, setN (h 0).2.2.2.2.1 (h 0).2.2.2.2.2.2.1 0, setN (h 0).2.2.2.2.2.1 (h 0).2.2.2.2.2.2.1 0, (h 0).2.2.2.2.2.2.1 + 1, (h 0).2.2.2.2.2.2.2) (h 0) p := Or.inr (Or.inr (Or.inr ⟨rfl, rfl, rfl, fun _ _ => rfl, fun k hk => ⟨(setN_n hk).symm, (setN_n hk).symm, (setN_n hk).symm, (setN_n hk).symm, (setN_n hk).symm⟩⟩))
      obtain ⟨past', acts', Q, p1, p2, p3, p4⟩ := pst_push hp ⟨ho, g999, hY⟩ ⟨hv, hg⟩ hou
      obtain ⟨x5, q1, q2, q3⟩ := r_knows (a := a) (b := b) p5 (by omega) w2
      obtain ⟨v', r1, r2⟩ := r_remains (v := v) (x := x5)
      have hv55 : v' 55 = iI (((h 0).2.2.2.2.2.2.1 + 1 : Nat) : Int) := by rw [r2 55 (by omega)]; exact q2.2.2.1
      rw [if_pos (show iI (on2 none) < 0 by decide), if_pos (show iI (on2 none) = -2 by decide), q_addPair (by omega), bd_some, p2, bd_some, p1, bd_some, q1, bd_some, r1, bd_some, ck55, cl55, hv55]
      refine ⟨_, _, rfl, rfl, qz_0 rfl, hcons ((h 0).1, setN (h 0).2.1 (h 0).2.2.2.2.2.2.1 a, setN (h 0).2.2.1 (h 0).2.2.2.2.2.2.1 b, setN (h 0).2.2.2.1 (h 0).2.2.2.2.2.2.1 0, setN (h 0).2.2.2.2.1 (h 0).2.2.2.2.2.2.1 0, setN (h 0).2.2.2.2.2.1 (h 0).2.2.2.2.2.2.1 0, (h 0).2.2.2.2.2.2.1 + 1, (h 0).2.2.2.2.2.2.2) h, _, ⟨⟨hc.1, ar_push hc.2.1, ar_push hc.2.2.1, ar_push (s := 0) hc.2.2.2.1, ar_push (s := 0) hc.2.2.2.2.1, ar_push (s := 0) hc.2.2.2.2.2⟩, rfl, rfl⟩, ⟨xv_cp p5 n9 q2 r2, ?_⟩, ⟨ho', g999, fun k hk => ?_⟩, p4, Or.inl p3⟩
      · show v' 57 = _
        rw [r2 57 (by omega), q3, w3, hg]
        rfl
      · show setN _ _ _ k ≤ 99 + _
        by_cases e : k = (h 0).2.2.2.2.2.2.1
        · rw [e, setN_s]; omega
        · rw [setN_ne e]
          have hk' : k < (h 0).2.2.2.2.2.2.1 + 1 := hk
          exact hY k (by omega)
    | some k =>
      have hk := (fst_lt _ _ _ hf0).1
      rw [if_neg (show ¬ iI (on2 (some k)) < 0 by show ¬ iI (k : Nat) < 0; rw [i_0, iI_lt] <;> omega), if_neg (show ¬ iI (on2 (some k)) = -2 by show ¬ iI (k : Nat) = iI (-2); rw [iI_eq] <;> omega)]
      exact ⟨_, _, rfl, rfl, ⟨rfl, rfl, (show ¬ (5 : Int32) = 4 by decide), rfl⟩, h, c, ⟨hc, rfl, rfl⟩, ⟨hv, hg⟩, ⟨ho, g999, hY⟩, hp, hse⟩
  · rw [e1, e2]; exact ⟨_, _, rfl, rfl, qz_1, h, c, ⟨hc, rfl, rfl⟩, ⟨hv, hg⟩, ⟨ho, g999, hY⟩, hp, hse⟩
theorem q_takeBack {j : Nat} (hj : j < 16) {P P' : Pic} (hc : cP so on ot ki ye sa pr go P p) (ho : okP P p fb ns sl) (hu : unD (pa j) (pw j) (pm j) P P' p) : ∃ R, f_X_takeBack (iI (j : Nat)) so ye sa pr go pa pw pm = some R ∧ cP R.1 on ot ki R.2.1 R.2.2.1 R.2.2.2.1 R.2.2.2.2 P' p := by
  obtain ⟨S, O, T, K, Y, Z, n, g⟩ := P
  obtain ⟨S', O', T', K', Y', Z', n', g'⟩ := P'
  obtain ⟨⟨c1, c2, c3, c4, c5, c6⟩, rfl, rfl⟩ := hc
  have p5 : p ≤ 5 := ho.1.1.1
  have n10 : n ≤ 10 := ho.1.1.2.1
  replace c1 : ar so p S := c1
  replace c2 : ar on n O := c2
  replace c3 : ar ot n T := c3
  replace c4 : ar ki n K := c4
  replace c5 : ar ye n Y := c5
  replace c6 : ar sa n Z := c6
  unfold unD at hu
  dsimp only at hu
  unfold f_X_takeBack
  rw [iI_ck hj (by omega), lt_eq, iI_ck hj (by omega), iI_cl (by omega)]
  rcases hu with ⟨a0, hn, hg, hs, hk⟩ | ⟨a0, i, m, hi, hw, hm, hn, hg, hs, hk⟩ | ⟨a0, i, m, hi, hw, hm, hn, hg, hs1, hs, hk⟩ | ⟨a0, hn, hg, hs, hk⟩
  · replace hn : n' = n := hn
    replace hg : g' + 1 = g := hg
    subst hn
    obtain ⟨ye', y1, y2⟩ := q_pass (l1 := (-1 : Int32)) (go := iI (g : Nat)) (Y' := Y') n10 c5 (fun k hk2 => by
      have : Y' k + 1 = Y k := (hk k hk2).2.2.2.1
      rw [show (-1 : Int32) = iI (-1) from rfl, iI_add]; exact congrArg iI (by omega))
    rw [if_pos a0, y1, bd_some]
    refine ⟨_, rfl, ⟨fun q hq => ?_, fun k h2 => ?_, fun k h2 => ?_, fun k h2 => ?_, y2, fun k h2 => ?_⟩, rfl, ?_⟩
    · show so q = iI (S' q : Nat); rw [hs q hq]; exact c1 q hq
    · show on k = iI (O' k : Nat); rw [(hk k h2).1]; exact c2 k h2
    · show ot k = iI (T' k : Nat); rw [(hk k h2).2.1]; exact c3 k h2
    · show ki k = iI (K' k : Nat); rw [(hk k h2).2.2.1]; exact c4 k h2
    · show sa k = iI (Z' k : Nat); rw [(hk k h2).2.2.2.2]; exact c6 k h2
    · show iI (g : Nat) + -1 = iI (g' : Nat)
      rw [show (-1 : Int32) = iI (-1) from rfl, iI_add]; exact congrArg iI (by omega)
  · replace hn : n' = n := hn
    replace hg : g' = g := hg
    replace hi : i < n := hi
    subst hn hg
    rw [if_neg (show ¬ pa j = 0 by rw [a0]; decide), if_pos a0, hw, hm, iI_ck (show i < 10 by omega) (by omega), iI_ck hj (by omega), iI_ck (show i < 10 by omega) (by omega), iI_cl (by omega)]
    refine ⟨_, rfl, ⟨fun q hq => ?_, fun k h2 => ?_, fun k h2 => ?_, fun k h2 => ?_, fun k h2 => ?_, fun k h2 => ?_⟩, rfl, rfl⟩
    · show so q = iI (S' q : Nat); rw [hs q hq]; exact c1 q hq
    · show on k = iI (O' k : Nat); rw [(hk k h2).1]; exact c2 k h2
    · show ot k = iI (T' k : Nat); rw [(hk k h2).2.1]; exact c3 k h2
    · show ki k = iI (K' k : Nat); rw [(hk k h2).2.2.1]; exact c4 k h2
    · show ye k = iI (Y' k : Nat); rw [(hk k h2).2.2.2.1]; exact c5 k h2
    · show upd sa i (sa i - iI (m : Nat)) k = iI (Z' k : Nat)
      have hz : Z k = if k = i then Z' k + m else Z' k := (hk k h2).2.2.2.2
      by_cases e : k = i
      · subst e
        rw [if_pos rfl] at hz
        rw [upd_s, c6 k h2, iI_sub]; exact congrArg iI (by show (Z k : Int) - _ = _; omega)
      · rw [if_neg e] at hz
        rw [upd_n e, ← hz]; exact c6 k h2
  · replace hn : n' = n := hn
    replace hg : g' = g := hg
    subst hn hg
    rw [if_neg (show ¬ pa j = 0 by rw [a0]; decide), if_neg (show ¬ pa j = 1 by rw [a0]; decide), if_pos a0, hw, hm, iI_ck hj (by omega), iI_ck (show i < 5 by omega) (by omega), iI_cl (by omega)]
    refine ⟨_, rfl, ⟨fun q hq => ?_, fun k h2 => ?_, fun k h2 => ?_, fun k h2 => ?_, fun k h2 => ?_, fun k h2 => ?_⟩, rfl, rfl⟩
    · show upd so i (iI (m : Nat)) q = iI (S' q : Nat)
      by_cases e : q = i
      · subst e; rw [upd_s]; exact congrArg (fun z : Nat => iI (z : Int)) hs1.symm
      · rw [upd_n e, hs q hq e]; exact c1 q hq
    · show on k = iI (O' k : Nat); rw [(hk k h2).1]; exact c2 k h2
    · show ot k = iI (T' k : Nat); rw [(hk k h2).2.1]; exact c3 k h2
    · show ki k = iI (K' k : Nat); rw [(hk k h2).2.2.1]; exact c4 k h2
    · show ye k = iI (Y' k : Nat); rw [(hk k h2).2.2.2.1]; exact c5 k h2
    · show sa k = iI (Z' k : Nat); rw [(hk k h2).2.2.2.2]; exact c6 k h2
  · replace hn : n' + 1 = n := hn
    replace hg : g' = g := hg
    subst hg
    rw [if_neg (show ¬ pa j = 0 by rw [a0]; decide), if_neg (show ¬ pa j = 1 by rw [a0]; decide), if_neg (show ¬ pa j = 2 by rw [a0]; decide), lt_eq]
    refine ⟨_, rfl, ⟨fun q hq => ?_, fun k h2 => ?_, fun k h2 => ?_, fun k h2 => ?_, fun k h2 => ?_, fun k h2 => ?_⟩, ?_, rfl⟩
    · show so q = iI (S' q : Nat); rw [hs q hq]; exact c1 q hq
    · replace h2 : k < n' := h2
      show on k = iI (O' k : Nat); rw [(hk k h2).1]; exact c2 k (by show k < n; omega)
    · replace h2 : k < n' := h2
      show ot k = iI (T' k : Nat); rw [(hk k h2).2.1]; exact c3 k (by show k < n; omega)
    · replace h2 : k < n' := h2
      show ki k = iI (K' k : Nat); rw [(hk k h2).2.2.1]; exact c4 k (by show k < n; omega)
    · replace h2 : k < n' := h2
      show ye k = iI (Y' k : Nat); rw [(hk k h2).2.2.2.1]; exact c5 k (by show k < n; omega)
    · replace h2 : k < n' := h2
      show sa k = iI (Z' k : Nat); rw [(hk k h2).2.2.2.2]; exact c6 k (by show k < n; omega)
    · show iI (n : Nat) - 1 = iI (n' : Nat)
      rw [i_1, iI_sub]; exact congrArg iI (by omega)
end
