/-! odds and mean -/
def qzL (a : Int64) (t : Int32) (a' : Int64) (t' w : Int32) : Prop := a = a' ∧ t = t' ∧ ¬ t = 4 ∧ w = -1
theorem qzL_0 {a a' : Int64} (h : a = a') : qzL a 0 a' 0 (-1) := ⟨h, rfl, by decide, rfl⟩
theorem m1L : (-1 : Int64) = (-1 : Int32).toInt64 := by decide
theorem chn (l : Int32) : (∃ t : Nat, t ≤ 8 ∧ l = iI t ∧ f_X_within l 8 = some 1 ∧ f_M_in l 0 8 = some 1) ∨ (f_X_within l 8 = some 0 ∧ f_M_in l 0 8 = some 0) := by
  obtain ⟨z, z1, z2, rfl⟩ := i_any l
  unfold f_X_within f_M_in
  simp (disch := omega) only [i_8, i_0, iI_lt]
  by_cases c1 : z < 0
  · right; simp only [if_pos c1]; exact ⟨rfl, rfl⟩
  · simp only [if_neg c1]
    by_cases c2 : (8 : Int) < z
    · right; simp only [if_pos c2]; exact ⟨rfl, rfl⟩
    · left; simp only [if_neg c2]
      exact ⟨z.toNat, by omega, by congr 1; omega, rfl, rfl⟩
/-- what counts at the end: the handle, or whether they feed -/
def bsN (S O T K : Nat → Nat) (sl k : Nat) (of : Bool) (h : Nat) : Nat := if of then h else if rch (K k) h (dst (S (O k)) (S (T k))) sl then 1 else 0
section
variable {so on ot ki ye sa v x sp' s1 s2 s3 s4 s9 : Nat → Int32} {s5 s6 s7 s8 s10 mm ms mc : Int32} {S O T K Y Z : Nat → Nat} {p n fb ns sl sw qc k : Nat}
theorem q_expected {of : Bool} (hc : cv so on ot ki ye sa S O T K Y Z p n) (ho : nok S O T K Y Z p n fb ns sl) (hk : k < n) (hsw : sw < 100) (hqc : qc ≤ 100) : ∀ m h f : Nat, m < f → h + m < 90000 → f_X_expected f (iI k) (iI h) (iI m) (b01 of) (iI sl) (iI sw) (iI qc) so on ot ki = some (jL (exN (K k == 2) sw qc (bsN S O T K sl k of) m h : Nat)) := by
  obtain ⟨c0, c1, c2, c3, c4, c5⟩ := hc
  obtain ⟨⟨p5, n10, ns10, f1, t1, b⟩, ho2, hzy, hsl, hp0⟩ := ho
  obtain ⟨b1, b2, b3, b4, b5, b6⟩ := b k hk
  have t2 := t1 _ b1
  have t3 := t1 _ b2
  intro m
  induction m with
  | zero =>
    intro h f hf hh
    obtain ⟨f, rfl⟩ : ∃ f', f = f' + 1 := ⟨f - 1, by omega⟩
    rw [f_X_expected, if_neg (by rw [i_0, iI_lt] <;> omega), exN]
    unfold bsN
    cases of
    · rw [if_pos (by rfl), iI_ck (by omega) (by omega), q_far n10 p5 hk c0 c1 c2 b1 b2 (by omega) (by omega), bd_some, iI_cl (by omega), c3 k hk, q_reaches b4 (by omega) (Nat.lt_trans (dst_lt (by omega) (by omega)) (by omega)) (by omega), bd_some]
      cases rch (K k) h (dst (S (O k)) (S (T k))) sl <;> rfl
    · rw [if_neg (by decide), iI_long (by omega) (by omega)]
      rfl
  | succ m ih =>
    intro h f hf hh
    obtain ⟨f, rfl⟩ : ∃ f', f = f' + 1 := ⟨f - 1, by omega⟩
    have e1 : (if ki (iI (k : Int)).toNatClampNeg = 2 then some (iI (h : Int)) else some (iI (h : Int) + 1) : Option Int32) = some (iI (lnN (K k == 2) h : Nat)) := by
      rw [iI_cl (by omega), c3 k hk, i_2]
      unfold lnN
      by_cases c : K k = 2
      · rw [if_pos (by rw [c]; rfl)]; simp [c]
      · rw [if_neg (by rw [iI_eq] <;> omega), i_1, iI_add]; simp [c]
    have e2 : (if ki (iI (k : Int)).toNatClampNeg = 2 then some (iI (h : Int)) else some (iI (lnN (K k == 2) h : Nat) - (if iI (lnN (K k == 2) h : Nat) < iI (sw : Int) then iI (lnN (K k == 2) h : Nat) else iI (sw : Int))) : Option Int32) = some (iI (swN (K k == 2) sw h : Nat)) := by
      rw [iI_cl (by omega), c3 k hk, i_2]
      unfold lnN swN
      by_cases c : K k = 2
      · rw [if_pos (by rw [c]; rfl)]; simp [c]
      · rw [if_neg (by rw [iI_eq] <;> omega)]
        simp only [c, beq_iff_eq, if_false]
        by_cases d : h + 1 < sw
        · rw [if_pos (by rw [iI_lt] <;> omega), iI_sub]; congr 2; omega
        · rw [if_neg (by rw [iI_lt] <;> omega), iI_sub]; congr 2; omega
    have l1 : lnN (K k == 2) h ≤ h + 1 := by unfold lnN; split <;> omega
    have l2 : swN (K k == 2) sw h ≤ h + 1 := by unfold swN; split <;> omega
    have e3 : iI ((m + 1 : Nat) : Int) - 1 = iI (m : Int) := by rw [i_1, iI_sub]; congr 1; omega
    rw [f_X_expected, if_pos (by rw [i_0, iI_lt] <;> omega), iI_ck (by omega) (by omega), e1, bd_some, iI_ck (by omega) (by omega), e2, bd_some, e3, ih _ _ (by omega) (by omega), bd_some, ih _ _ (by omega) (by omega), bd_some, exN, iI_long (by omega) (by omega), show (100 : Int64) = jL 100 from rfl, jL_sub, jL_mul, jL_mul, jL_add]
    congr 2
    rw [Int.natCast_add, Int.natCast_mul, Int.natCast_mul]
    congr 2
    omega
theorem pow_div (s i : Nat) : s / 2 ^ (i + 1) = s / 2 ^ i / 2 := by rw [Nat.pow_succ, Nat.div_div_eq_div_mul]
theorem tb_mod (s i : Nat) : s.testBit i = decide (s / 2 ^ i % 2 = 1) := Nat.testBit_eq_decide_div_mod_eq
/-- one way of quarrels, its weight, and how the pair stands then -/
theorem r_partOf {m set : Nat} (hv : xv v S O T K Y Z p n fb) (ho : nok S O T K Y Z p n fb ns sl) (hk : k < n) (hsw : sw < 100) (hqc : qc ≤ 100) (hm : m ≤ 8) (hs : set < 1024) : ∃ P x' Y' Z', f_M_partOf (iI k) (iI m) (iI set) v x (iI sw) (iI qc) = some (jL (P : Nat), x') ∧ xv x' S O T K Y' Z' p n fb ∧ yz Y' Z' n 9000 ∧ ∀ base : Nat → Nat, P * base (H0 K Y' Z' k) = tmN (K k == 2) sw qc base m set (H0 K Y Z k) := by
  obtain ⟨x1, w1, w2, -⟩ := r_worksX (x := x) hv ho
  have p5 := ho.1.1
  have n10 := ho.1.2.1
  have key := lp (L := fun f j (st : Int64 × (Nat → Int32)) => f_M_partOf_L10 (iI k) (iI m) (iI set) (iI sw) (iI qc) f st.1 (iI (j : Int)) st.2) (n := m) (I := fun i st => ∃ P Y' Z', st.1 = jL (P : Nat) ∧ xv st.2 S O T K Y' Z' p n fb ∧ (∀ j, j < n → Z' j ≤ Y' j ∧ Y' j ≤ Y j + i) ∧ ∀ base : Nat → Nat, P * tmN (K k == 2) sw qc base (m - i) (set / 2 ^ i) (H0 K Y' Z' k) = tmN (K k == 2) sw qc base m set (H0 K Y Z k)) (Post := fun st => ∃ P Y' Z', st.1 = jL (P : Nat) ∧ xv st.2 S O T K Y' Z' p n fb ∧ yz Y' Z' n 9000 ∧ ∀ base : Nat → Nat, P * base (H0 K Y' Z' k) = tmN (K k == 2) sw qc base m set (H0 K Y Z k)) ?_ ?_ fu 0 ((1 : Int64), x1) (by omega) (by have := fu_big; omega) ⟨1, Y, Z, rfl, w2, fun j hj => ⟨(ho.2.2.1 j hj).1, by omega⟩, fun base => by simp⟩
  · obtain ⟨st, ⟨P, Y', Z', q1, q2, q3, q4⟩, he⟩ := key
    have he2 : f_M_partOf_L10 (iI k) (iI m) (iI set) (iI sw) (iI qc) fu (1 : Int64) (0 : Int32) x1 = some st := he
    refine ⟨P, st.2, Y', Z', ?_, q2, q3, q4⟩
    unfold f_M_partOf
    rw [w1, bd_some, he2, bd_some, q1]
  · intro f j st hj hst
    obtain ⟨P, Y', Z', i1, i2, i3, i4⟩ := hst
    have hyz : yz Y' Z' n 9000 := fun i hi => by
      have h1 := i3 i hi; have h2 := (ho.2.2.1 i hi).2
      exact ⟨h1.1, by omega⟩
    obtain ⟨x', g1, g2⟩ := r_yearOf (sw := sw) (q := set.testBit j) i2 (xok_yz ho.1 (fun i hi => by have := hyz i hi; omega)) hk hsw hyz
    left
    refine ⟨(jL ((P * (if set.testBit j then qc else 100 - qc) : Nat) : Int), x'), ⟨P * (if set.testBit j then qc else 100 - qc), yr1 Y' k, sw1 K Y' Z' k sw (set.testBit j), rfl, g2, fun i hi => ?_, fun base => ?_⟩, ?_⟩
    · by_cases c : i = k
      · subst c
        have h1 := i3 i hi
        refine ⟨sw1_le h1.1, ?_⟩
        unfold yr1 setN
        rw [if_pos rfl]
        omega
      · obtain ⟨-, e2, e3⟩ := sw1_oth (K := K) (Y := Y') (Z := Z') (sw := sw) (q := set.testBit j) c
        have h1 := i3 i hi
        rw [e2, e3]
        exact ⟨h1.1, by omega⟩
    · rw [← i4 base, show m - j = (m - (j + 1)) + 1 by omega, tmN, ← pow_div, Nat.mul_assoc, sw1_hnd (i3 k hk).1, tb_mod]
      congr 1
      have hH : K k = 2 → H0 K Y' Z' k = 1 := fun c => by unfold H0 hnd; rw [if_pos c]
      by_cases d : set / 2 ^ j % 2 = 1
      · simp only [d, decide_true, if_true]
        congr 2
        unfold swN
        by_cases c : K k = 2
        · rw [if_pos c, hH c]; simp [c]
        · rw [if_neg c]; simp [c]
      · simp only [d, decide_false, Bool.false_eq_true, if_false]
        congr 2
        unfold lnN
        by_cases c : K k = 2
        · rw [if_pos c, hH c]; simp [c]
        · rw [if_neg c]; simp [c]
    · simp only [f_M_partOf_L10]
      simp (disch := omega) only [iI_le]
      rw [if_neg (by omega), r_bit (by omega) (by omega), bd_some, g1, bd_some, bd_some]
      simp only [lt, b01_eq0]
      rw [i1, i_1, iI_add]
      have e5 : (if set.testBit j = false then some (((100 : Int32) - iI (qc : Int)).toInt64) else some ((iI (qc : Int)).toInt64) : Option Int64) = some (jL ((if set.testBit j then qc else 100 - qc : Nat) : Int)) := by
        rw [i_100, iI_sub, iI_long (by omega) (by omega), iI_long (by omega) (by omega)]
        cases set.testBit j
        · simp only [if_true, Bool.false_eq_true, if_false]; congr 2; omega
        · simp
      rw [e5, bd_some, jL_mul, ← Int.natCast_mul]
      rfl
  · intro f st hst
    obtain ⟨P, Y', Z', i1, i2, i3, i4⟩ := hst
    refine ⟨(st.1, st.2), ⟨P, Y', Z', i1, i2, fun i hi => ?_, fun base => ?_⟩, ?_⟩
    · have h1 := i3 i hi; have h2 := (ho.2.2.1 i hi).2
      exact ⟨h1.1, by omega⟩
    · have := i4 base
      rwa [Nat.sub_self, tmN] at this
    · simp only [f_M_partOf_L10]
      simp (disch := omega) only [iI_le]
      rw [if_pos (by omega)]
theorem pow8 {m : Nat} (h : m ≤ 8) : 100 ^ m ≤ 10000000000000000 ∧ 2 ^ m ≤ 256 ∧ 0 < 100 ^ m := by
  have : ∀ m : Nat, m < 9 → 100 ^ m ≤ 10000000000000000 ∧ 2 ^ m ≤ 256 ∧ 0 < 100 ^ m := by decide
  exact this m (by omega)
theorem e_odds (h : PT so on ot ki ye sa v S O T K Y Z p n fb ns sl) (hsw : sw < 100) (hqc : qc ≤ 100) (l1 l2 l3 : Int32) : ∃ R R', f_X_odds l1 l2 l3 (iI sl) (iI sw) (iI qc) so on ot ki ye sa (iI n) = some R ∧ f_M_odds l1 l2 l3 v x (iI sl) (iI sw) (iI qc) = some R' ∧ qzL R.1 R.2 R'.1 R'.2.2.1 R'.2.2.2.1 := by
  obtain ⟨hc, hv, ho⟩ := h
  have n10 := ho.1.2.1
  unfold f_X_odds f_M_odds f_M_refusesChance
  rcases prs n10 hv.2.2.1 l1 with ⟨k, hk, rfl, e1, e2⟩ | ⟨e1, e2⟩
  · rw [e1, e2]
    simp only [bd_some, z10, eq_self, if_true, if_false]
    rcases chn l2 with ⟨m, hm, rfl, e3, e4⟩ | ⟨e3, e4⟩
    · have b := ho.1.2.2.2.2.2 k hk
      have hy := (ho.2.2.1 k hk)
      have hq := q_handle n10 hk hc.2.2.2.1 hc.2.2.2.2.1 hc.2.2.2.2.2 b.2.2.2.1 (by omega) (by omega)
      change f_Now_handle (iI k) ki ye sa = some (iI (H0 K Y Z k : Nat)) at hq
      have hH : H0 K Y Z k < 6000 := by unfold H0 hnd; split <;> omega
      have hE := q_expected (of := false) hc ho hk hsw hqc m (H0 K Y Z k) 12 (by omega) (by omega)
      have hE : f_X_expected 12 (iI k) (iI (H0 K Y Z k : Nat)) (iI m) (0 : Int32) (iI sl) (iI sw) (iI qc) so on ot ki = some (jL (exN (K k == 2) sw qc (bsN S O T K sl k false) m (H0 K Y Z k) : Nat)) := hE
      obtain ⟨p1, p2, p3⟩ := pow8 hm
      have hpos := Nat.two_pow_pos m
      obtain ⟨u1, u2⟩ := hund m (by omega)
      have hle := exN_le (k2 := K k == 2) (sw := sw) (B := 1) (base := bsN S O T K sl k false) hqc m (H0 K Y Z k) (fun h' _ => by unfold bsN; simp only [Bool.false_eq_true, if_false]; split <;> omega)
      have key := lp (L := fun f j (st : Int64 × (Nat → Int32)) => f_M_odds_L32 (iI k) (iI m) v (iI sl) (iI sw) (iI qc) f st.1 (iI (j : Int)) st.2) (n := 2 ^ m) (I := fun j st => st.1 = jL (sumT (fun s => tmN (K k == 2) sw qc (bsN S O T K sl k false) m s (H0 K Y Z k)) j : Nat)) (Post := fun st => st.1 = jL (sumT (fun s => tmN (K k == 2) sw qc (bsN S O T K sl k false) m s (H0 K Y Z k)) (2 ^ m) : Nat)) (fun f j st hj hst => by
          obtain ⟨P, x', Y', Z', g1, g2, g3, g4⟩ := r_partOf (x := st.2) (set := j) hv ho hk hsw hqc hm (by omega)
          have hF := r_isFeeding g2 (xok_yz ho.1 (fun i hi => by have := g3 i hi; omega)) hk (show sl < 10 by have := ho.2.2.2.1; omega)
          have g5 := g4 (bsN S O T K sl k false)
          left
          refine ⟨(jL (sumT (fun s => tmN (K k == 2) sw qc (bsN S O T K sl k false) m s (H0 K Y Z k)) (j + 1) : Nat), x'), rfl, ?_⟩
          simp only [f_M_odds_L32]
          rw [iI_shl1 (by omega), if_neg (by rw [iI_le] <;> omega), g1, bd_some, hF, bd_some, hst]
          simp only [lt, b01_eq0]
          have e6 : (if canP S O T K (H0 K Y' Z') sl k = false then some (0 : Int64) else some (jL (P : Nat)) : Option Int64) = some (jL ((tmN (K k == 2) sw qc (bsN S O T K sl k false) m j (H0 K Y Z k) : Nat) : Int)) := by
            rw [← g5]
            unfold bsN canP
            cases rch (K k) (H0 K Y' Z' k) (dst (S (O k)) (S (T k))) sl
            · simp; rfl
            · simp
          rw [e6, bd_some, jL_add, i_1, iI_add, sumT, Int.natCast_add]
          rfl) (fun f st hst => by
          refine ⟨(st.1, st.2), hst, ?_⟩
          simp only [f_M_odds_L32]
          rw [iI_shl1 (by omega), if_pos (by rw [iI_le] <;> omega)]) fu 0 ((0 : Int64), x) (by omega) (by have := fu_big; omega) rfl
      obtain ⟨st, hst, he⟩ := key
      have he2 : f_M_odds_L32 (iI k) (iI m) v (iI sl) (iI sw) (iI qc) fu (0 : Int64) (0 : Int32) x = some st := he
      rw [sumT_ex] at hst
      rw [e3, e4]
      simp only [bd_some, z10, if_false]
      rw [if_pos (show (0 : Int32) ≤ 0 by decide), hq, he2, bd_some, hE, bd_some, bd_some, u1, u2, bd_some, bd_some, hst, q_lowest (by omega) (by omega) p3, r_fraction (by omega) (by omega) p3]
      exact ⟨_, _, rfl, rfl, qzL_0 rfl⟩
    · rw [e3, e4]
      exact ⟨_, _, rfl, rfl, rfl, rfl, by decide, rfl⟩
  · rw [e1, e2]; exact ⟨_, _, rfl, rfl, m1L, rfl, by decide, rfl⟩
theorem e_mean (h : PT so on ot ki ye sa v S O T K Y Z p n fb ns sl) (hsw : sw < 100) (hqc : qc ≤ 100) (l1 l2 l3 : Int32) : ∃ R R', f_X_mean l1 l2 l3 (iI sl) (iI sw) (iI qc) so on ot ki ye sa (iI n) = some R ∧ f_M_mean l1 l2 l3 v x (iI sw) (iI qc) = some R' ∧ qzL R.1 R.2 R'.1 R'.2.2.1 R'.2.2.2.1 := by
  obtain ⟨hc, hv, ho⟩ := h
  have n10 := ho.1.2.1
  unfold f_X_mean f_M_mean f_M_refusesChance
  rcases prs n10 hv.2.2.1 l1 with ⟨k, hk, rfl, e1, e2⟩ | ⟨e1, e2⟩
  · rw [e1, e2]
    simp only [bd_some, z10, eq_self, if_true, if_false]
    rcases chn l2 with ⟨m, hm, rfl, e3, e4⟩ | ⟨e3, e4⟩
    · obtain ⟨x1, w1, w2, -⟩ := r_worksX (x := x) hv ho
      have b := ho.1.2.2.2.2.2 k hk
      have hy := (ho.2.2.1 k hk)
      have hq := q_handle n10 hk hc.2.2.2.1 hc.2.2.2.2.1 hc.2.2.2.2.2 b.2.2.2.1 (by omega) (by omega)
      change f_Now_handle (iI k) ki ye sa = some (iI (H0 K Y Z k : Nat)) at hq
      have hr := r_handleOf w2 ho.1 hk
      change f_M_handleOf (iI k) x1 = some (iI (H0 K Y Z k : Nat)) at hr
      have hH : H0 K Y Z k < 6000 := by unfold H0 hnd; split <;> omega
      have hE := q_expected (of := true) hc ho hk hsw hqc m (H0 K Y Z k) 12 (by omega) (by omega)
      have hE : f_X_expected 12 (iI k) (iI (H0 K Y Z k : Nat)) (iI m) (1 : Int32) (iI sl) (iI sw) (iI qc) so on ot ki = some (jL (exN (K k == 2) sw qc (bsN S O T K sl k true) m (H0 K Y Z k) : Nat)) := hE
      obtain ⟨p1, p2, p3⟩ := pow8 hm
      have hpos := Nat.two_pow_pos m
      obtain ⟨u1, u2⟩ := hund m (by omega)
      have i900 : (900 : Int32) = iI 900 := rfl
      rw [e3, e4]
      simp only [bd_some, z10, if_false]
      rw [if_pos (show (0 : Int32) ≤ 0 by decide), hq, w1]
      simp only [bd_some]
      rw [hr]
      simp only [bd_some]
      rw [i900]
      by_cases c9 : H0 K Y Z k ≤ 900
      · have hle := exN_le (k2 := K k == 2) (sw := sw) (B := 908) (base := bsN S O T K sl k true) hqc m (H0 K Y Z k) (fun h' _ => by unfold bsN; simp only [if_true]; omega)
        have key := lp (L := fun f j (st : Int64 × (Nat → Int32)) => f_M_mean_L54 (iI k) (iI m) v (iI sw) (iI qc) f st.1 (iI (j : Int)) st.2) (n := 2 ^ m) (I := fun j st => st.1 = jL (sumT (fun s => tmN (K k == 2) sw qc (bsN S O T K sl k true) m s (H0 K Y Z k)) j : Nat)) (Post := fun st => st.1 = jL (sumT (fun s => tmN (K k == 2) sw qc (bsN S O T K sl k true) m s (H0 K Y Z k)) (2 ^ m) : Nat)) (fun f j st hj hst => by
            obtain ⟨P, x', Y', Z', g1, g2, g3, g4⟩ := r_partOf (x := st.2) (set := j) hv ho hk hsw hqc hm (by omega)
            have hF := r_handleOf g2 (xok_yz ho.1 (fun i hi => by have := g3 i hi; omega)) hk
            change f_M_handleOf (iI k) x' = some (iI (H0 K Y' Z' k : Nat)) at hF
            have hHk : H0 K Y' Z' k < 100000 := H0_lt (by have := g3 k hk; omega)
            have g5 : P * H0 K Y' Z' k = _ := g4 (bsN S O T K sl k true)
            left
            refine ⟨(jL (sumT (fun s => tmN (K k == 2) sw qc (bsN S O T K sl k true) m s (H0 K Y Z k)) (j + 1) : Nat), x'), rfl, ?_⟩
            simp only [f_M_mean_L54]
            rw [iI_shl1 (by omega), if_neg (by rw [iI_le] <;> omega), g1, bd_some, hF, bd_some, hst]
            simp only [lt]
            rw [iI_long (by omega) (by omega), jL_mul, jL_add, i_1, iI_add, ← Int.natCast_mul, g5, sumT, Int.natCast_add]
            rfl) (fun f st hst => by
            refine ⟨(st.1, st.2), hst, ?_⟩
            simp only [f_M_mean_L54]
            rw [iI_shl1 (by omega), if_pos (by rw [iI_le] <;> omega)]) fu 0 ((0 : Int64), x1) (by omega) (by have := fu_big; omega) rfl
        obtain ⟨st, hst, he⟩ := key
        have he2 : f_M_mean_L54 (iI k) (iI m) v (iI sw) (iI qc) fu (0 : Int64) (0 : Int32) x1 = some st := he
        rw [sumT_ex] at hst
        have c9' : iI (H0 K Y Z k : Nat) ≤ iI 900 := by rw [iI_le] <;> omega
        rw [if_pos c9', if_pos c9', he2, hE]
        simp only [bd_some]
        rw [u1, u2]
        simp only [bd_some]
        rw [hst, q_lowest (by omega) (by omega) p3, r_fraction (by omega) (by omega) p3]
        exact ⟨_, _, rfl, rfl, qzL_0 rfl⟩
      · have c9' : ¬ iI (H0 K Y Z k : Nat) ≤ iI 900 := by rw [iI_le] <;> omega
        rw [if_neg c9', if_neg c9']
        exact ⟨_, _, rfl, rfl, rfl, rfl, by decide, rfl⟩
    · rw [e3, e4]
      exact ⟨_, _, rfl, rfl, rfl, rfl, by decide, rfl⟩
  · rw [e1, e2]; exact ⟨_, _, rfl, rfl, m1L, rfl, by decide, rfl⟩
end
