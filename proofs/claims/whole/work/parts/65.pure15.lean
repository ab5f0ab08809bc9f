/-! the class's rows and the reference's row hold one picture -/
def cv (so on ot ki ye sa : Nat → Int32) (S O T K Y Z : Nat → Nat) (p n : Nat) : Prop := ar so p S ∧ ar on n O ∧ ar ot n T ∧ ar ki n K ∧ ar ye n Y ∧ ar sa n Z
def nok (S O T K Y Z : Nat → Nat) (p n fb ns sl : Nat) : Prop := xok S O T K Y Z p n fb ns ∧ pok O T p n ∧ (∀ k, k < n → Z k ≤ Y k ∧ Y k < 5000) ∧ sl < 4 ∧ 0 < p
def PT (so on ot ki ye sa v : Nat → Int32) (S O T K Y Z : Nat → Nat) (p n fb ns sl : Nat) : Prop := cv so on ot ki ye sa S O T K Y Z p n ∧ xv v S O T K Y Z p n fb ∧ nok S O T K Y Z p n fb ns sl
def BS (S O T K H : Nat → Nat) (sl fb n : Nat) : Nat × Nat := Fm (slopP S O T fb) (lmS S O T K H sl n)
theorem lmI_congr {can can' : Nat → Bool} {dj : Nat → Nat → Bool} {n k : Nat} (h : ∀ k, k < n → can k = can' k) : ∀ l, l ≤ n → lmI can dj k l = lmI can' dj k l := by
  intro l
  induction l with
  | zero => intro _; rfl
  | succ l ih => intro hl; rw [lmI, lmI, ih (by omega), h l (by omega)]
theorem lm_congr {can can' : Nat → Bool} {dj : Nat → Nat → Bool} {n : Nat} (h : ∀ k, k < n → can k = can' k) : ∀ m, m ≤ n → lm can dj n m = lm can' dj n m := by
  intro m
  induction m with
  | zero => intro _; rfl
  | succ m ih => intro hm; rw [lm, lm, ih (by omega), h m (by omega), lmI_congr h n (Nat.le_refl _)]
theorem BS_congr {S O T K H H' : Nat → Nat} {sl fb n : Nat} (h : ∀ k, k < n → H k = H' k) : BS S O T K H sl fb n = BS S O T K H' sl fb n := by
  unfold BS lmS
  rw [lm_congr (can' := canP S O T K H' sl) (fun k hk => by unfold canP; rw [h k hk]) n (Nat.le_refl _)]
theorem BS_lt {S O T K H : Nat → Nat} {sl fb n p : Nat} (hn : n ≤ 10) (hb : ∀ k, k < n → O k < p ∧ T k < p) (hs : ∀ q, q < p → S q < 10) : (BS S O T K H sl fb n).1 < 1024 ∧ (BS S O T K H sl fb n).2 < 100000 := by
  have hS : ∀ i, i < n → slopP S O T fb i < 1000 := fun i hi => slopP_lt (hs _ (hb i hi).1) (hs _ (hb i hi).2)
  exact Fm_ok _ (lm_ok (can := canP S O T K H sl) (dj := djP (bothP O T)) hn hS n (by omega)).1
theorem ar_cpy {f g : Nat → Int32} {S : Nat → Nat} {p : Nat} (hp : p ≤ 5) (h : ar f p S) : ar (va_cpy f g 0 0 5) p S := by
  intro j hj
  unfold va_cpy
  rw [if_pos (by omega)]
  have := h j hj
  simpa using this
theorem q_lay {so ki ye sa sso shd : Nat → Int32} {S K Y Z : Nat → Nat} {p n : Nat} {fb : Int32} (hn : n ≤ 10) (hp : p ≤ 5) (h0 : ar so p S) (h1 : ar ki n K) (h2 : ar ye n Y) (h3 : ar sa n Z) (bb : ∀ k, k < n → K k < 3 ∧ Y k < 10000 ∧ Z k < 10000) :
    ∃ so' hd', f_Scene_lay fb so ki ye sa (iI n) sso shd = some (so', hd', fb) ∧ ar so' p S ∧ ar hd' n (H0 K Y Z) := by
  have key := lp (L := fun f j (st : Nat → Int32) => f_Scene_lay_L19 ki ye sa (iI n) f (iI (j : Int)) st) (n := n) (I := fun j st => ar st j (H0 K Y Z)) (Post := fun r => ar r n (H0 K Y Z)) (fun f j st hj hst => ?_) (fun f st hst => ?_) fu 0 shd (by omega) (by have := fu_big; omega) (fun j hj => by omega)
  · obtain ⟨r, hr, he⟩ := key
    have he2 : f_Scene_lay_L19 ki ye sa (iI n) fu (0 : Int32) shd = some r := he
    refine ⟨_, r, ?_, ar_cpy (g := sso) hp h0, hr⟩
    unfold f_Scene_lay
    rw [he2]
    rfl
  · refine Or.inl ⟨_, ar_upd hst, ?_⟩
    obtain ⟨b1, b2, b3⟩ := bb j hj
    simp only [f_Scene_lay_L19, lt]
    simp (disch := omega) only [iI_le]
    rw [if_neg (by omega), q_handle hn hj h1 h2 h3 b1 (by omega) (by omega)]
    simp only [bd]
    simp (disch := omega) only [iI_ck, iI_cl, i_1, iI_add]
    rfl
  · refine ⟨st, hst, ?_⟩
    simp only [f_Scene_lay_L19]
    simp (disch := omega) only [iI_le]
    rw [if_pos (by omega)]
theorem q_grow {ki ye sa shd : Nat → Int32} {K Y Z : Nat → Nat} {n t : Nat} (hn : n ≤ 10) (h1 : ar ki n K) (h2 : ar ye n Y) (h3 : ar sa n Z) (bb : ∀ k, k < n → K k < 3 ∧ Y k < 10000 ∧ Z k < 10000) (ht : t < 1000) :
    ∃ hd', f_Scene_grow (iI t) ki ye sa (iI n) shd = some hd' ∧ ar hd' n (fun k => hnd K Y Z k t) := by
  have key := lp (L := fun f j (st : Nat → Int32) => f_Scene_grow_L2 (iI t) ki ye sa (iI n) f (iI (j : Int)) st) (n := n) (I := fun j st => ar st j (fun k => hnd K Y Z k t)) (Post := fun r => ar r n (fun k => hnd K Y Z k t)) (fun f j st hj hst => ?_) (fun f st hst => ?_) fu 0 shd (by omega) (by have := fu_big; omega) (fun j hj => by omega)
  · obtain ⟨r, hr, he⟩ := key
    have he2 : f_Scene_grow_L2 (iI t) ki ye sa (iI n) fu (0 : Int32) shd = some r := he
    refine ⟨r, ?_, hr⟩
    unfold f_Scene_grow
    rw [he2]
    rfl
  · refine Or.inl ⟨_, ar_upd hst, ?_⟩
    obtain ⟨b1, b2, b3⟩ := bb j hj
    simp only [f_Scene_grow_L2, lt]
    simp (disch := omega) only [iI_le]
    rw [if_neg (by omega), q_handleBehind hn hj h1 h2 h3 b1 (by omega) (by omega) (by omega)]
    simp only [bd]
    simp (disch := omega) only [iI_ck, iI_cl, i_1, iI_add]
    rfl
  · refine ⟨st, hst, ?_⟩
    simp only [f_Scene_grow_L2]
    simp (disch := omega) only [iI_le]
    rw [if_pos (by omega)]
theorem q_settleB {on ot ki so hd bo sp bi : Nat → Int32} {S O T K H : Nat → Nat} {n p sl fb : Nat} (hn : n ≤ 10) (hp : p ≤ 5) (h0 : ar so p S) (h1 : ar on n O) (h2 : ar ot n T) (h3 : ar ki n K) (h4 : ar hd n H) (hk : ∀ k, k < n → K k < 3 ∧ H k < 100000) (ho : pok O T p n) (bs : ∀ q, q < p → S q < 10) (hs : sl < 10) (hf : fb < 1024) :
    ∃ bo' sp' bi', f_Scene_settle (iI sl) on ot ki (iI n) so hd bo sp (iI fb) bi = some (bo', sp', iI ((bitsN (canP S O T K H sl) n : Nat) : Int), iI ((BS S O T K H sl fb n).1 : Nat), iI ((BS S O T K H sl fb n).2 : Nat), bi', iI (((lmS S O T K H sl n).length + 1 : Nat) : Int)) ∧ arL bi' (mlS S O T K H sl n) := by
  obtain ⟨bo', sp', bi', e, -, -, a3⟩ := q_settle (bo := bo) (sp := sp) (bi := bi) hn hp h0 h1 h2 h3 h4 (fun k hk' => ⟨(ho.1 k hk').1, (ho.1 k hk').2.1, (hk k hk').1, (hk k hk').2⟩) bs hs hf (mlS_len hp ho)
  refine ⟨bo', sp', bi', ?_, a3⟩
  rw [e, mlS_bst, mlS_lmS]
  rfl
theorem q_fedCount {b : Nat} (h : b < 1024) : f_Scene_fedCount (iI b) = some (iI ((2 * pc10 b : Nat) : Int)) := by
  unfold f_Scene_fedCount
  rw [q_bitCount_d b h]
  simp only [bd, i_2, iI_mul]
  rfl
/-- settled as it is, so many years on -/
theorem q_settleNow {so on ot ki ye sa sso shd bo sp bi : Nat → Int32} {S O T K Y Z : Nat → Nat} {p n fb ns sl : Nat} (hc : cv so on ot ki ye sa S O T K Y Z p n) (ho : nok S O T K Y Z p n fb ns sl) :
    ∃ so' hd' bo' sp' bi', f_X_settleNow (iI sl) (iI fb) so on ot ki ye sa (iI n) sso shd bo sp bi = some (so', hd', bo', sp', iI fb, iI ((bitsN (canP S O T K (H0 K Y Z) sl) n : Nat) : Int), iI ((BS S O T K (H0 K Y Z) sl fb n).1 : Nat), iI ((BS S O T K (H0 K Y Z) sl fb n).2 : Nat), bi', iI (((lmS S O T K (H0 K Y Z) sl n).length + 1 : Nat) : Int)) ∧ arL bi' (mlS S O T K (H0 K Y Z) sl n) ∧ ar hd' n (H0 K Y Z) := by
  obtain ⟨c0, c1, c2, c3, c4, c5⟩ := hc
  obtain ⟨⟨p5, n10, ns10, f1, s1, b⟩, ho2, hzy, hsl, hp0⟩ := ho
  obtain ⟨so', hd', e1, a1, a2⟩ := q_lay (sso := sso) (shd := shd) (fb := iI fb) n10 p5 c0 c3 c4 c5 (fun k hk => by have := b k hk; omega)
  have hH : ∀ k, k < n → K k < 3 ∧ H0 K Y Z k < 100000 := fun k hk => ⟨(b k hk).2.2.2.1, H0_lt (b k hk).2.2.2.2.1⟩
  obtain ⟨bo', sp', bi', e2, a3⟩ := q_settleB (bo := bo) (sp := sp) (bi := bi) n10 p5 a1 c1 c2 c3 a2 hH ho2 (fun q hq => by have := s1 q hq; omega) (show sl < 10 by omega) (Nat.lt_of_lt_of_le f1 (two10 ns10))
  refine ⟨so', hd', bo', sp', bi', ?_, a3, a2⟩
  unfold f_X_settleNow
  rw [e1]
  simp only [bd]
  rw [e2]
theorem q_fedBehind {so on ot ki ye sa sso shd bo sp bi : Nat → Int32} {S O T K Y Z : Nat → Nat} {p n fb ns sl t : Nat} (hc : cv so on ot ki ye sa S O T K Y Z p n) (ho : nok S O T K Y Z p n fb ns sl) (ht : t < 1000) :
    ∃ R, f_X_fedBehind (iI t) (iI sl) (iI fb) so on ot ki ye sa (iI n) sso shd bo sp bi = some R ∧ R.1 = iI ((2 * pc10 (BS S O T K (fun k => hnd K Y Z k t) sl fb n).1 : Nat) : Int) := by
  obtain ⟨c0, c1, c2, c3, c4, c5⟩ := hc
  obtain ⟨⟨p5, n10, ns10, f1, s1, b⟩, ho2, hzy, hsl, hp0⟩ := ho
  obtain ⟨so', hd', e1, a1, a2⟩ := q_lay (sso := sso) (shd := shd) (fb := iI fb) n10 p5 c0 c3 c4 c5 (fun k hk => by have := b k hk; omega)
  obtain ⟨hd2, e2, a3⟩ := q_grow (t := t) (shd := hd') n10 c3 c4 c5 (fun k hk => by have := b k hk; omega) ht
  have hH : ∀ k, k < n → K k < 3 ∧ hnd K Y Z k t < 100000 := fun k hk => ⟨(b k hk).2.2.2.1, by have := (b k hk).2.2.2.2.1; unfold hnd; split <;> omega⟩
  obtain ⟨bo', sp', bi', e3, a4⟩ := q_settleB (bo := bo) (sp := sp) (bi := bi) n10 p5 a1 c1 c2 c3 a3 hH ho2 (fun q hq => by have := s1 q hq; omega) (show sl < 10 by omega) (Nat.lt_of_lt_of_le f1 (two10 ns10))
  have hB := BS_lt (S := S) (K := K) (H := fun k => hnd K Y Z k t) (sl := sl) (fb := fb) n10 (fun k hk => ⟨(b k hk).1, (b k hk).2.1⟩) (fun q hq => by have := s1 q hq; omega)
  unfold f_X_fedBehind
  rw [e1]
  simp only [bd]
  rw [e2]
  simp only
  rw [e3]
  simp only
  rw [q_fedCount hB.1]
  exact ⟨_, rfl, rfl⟩
/-! the reference's row, worked on -/
theorem r_works {v x : Nat → Int32} : ∃ x', f_M_works v x = some x' ∧ ∀ j, j < 58 → x' j = v j := by
  have key := lp (L := fun f j (st : Nat → Int32) => f_M_works_L2 v f (iI (j : Int)) st) (n := 58) (I := fun j st => ∀ k, k < j → st k = v k) (Post := fun r => ∀ k, k < 58 → r k = v k) (fun f j st hj hst => ?_) (fun f st hst => ?_) fu 0 x (by omega) (by have := fu_big; omega) (fun j hj => by omega)
  · obtain ⟨r, hr, he⟩ := key
    have he2 : f_M_works_L2 v fu (0 : Int32) x = some r := he
    refine ⟨r, ?_, hr⟩
    unfold f_M_works
    rw [he2]
    rfl
  · refine Or.inl ⟨upd st j (v j), fun k hk => ?_, ?_⟩
    · by_cases c : k = j
      · subst c; exact upd_s _ _ _
      · rw [upd_n c]; exact hst k (by omega)
    · simp only [f_M_works_L2, lt]
      rw [show (58 : Int32) = iI 58 from rfl]
      simp (disch := omega) only [iI_le, iI_ck, iI_cl, i_1, iI_add]
      rw [if_neg (by omega)]
      rfl
  · refine ⟨st, hst, ?_⟩
    simp only [f_M_works_L2]
    rw [show (58 : Int32) = iI 58 from rfl]
    simp (disch := omega) only [iI_le]
    rw [if_pos (by omega)]
theorem xv_cp {v x : Nat → Int32} {S O T K Y Z : Nat → Nat} {p n fb : Nat} (hp : p ≤ 5) (hn : n ≤ 10) (h : xv v S O T K Y Z p n fb) (e : ∀ j, j < 58 → x j = v j) : xv x S O T K Y Z p n fb := by
  obtain ⟨h1, h2, h3, h4⟩ := h
  refine ⟨fun q hq => by rw [e q (by omega)]; exact h1 q hq, fun k hk => ?_, by rw [e 55 (by omega)]; exact h3, by rw [e 56 (by omega)]; exact h4⟩
  obtain ⟨a, b, c, d, f⟩ := h2 k hk
  exact ⟨by rw [e _ (by omega)]; exact a, by rw [e _ (by omega)]; exact b, by rw [e _ (by omega)]; exact c, by rw [e _ (by omega)]; exact d, by rw [e _ (by omega)]; exact f⟩
theorem r_worksX {v x : Nat → Int32} {S O T K Y Z : Nat → Nat} {p n fb ns sl : Nat} (hv : xv v S O T K Y Z p n fb) (ho : nok S O T K Y Z p n fb ns sl) : ∃ x', f_M_works v x = some x' ∧ xv x' S O T K Y Z p n fb ∧ x' 57 = v 57 := by
  obtain ⟨x', e, h⟩ := r_works (v := v) (x := x)
  exact ⟨x', e, xv_cp ho.1.1 ho.1.2.1 hv h, h 57 (by omega)⟩
/-- years go by on the row -/
theorem r_grow {x : Nat → Int32} {S O T K Y Z : Nat → Nat} {p n fb t : Nat} (hn : n ≤ 10) (hp : p ≤ 5) (hx : xv x S O T K Y Z p n fb) : ∃ x', f_M_worksIn_L6 (iI t) fu (0 : Int32) x = some x' ∧ xv x' S O T K (fun k => Y k + t) Z p n fb ∧ x' 57 = x 57 := by
  have key := lp (L := fun f j (st : Nat → Int32) => f_M_worksIn_L6 (iI t) f (iI (j : Int)) st) (n := n) (I := fun j st => (∀ k, k < 58 → ¬ (25 ≤ k ∧ k < 25 + j) → st k = x k) ∧ ∀ k, k < j → st (25 + k) = iI ((Y k + t : Nat) : Int)) (Post := fun st => (∀ k, k < 58 → ¬ (25 ≤ k ∧ k < 25 + n) → st k = x k) ∧ ∀ k, k < n → st (25 + k) = iI ((Y k + t : Nat) : Int)) (fun f j st hj hst => ?_) (fun f st hst => ?_) fu 0 x (by omega) (by have := fu_big; omega) ⟨fun k _ _ => rfl, fun j hj => by omega⟩
  · obtain ⟨r, ⟨r1, r2⟩, he⟩ := key
    refine ⟨r, he, ⟨fun q hq => by rw [r1 q (by omega) (by omega)]; exact hx.1 q hq, fun k hk => ?_, by rw [r1 55 (by omega) (by omega)]; exact hx.2.2.1, by rw [r1 56 (by omega) (by omega)]; exact hx.2.2.2⟩, r1 57 (by omega) (by omega)⟩
    obtain ⟨a, b, c, d, f⟩ := hx.2.1 k hk
    exact ⟨by rw [r1 _ (by omega) (by omega)]; exact a, by rw [r1 _ (by omega) (by omega)]; exact b, r2 k hk, by rw [r1 _ (by omega) (by omega)]; exact d, by rw [r1 _ (by omega) (by omega)]; exact f⟩
  · obtain ⟨s1, s2⟩ := hst
    refine Or.inl ⟨upd st (25 + j) (iI ((Y j + t : Nat) : Int)), ⟨fun k hk hk2 => ?_, fun k hk => ?_⟩, ?_⟩
    · rw [upd_n (by omega)]; exact s1 k hk (by omega)
    · by_cases c : k = j
      · subst c; exact upd_s _ _ _
      · rw [upd_n (by omega)]; exact s2 k (by omega)
    · have e1 : st 55 = iI n := by rw [s1 55 (by omega) (by omega)]; exact hx.2.2.1
      have e2 : st (25 + j) = iI (Y j : Nat) := by rw [s1 _ (by omega) (by omega)]; exact (hx.2.1 j hj).2.2.1
      simp only [f_M_worksIn_L6, lt]
      simp (disch := omega) only [ck55, cl55, e1, iI_le, ck25, cl25, e2, iI_add, i_1]
      rw [if_neg (by omega)]
      rfl
  · refine ⟨st, hst, ?_⟩
    have e1 : st 55 = iI n := by rw [hst.1 55 (by omega) (by omega)]; exact hx.2.2.1
    simp only [f_M_worksIn_L6]
    simp (disch := omega) only [ck55, cl55, e1, iI_le]
    rw [if_pos (by omega)]
theorem r_worksIn {v x : Nat → Int32} {S O T K Y Z : Nat → Nat} {p n fb ns sl t : Nat} (hv : xv v S O T K Y Z p n fb) (ho : nok S O T K Y Z p n fb ns sl) : ∃ x', f_M_worksIn (iI t) v x = some x' ∧ xv x' S O T K (fun k => Y k + t) Z p n fb ∧ x' 57 = v 57 := by
  obtain ⟨x1, e1, h1, g1⟩ := r_worksX (x := x) hv ho
  obtain ⟨x2, e2, h2, g2⟩ := r_grow (t := t) ho.1.2.1 ho.1.1 h1
  refine ⟨x2, ?_, h2, by rw [g2, g1]⟩
  unfold f_M_worksIn
  rw [e1]
  simp only [bd]
  rw [e2]
theorem xok_grow {S O T K Y Z : Nat → Nat} {p n fb ns sl t : Nat} (ho : nok S O T K Y Z p n fb ns sl) (ht : t < 1000) : xok S O T K (fun k => Y k + t) Z p n fb ns := by
  obtain ⟨⟨p5, n10, ns10, f1, s1, b⟩, ho2, hzy, hsl, hp0⟩ := ho
  refine ⟨p5, n10, ns10, f1, s1, fun k hk => ?_⟩
  have h1 := b k hk
  have h2 := hzy k hk
  exact ⟨h1.1, h1.2.1, h1.2.2.1, h1.2.2.2.1, by show Y k + t < 10000; omega, h1.2.2.2.2.2⟩
theorem H0_grow {S O T K Y Z : Nat → Nat} {p n fb ns sl t : Nat} (ho : nok S O T K Y Z p n fb ns sl) : ∀ k, k < n → H0 K (fun k => Y k + t) Z k = hnd K Y Z k t := by
  intro k hk
  have h2 := ho.2.2.1 k hk
  unfold H0 hnd
  show (if K k = 2 then 1 else (Y k + t - Z k) + 0) = _
  split
  · rfl
  · omega
theorem r_matchB {x sp : Nat → Int32} {S O T K Y Z : Nat → Nat} {p n fb ns sl : Nat} (hx : xv x S O T K Y Z p n fb) (ho : xok S O T K Y Z p n fb ns) (hs : sl < 10) :
    ∃ sp', f_M_matching x sp (iI (ns : Nat)) (iI (sl : Nat)) = some (iI ((2 * pc10 (BS S O T K (H0 K Y Z) sl fb n).1 : Nat) : Int), iI ((BS S O T K (H0 K Y Z) sl fb n).1 : Nat), iI ((BS S O T K (H0 K Y Z) sl fb n).2 : Nat), iI (((lmS S O T K (H0 K Y Z) sl n).length + 1 : Nat) : Int), sp') := by
  obtain ⟨sp', e⟩ := r_matching (sp := sp) hx ho hs
  refine ⟨sp', ?_⟩
  rw [e, Nat.add_comm 1]
  rfl
theorem r_fedIn {v x sp : Nat → Int32} {S O T K Y Z : Nat → Nat} {p n fb ns sl t : Nat} (hv : xv v S O T K Y Z p n fb) (ho : nok S O T K Y Z p n fb ns sl) (ht : t < 1000) :
    ∃ x' R, f_M_worksIn (iI t) v x = some x' ∧ f_M_matching x' sp (iI (ns : Nat)) (iI (sl : Nat)) = some R ∧ R.1 = iI ((2 * pc10 (BS S O T K (fun k => hnd K Y Z k t) sl fb n).1 : Nat) : Int) := by
  obtain ⟨x', e1, h1, -⟩ := r_worksIn (x := x) (t := t) hv ho
  obtain ⟨sp', e2⟩ := r_matchB (sp := sp) h1 (xok_grow ho ht) (show sl < 10 by have := ho.2.2.2.1; omega)
  rw [BS_congr (H0_grow ho)] at e2
  exact ⟨x', _, e1, e2, rfl⟩
