/-! the best match of a scene, as the class finds it -/
theorem mlB_mem {can : Nat → Bool} {dj : Nat → Nat → Bool} {h : Nat} : ∀ l b, b ∈ mlB can dj h l ↔ ∃ k, k < l ∧ can k = true ∧ dj k h = true ∧ b = 2 ^ h ||| 2 ^ k := by
  intro l
  induction l with
  | zero => intro b; simp [mlB]
  | succ l ih =>
    intro b
    rw [mlB, List.mem_append, ih b]
    constructor
    · rintro (⟨k, h1, h2⟩ | h1)
      · exact ⟨k, by omega, h2⟩
      · by_cases c : (can l && dj l h) = true
        · rw [if_pos c] at h1
          simp at h1
          rw [Bool.and_eq_true] at c
          exact ⟨l, by omega, c.1, c.2, h1⟩
        · rw [if_neg c] at h1; simp at h1
    · rintro ⟨k, h1, h2, h3, h4⟩
      by_cases c : k = l
      · subst c
        right
        rw [if_pos (by rw [h2, h3]; rfl)]
        simp [h4]
      · exact Or.inl ⟨k, by omega, h2, h3, h4⟩
/-- what is in the list: nothing, a pair, two pairs that share nobody -/
theorem ml_mem {can : Nat → Bool} {dj : Nat → Nat → Bool} : ∀ n b, b ∈ ml can dj n ↔ b = 0 ∨ (∃ h, h < n ∧ can h = true ∧ b = 2 ^ h) ∨ ∃ h k, k < h ∧ h < n ∧ can h = true ∧ can k = true ∧ dj k h = true ∧ b = 2 ^ h ||| 2 ^ k := by
  intro n
  induction n with
  | zero => intro b; simp [ml]
  | succ n ih =>
    intro b
    rw [ml, List.mem_append, ih b]
    constructor
    · rintro ((h1 | ⟨h, h1, h2⟩ | ⟨h, k, h1, h2, h3⟩) | h1)
      · exact Or.inl h1
      · exact Or.inr (Or.inl ⟨h, by omega, h2⟩)
      · exact Or.inr (Or.inr ⟨h, k, h1, by omega, h3⟩)
      · by_cases c : can n = true
        · rw [if_pos c, List.mem_cons, mlB_mem] at h1
          rcases h1 with h1 | ⟨k, h2, h3, h4, h5⟩
          · exact Or.inr (Or.inl ⟨n, by omega, c, h1⟩)
          · exact Or.inr (Or.inr ⟨n, k, h2, by omega, c, h3, h4, h5⟩)
        · rw [if_neg c] at h1; simp at h1
    · rintro (h1 | ⟨h, h1, h2, h3⟩ | ⟨h, k, h1, h2, h3, h4, h5, h6⟩)
      · exact Or.inl (Or.inl h1)
      · by_cases c : h = n
        · subst c; right; rw [if_pos h2]; simp [h3]
        · exact Or.inl (Or.inr (Or.inl ⟨h, by omega, h2, h3⟩))
      · by_cases c : h = n
        · subst c; right; rw [if_pos h3, List.mem_cons, mlB_mem]; exact Or.inr ⟨k, h1, h4, h5, h6⟩
        · exact Or.inl (Or.inr (Or.inr ⟨h, k, h1, by omega, h3, h4, h5, h6⟩))
theorem ml_lt {can : Nat → Bool} {dj : Nat → Nat → Bool} {n b : Nat} (h : b ∈ ml can dj n) : b < 2 ^ n := by
  rcases (ml_mem n b).mp h with h | ⟨h, h1, -, h2⟩ | ⟨h, k, h1, h2, -, -, -, h3⟩
  · rw [h]; exact Nat.two_pow_pos n
  · rw [h2]; exact Nat.pow_lt_pow_right (by omega) h1
  · rw [h3]
    exact Nat.or_lt_two_pow (Nat.pow_lt_pow_right (by omega) h2) (Nat.pow_lt_pow_right (by omega) (by omega))
def stp (SL : Nat → Nat) (st : Nat × Nat × Nat) (b : Nat) : Nat × Nat × Nat :=
  if pc10 b < st.1 then st else if st.1 < pc10 b ∨ sumN b SL 10 < st.2.2 then (pc10 b, b, sumN b SL 10) else st
/-- most, bits, slops -/
def bst (SL : Nat → Nat) (l : List Nat) : Nat × Nat × Nat := l.foldl (stp SL) (0, 0, 0)
theorem tb_lt {x n k : Nat} (hx : x < 2 ^ n) (h : x.testBit k = true) : k < n := by
  rcases Nat.lt_or_ge k n with q | q
  · exact q
  · have := Nat.testBit_lt_two_pow (x := x) (i := k) (Nat.lt_of_lt_of_le hx (Nat.pow_le_pow_right (n := 2) (by decide) q))
    rw [this] at h; cases h
theorem two10 {n : Nat} (h : n ≤ 10) : 2 ^ n ≤ 1024 := Nat.pow_le_pow_right (n := 2) (j := 10) (by decide) h
theorem q_settleL {sp bi : Nat → Int32} {SL : Nat → Nat} {n : Nat} {l : List Nat} (hn : n ≤ 10) (h1 : ar sp n SL) (b1 : ∀ k, k < n → SL k < 1000) (h2 : arL bi l) (hl : l.length ≤ 26) (b2 : ∀ b ∈ l, b < 2 ^ n) :
    f_Scene_settle_L40 sp bi (iI (l.length : Nat)) fu (0 : Int32) (0 : Int32) (0 : Int32) (0 : Int32) = some (iI ((bst SL l).2.1 : Nat), iI ((bst SL l).2.2 : Nat)) := by
  have bsum : ∀ b, b < 2 ^ n → sumN b SL 10 ≤ 10 * 1000 := fun b hb => sumN_le (fun k hk => by have := b1 k (tb_lt hb hk); omega) 10
  have inv : ∀ j, j ≤ l.length → ((l.take j).foldl (stp SL) (0, 0, 0)).1 ≤ 10 ∧ ((l.take j).foldl (stp SL) (0, 0, 0)).2.1 < 1024 ∧ ((l.take j).foldl (stp SL) (0, 0, 0)).2.2 ≤ 10000 := by
    intro j
    induction j with
    | zero => intro _; simp
    | succ j ih =>
      intro hj
      obtain ⟨i1, i2, i3⟩ := ih (by omega)
      obtain ⟨b, hb⟩ : ∃ b, l[j]? = some b := ⟨l[j], by simp⟩
      have hm : b ∈ l := List.mem_of_getElem? hb
      have hlt := Nat.lt_of_lt_of_le (b2 b hm) (two10 hn)
      rw [List.take_succ, hb, List.foldl_append]
      generalize (l.take j).foldl (stp SL) (0, 0, 0) = st at *
      show (stp SL st b).1 ≤ 10 ∧ (stp SL st b).2.1 < 1024 ∧ (stp SL st b).2.2 ≤ 10000
      unfold stp
      split
      · exact ⟨i1, i2, i3⟩
      · split
        · exact ⟨pc10_le b hlt, hlt, bsum b (b2 b hm)⟩
        · exact ⟨i1, i2, i3⟩
  have key := lp (L := fun f j (st : Int32 × Int32 × Int32) => f_Scene_settle_L40 sp bi (iI (l.length : Nat)) f st.1 (iI (j : Int)) st.2.1 st.2.2) (n := l.length) (I := fun j st => st = (iI (((l.take j).foldl (stp SL) (0, 0, 0)).1 : Nat), iI (((l.take j).foldl (stp SL) (0, 0, 0)).2.1 : Nat), iI (((l.take j).foldl (stp SL) (0, 0, 0)).2.2 : Nat))) (Post := fun r => r = (iI ((bst SL l).2.1 : Nat), iI ((bst SL l).2.2 : Nat))) (fun f j st hj hst => ?_) (fun f st hst => ?_) fu 0 (iI (0 : Nat), iI (0 : Nat), iI (0 : Nat)) (by omega) (by have := fu_big; omega) (by simp)
  · obtain ⟨r, hr, he⟩ := key
    subst hr
    exact he
  · subst hst
    obtain ⟨i1, i2, i3⟩ := inv j (by omega)
    obtain ⟨b, hb⟩ : ∃ b, l[j]? = some b := ⟨l[j], by simp⟩
    have hm : b ∈ l := List.mem_of_getElem? hb
    have hb2 := b2 b hm
    have hlt := Nat.lt_of_lt_of_le hb2 (two10 hn)
    have hs := bsum b hb2
    have hp := pc10_le b hlt
    refine Or.inl ⟨_, rfl, ?_⟩
    rw [List.take_succ, hb, List.foldl_append]
    show _ = f_Scene_settle_L40 sp bi _ f (iI ((stp SL _ b).1 : Nat)) _ (iI ((stp SL _ b).2.1 : Nat)) (iI ((stp SL _ b).2.2 : Nat))
    generalize (l.take j).foldl (stp SL) (0, 0, 0) = st at *
    obtain ⟨mo, bb, bs⟩ := st
    simp only at i1 i2 i3
    simp only [f_Scene_settle_L40, lt]
    simp (disch := omega) only [iI_le, iI_ck, iI_cl, h2 j b hb]
    rw [if_neg (by omega), q_bitCount_d b hlt]
    simp only [bd]
    rw [q_sumOf hlt (fun k _ hk => ⟨h1 k (tb_lt hb2 hk), by have := b1 k (tb_lt hb2 hk); omega⟩)]
    simp (disch := omega) only [iI_le, iI_lt, iI_eq, i_1, iI_add]
    unfold stp
    by_cases c1 : pc10 b < mo
    · have e1 : ¬ (mo : Int) ≤ (pc10 b : Nat) := by omega
      have e2 : ¬ (mo : Int) < (pc10 b : Nat) := by omega
      have e3 : ¬ ((pc10 b : Nat) : Int) = mo := by omega
      simp [c1, e1, e2, e3]
    · have e1 : (mo : Int) ≤ (pc10 b : Nat) := by omega
      by_cases c2 : mo < pc10 b
      · have e2 : (mo : Int) < (pc10 b : Nat) := by omega
        simp [c1, c2, e1, e2]
      · have e2 : ¬ (mo : Int) < (pc10 b : Nat) := by omega
        have e3 : ((pc10 b : Nat) : Int) = mo := by omega
        by_cases c3 : sumN b SL 10 < bs
        · have e4 : ¬ iI (bs : Nat) ≤ iI (sumN b SL 10 : Nat) := by rw [iI_le] <;> omega
          simp [c1, c2, c3, e1, e2, e3, e4]
        · have e4 : iI (bs : Nat) ≤ iI (sumN b SL 10 : Nat) := by rw [iI_le] <;> omega
          simp [c1, c2, c3, e1, e2, e3, e4]
  · subst hst
    refine ⟨_, rfl, ?_⟩
    simp only [f_Scene_settle_L40]
    simp (disch := omega) only [iI_le]
    rw [if_pos (by omega), List.take_length]
    rfl
/-- a scene's best match, its bits and slops, by seats, handles, forks -/
def mlS (S O T K H : Nat → Nat) (sl n : Nat) : List Nat := ml (fun k => (bitsN (canP S O T K H sl) n).testBit k) (djP (bothP O T)) n
theorem q_settle {on ot ki so hd bo sp bi : Nat → Int32} {S O T K H : Nat → Nat} {n p sl fb : Nat} (hn : n ≤ 10) (hp : p ≤ 5) (h0 : ar so p S) (h1 : ar on n O) (h2 : ar ot n T) (h3 : ar ki n K) (h4 : ar hd n H) (bb : ∀ k, k < n → O k < p ∧ T k < p ∧ K k < 3 ∧ H k < 100000) (bs : ∀ q, q < p → S q < 10) (hs : sl < 10) (hf : fb < 1024) (hl : (mlS S O T K H sl n).length ≤ 26) :
    ∃ bo' sp' bi', f_Scene_settle (iI sl) on ot ki (iI n) so hd bo sp (iI fb) bi = some (bo', sp', iI ((bitsN (canP S O T K H sl) n : Nat) : Int), iI ((bst (slopP S O T fb) (mlS S O T K H sl n)).2.1 : Nat), iI ((bst (slopP S O T fb) (mlS S O T K H sl n)).2.2 : Nat), bi', iI ((mlS S O T K H sl n).length : Nat)) ∧ ar bo' n (bothP O T) ∧ ar sp' n (slopP S O T fb) ∧ arL bi' (mlS S O T K H sl n) := by
  obtain ⟨bo', sp', e1, a1, a2⟩ := q_weigh (bo := bo) (sp := sp) hn hp h0 h1 h2 h3 h4 bb bs hs hf
  have bB : ∀ k, k < n → bothP O T k < 1024 := fun k hk => by
    have := bb k hk
    unfold bothP
    exact Nat.lt_of_lt_of_le (Nat.or_lt_two_pow (Nat.pow_lt_pow_right (by omega) (show O k < 10 by omega)) (Nat.pow_lt_pow_right (by omega) (show T k < 10 by omega))) (by decide)
  obtain ⟨bi', e2, a3⟩ := q_fill (bi := bi) hn (bitsN_1024 (canP S O T K H sl) hn) a1 bB hl
  have e3 := q_settleL (l := mlS S O T K H sl n) hn a2 (fun k hk => by
    have := bb k hk
    have d1 := dst_lt (bs _ this.1) (bs _ this.2.1)
    unfold slopP slp
    omega) a3 hl (fun b hb => ml_lt hb)
  refine ⟨bo', sp', bi', ?_, a1, a2, a3⟩
  unfold f_Scene_settle
  rw [e1]
  simp only [bd]
  rw [e2]
  simp only
  have e3' := e3
  unfold mlS at e3'
  rw [e3']
  rfl
