/-! what a scene is: who can feed, how much is slopped -/
def bitsN (P : Nat → Bool) : Nat → Nat
  | 0 => 0
  | n + 1 => bitsN P n ||| (if P n then 2 ^ n else 0)
theorem bitsN_lt (P : Nat → Bool) : ∀ n, bitsN P n < 2 ^ n := by
  intro n
  induction n with
  | zero => simp [bitsN]
  | succ n ih =>
    rw [bitsN]
    apply Nat.or_lt_two_pow
    · exact Nat.lt_trans ih (Nat.pow_lt_pow_right (by omega) (by omega))
    · split
      · exact Nat.pow_lt_pow_right (by omega) (by omega)
      · exact Nat.two_pow_pos _
theorem bitsN_tb (P : Nat → Bool) : ∀ n k, (bitsN P n).testBit k = (decide (k < n) && P k) := by
  intro n
  induction n with
  | zero => intro k; simp [bitsN]
  | succ n ih =>
    intro k
    rw [bitsN, Nat.testBit_or, ih k]
    by_cases h : k = n
    · subst h
      cases hP : P k <;> simp
    · have h2 : (if P n = true then 2 ^ n else 0 : Nat).testBit k = false := by
        split
        · rw [Nat.testBit_two_pow]; simp; omega
        · simp
      rw [h2]
      by_cases c : k < n
      · simp [c, show k < n + 1 by omega]
      · simp [c, show ¬ k < n + 1 by omega]
theorem bitsN_1024 (P : Nat → Bool) {n : Nat} (h : n ≤ 10) : bitsN P n < 1024 := Nat.lt_of_lt_of_le (bitsN_lt P n) (Nat.pow_le_pow_right (n := 2) (j := 10) (by decide) h)
theorem upd_s (f : Nat → Int32) (k : Nat) (x : Int32) : upd f k x k = x := by simp [upd]
theorem upd_n {f : Nat → Int32} {k j : Nat} {x : Int32} (h : j ≠ k) : upd f k x j = f j := by simp [upd, h]
theorem ar_upd {f : Nat → Int32} {g : Nat → Nat} {n : Nat} (h : ar f n g) : ar (upd f n (iI (g n))) (n + 1) g := by
  intro j hj
  by_cases c : j = n
  · subst c; exact upd_s _ _ _
  · rw [upd_n c]; exact h j (by omega)
theorem b01_0 (b : Bool) : (b01 b = 0) ↔ b = false := by cases b <;> decide
def canP (S O T K H : Nat → Nat) (sl k : Nat) : Bool := rch (K k) (H k) (dst (S (O k)) (S (T k))) sl
def bothP (O T : Nat → Nat) (k : Nat) : Nat := 2 ^ O k ||| 2 ^ T k
def slopP (S O T : Nat → Nat) (fb k : Nat) : Nat := slp fb (S (O k)) (S (T k))
theorem dst_lt {a b : Nat} (ha : a < 10) (hb : b < 10) : dst a b < 10 := by unfold dst; split <;> omega
theorem q_weigh {on ot ki so hd bo sp : Nat → Int32} {S O T K H : Nat → Nat} {n p sl fb : Nat} (hn : n ≤ 10) (hp : p ≤ 5) (h0 : ar so p S) (h1 : ar on n O) (h2 : ar ot n T) (h3 : ar ki n K) (h4 : ar hd n H) (bb : ∀ k, k < n → O k < p ∧ T k < p ∧ K k < 3 ∧ H k < 100000) (bs : ∀ q, q < p → S q < 10) (hs : sl < 10) (hf : fb < 1024) :
    ∃ bo' sp', f_Scene_weigh (iI sl) on ot ki (iI n) so hd bo sp (iI fb) = some (bo', sp', iI ((bitsN (canP S O T K H sl) n : Nat) : Int)) ∧ ar bo' n (bothP O T) ∧ ar sp' n (slopP S O T fb) := by
  have key := lp (L := fun f j (st : (Nat → Int32) × (Nat → Int32) × Int32) => f_Scene_weigh_L7 (iI sl) on ot ki (iI n) so hd (iI fb) f (iI (j : Int)) st.1 st.2.1 st.2.2) (n := n) (I := fun j st => ar st.1 j (bothP O T) ∧ ar st.2.1 j (slopP S O T fb) ∧ st.2.2 = iI ((bitsN (canP S O T K H sl) j : Nat) : Int)) (Post := fun r => ar r.1 n (bothP O T) ∧ ar r.2.1 n (slopP S O T fb) ∧ r.2.2 = iI ((bitsN (canP S O T K H sl) n : Nat) : Int)) (fun f j st hj hst => by
      obtain ⟨a1, a2, a3⟩ := hst
      obtain ⟨c1, c2, c3, c4⟩ := bb j hj
      have s1 := bs _ c1
      have s2 := bs _ c2
      refine Or.inl ⟨(upd st.1 j (iI (bothP O T j)), upd st.2.1 j (iI (slopP S O T fb j)), iI ((bitsN (canP S O T K H sl) (j + 1) : Nat) : Int)), ⟨ar_upd a1, ar_upd a2, rfl⟩, ?_⟩
      simp only [f_Scene_weigh_L7, lt]
      simp (disch := omega) only [iI_le, iI_ck, iI_cl, h1 j hj, h2 j hj, h3 j hj, h4 j hj, h0 _ c1, h0 _ c2]
      rw [if_neg (by omega), q_both hn hj h1 h2 (by omega) (by omega)]
      simp only [bd]
      rw [q_slopped s1 s2 hf]
      simp only [bd]
      rw [iI_abs (by omega) (by omega), q_reaches c3 c4 (Nat.lt_of_lt_of_le (dst_lt s1 s2) (by omega)) (by omega)]
      simp only [bd]
      rw [a3, iI_shl1 (by omega), iI_or, show bitsN (canP S O T K H sl) (j + 1) = bitsN (canP S O T K H sl) j ||| (if canP S O T K H sl j then 2 ^ j else 0) from rfl]
      simp (disch := omega) only [iI_cl, i_1, iI_add]
      cases hc : rch (K j) (H j) (dst (S (O j)) (S (T j))) sl
      · rw [if_pos ((b01_0 _).mpr rfl), show canP S O T K H sl j = false from hc]
        simp [bothP, slopP]
      · rw [if_neg (fun z => by cases (b01_0 _).mp z), show canP S O T K H sl j = true from hc]
        simp [bothP, slopP]) (fun f st hst => by
      refine ⟨(st.1, st.2.1, st.2.2), hst, ?_⟩
      simp only [f_Scene_weigh_L7]
      simp (disch := omega) only [iI_le]
      rw [if_pos (by omega)]) fu 0 (bo, sp, iI 0) (by omega) (by have := fu_big; omega) ⟨fun j hj => by omega, fun j hj => by omega, rfl⟩
  obtain ⟨r, ⟨r1, r2, r3⟩, he⟩ := key
  refine ⟨r.1, r.2.1, ?_, r1, r2⟩
  unfold f_Scene_weigh
  have he2 : f_Scene_weigh_L7 (iI sl) on ot ki (iI n) so hd (iI fb) fu (0 : Int32) bo sp (0 : Int32) = some r := he
  rw [he2, ← r3]
  rfl
