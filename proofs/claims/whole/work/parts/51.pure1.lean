/-! bits -/
def pc10 (x : Nat) : Nat := (List.range 10).foldl (fun n i => if x.testBit i then n + 1 else n) 0
theorem q_bitCount_d : ∀ x : Nat, x < 1024 → f_JInt_bitCount (iI (x : Int)) = some (iI ((pc10 x : Nat) : Int)) := by decide +kernel
theorem iI_and (a b : Nat) : iI a &&& iI b = iI ((a &&& b : Nat) : Int) := by
  rw [← iI_nI, ← iI_nI, ← iI_nI]
  apply Int32.toBitVec_inj.mp
  simp [nI, Int32.toBitVec_and, Int32.toBitVec_ofNat, BitVec.ofNat_and]
theorem iI_or (a b : Nat) : iI a ||| iI b = iI ((a ||| b : Nat) : Int) := by
  rw [← iI_nI, ← iI_nI, ← iI_nI]
  apply Int32.toBitVec_inj.mp
  simp [nI, Int32.toBitVec_or, Int32.toBitVec_ofNat, BitVec.ofNat_or]
theorem iI_shl1 {n : Nat} (h : n < 31) : (1 : Int32) <<< (iI n &&& 31) = iI ((2 ^ n : Nat) : Int) := by
  have : ∀ n : Nat, n < 31 → (1 : Int32) <<< (iI (n : Int) &&& 31) = iI ((2 ^ n : Nat) : Int) := by decide +kernel
  exact this n h
theorem iI_shr {x n : Nat} (hx : x < 2147483648) (hn : n < 32) : iI x >>> (iI n &&& 31) = iI ((x / 2 ^ n : Nat) : Int) := by
  have hs : ∀ n : Nat, n < 32 → ((iI (n : Int) &&& 31).toBitVec.smod 32).toNat = n := by decide +kernel
  rw [← iI_nI x, ← iI_nI (x / 2 ^ n)]
  exact pk_shrN (by omega) _ n (hs n hn)
theorem q_has {x n : Nat} (hx : x < 2147483648) (hn : n < 32) : f_X_has (iI x) (iI n) = some (b01 (x.testBit n)) := by
  unfold f_X_has b01
  rw [iI_shr hx hn, i_1, show (1 : Int) = ((1 : Nat) : Int) from rfl, iI_and]
  have e : x / 2 ^ n &&& 1 = (x.testBit n).toNat := by
    rw [Nat.testBit_eq_decide_div_mod_eq, Nat.and_one_is_mod]
    have h2 : x / 2 ^ n % 2 = 0 ∨ x / 2 ^ n % 2 = 1 := by omega
    rcases h2 with h2 | h2 <;> simp [h2]
  rw [e]
  cases x.testBit n <;> simp <;> decide
/-! between two seats -/
def msk (a b : Nat) : Nat := (List.range 10).foldl (fun n s => if (a < s && s < b) || (b < s && s < a) then n + 2 ^ s else n) 0
def frk (fb a b : Nat) : Nat := pc10 (fb &&& msk a b)
def slp (fb a b : Nat) : Nat := dst a b - 3 * frk fb a b
theorem q_forksBetween {a b fb : Nat} (ha : a < 10) (hb : b < 10) (hf : fb < 1024) : f_X_forksBetween (iI a) (iI b) (iI fb) = some (iI ((frk fb a b : Nat) : Int)) := by
  have key : ∀ a : Nat, a < 10 → ∀ b : Nat, b < 10 → (((1 : Int32) <<< ((if iI (a : Int) < iI (b : Int) then iI (b : Int) else iI (a : Int)) &&& 31)) - (1 : Int32)) &&& ((((2 : Int32) <<< ((if iI (b : Int) < iI (a : Int) then iI (b : Int) else iI (a : Int)) &&& 31)) - (1 : Int32)) ^^^ (-1 : Int32)) = iI ((msk a b : Nat) : Int) := by decide +kernel
  simp only [f_X_forksBetween, lt]
  rw [Int32.and_assoc, key a ha b hb, iI_and]
  have hm : fb &&& msk a b < 1024 := Nat.lt_of_le_of_lt Nat.and_le_left hf
  rw [q_bitCount_d _ hm]
  rfl
theorem msk_lt : ∀ a : Nat, a < 10 → ∀ b : Nat, b < 10 → msk a b < 1024 ∧ msk a b = msk b a := by decide +kernel
theorem pc10_le : ∀ x : Nat, x < 1024 → pc10 x ≤ 10 := by decide +kernel
theorem frk_le {a b fb : Nat} (hf : fb < 1024) : frk fb a b ≤ 10 := pc10_le _ (Nat.lt_of_le_of_lt Nat.and_le_left hf)
theorem iI_abs {a b : Nat} (ha : a < 100000) (hb : b < 100000) : (if (0 : Int32) ≤ iI a - iI b then iI a - iI b else 0 - (iI a - iI b)) = iI ((dst a b : Nat) : Int) := by
  unfold dst
  simp (disch := omega) only [i_0, iI_sub, iI_le]
  by_cases h : a ≤ b
  · rw [if_pos h]
    by_cases h2 : (0 : Int) ≤ (a : Int) - b
    · rw [if_pos h2]; congr 1; omega
    · rw [if_neg h2]; congr 1; omega
  · rw [if_neg h, if_pos (by omega)]; congr 1; omega
theorem q_slopped {a b fb : Nat} (ha : a < 10) (hb : b < 10) (hf : fb < 1024) : f_X_slopped (iI a) (iI b) (iI fb) = some (iI ((slp fb a b : Nat) : Int)) := by
  unfold f_X_slopped
  rw [q_forksBetween ha hb hf, iI_abs (by omega) (by omega)]
  have h1 : frk fb a b ≤ 10 := frk_le hf
  have h2 : dst a b < 10 := by unfold dst; split <;> omega
  unfold slp
  generalize frk fb a b = f at *
  generalize dst a b = d at *
  show some _ = some _
  simp (disch := omega) only [i_0, i_3, iI_mul, iI_sub, iI_lt]
  congr 1
  by_cases h : (0 : Int) < (d : Int) - 3 * f
  · rw [if_pos h]; congr 1; omega
  · rw [if_neg h]; congr 1; omega
/-! the pairs as they stand: O, T the two, K the kind, Y the years, Z the inches sawn -/
def hnd (K Y Z : Nat → Nat) (k t : Nat) : Nat := if K k = 2 then 1 else (Y k - Z k) + t
/-- an array of the class holds these numbers at its first n places -/
def ar (f : Nat → Int32) (n : Nat) (g : Nat → Nat) : Prop := ∀ j, j < n → f j = iI (g j)
theorem q_handleBehind {ki ye sa : Nat → Int32} {K Y Z : Nat → Nat} {k t n : Nat} (hn : n ≤ 10) (hk : k < n) (h1 : ar ki n K) (h2 : ar ye n Y) (h3 : ar sa n Z) (b1 : K k < 3) (b2 : Y k < 100000) (b3 : Z k < 100000) (ht : t < 100000) :
    f_Now_handleBehind (iI k) (iI t) ki ye sa = some (iI ((hnd K Y Z k t : Nat) : Int)) := by
  unfold f_Now_handleBehind hnd
  simp (disch := omega) only [iI_ck, iI_cl, h1 k hk, h2 k hk, h3 k hk, i_2, iI_eq, i_0, i_1, iI_sub, iI_lt]
  by_cases c : K k = 2
  · rw [if_pos (by omega), if_pos c]; rfl
  · rw [if_neg (by omega), if_neg c]
    by_cases c2 : (0 : Int) < (Y k : Int) - Z k
    · rw [if_pos c2, iI_add]; congr 2; omega
    · rw [if_neg c2, iI_add]; congr 2; omega
theorem q_handle {ki ye sa : Nat → Int32} {K Y Z : Nat → Nat} {k n : Nat} (hn : n ≤ 10) (hk : k < n) (h1 : ar ki n K) (h2 : ar ye n Y) (h3 : ar sa n Z) (b1 : K k < 3) (b2 : Y k < 100000) (b3 : Z k < 100000) :
    f_Now_handle (iI k) ki ye sa = some (iI ((hnd K Y Z k 0 : Nat) : Int)) := by
  have h := q_handleBehind (t := 0) hn hk h1 h2 h3 b1 b2 b3 (by omega)
  unfold f_Now_handle
  rw [show (0 : Int32) = iI ((0 : Nat) : Int) from rfl, h]
  rfl
theorem q_far {so on ot : Nat → Int32} {S O T : Nat → Nat} {k n p : Nat} (hn : n ≤ 10) (hp : p ≤ 5) (hk : k < n) (h0 : ar so p S) (h1 : ar on n O) (h2 : ar ot n T) (b1 : O k < p) (b2 : T k < p) (s1 : S (O k) < 10) (s2 : S (T k) < 10) :
    f_Now_far (iI k) so on ot = some (iI ((dst (S (O k)) (S (T k)) : Nat) : Int)) := by
  unfold f_Now_far
  simp (disch := omega) only [iI_ck, iI_cl, h1 k hk, h2 k hk, h0 _ b1, h0 _ b2]
  rw [iI_abs (by omega) (by omega)]
theorem q_partner {on ot : Nat → Int32} {O T : Nat → Nat} {k n p : Nat} (hn : n ≤ 10) (hk : k < n) (h1 : ar on n O) (h2 : ar ot n T) (b1 : O k < 5) (b2 : T k < 5) (hp : p < 5) :
    f_Now_partner (iI k) (iI p) on ot = some (if O k = p then iI (T k) else if T k = p then iI (O k) else iI (-2)) := by
  unfold f_Now_partner
  simp (disch := omega) only [iI_ck, iI_cl, h1 k hk, h2 k hk, iI_eq]
  by_cases c : O k = p
  · rw [if_pos (by omega), if_pos c]
  · rw [if_neg (by omega), if_neg c]
    by_cases c2 : T k = p
    · rw [if_pos (by omega), if_pos c2]
    · rw [if_neg (by omega), if_neg c2]; rfl
theorem q_both {on ot : Nat → Int32} {O T : Nat → Nat} {k n : Nat} (hn : n ≤ 10) (hk : k < n) (h1 : ar on n O) (h2 : ar ot n T) (b1 : O k < 5) (b2 : T k < 5) :
    f_Now_both (iI k) on ot = some (iI ((2 ^ O k ||| 2 ^ T k : Nat) : Int)) := by
  unfold f_Now_both
  simp (disch := omega) only [iI_ck, iI_cl, h1 k hk, h2 k hk]
  rw [iI_shl1 (by omega), iI_shl1 (by omega), iI_or]
/-- pair k is of p and q -/
def isP (O T : Nat → Nat) (p q k : Nat) : Bool := (O k == p && T k == q) || (O k == q && T k == p)
/-- the first k below n, from j on -/
def fst (P : Nat → Bool) (n : Nat) : Nat → Nat → Option Nat
  | 0, _ => none
  | f + 1, j => if j < n then (if P j then some j else fst P n f (j + 1)) else none
def fst0 (P : Nat → Bool) (n : Nat) : Option Nat := fst P n (n + 1) 0
def on2 (o : Option Nat) : Int := match o with
  | some k => k
  | none => -2
theorem q_find_L {on ot : Nat → Int32} {O T : Nat → Nat} {n p q : Nat} (hn : n ≤ 10) (h1 : ar on n O) (h2 : ar ot n T) (b : ∀ k, k < n → O k < 5 ∧ T k < 5) (hp : p < 5) (hq : q < 5) (hpq : p ≠ q) :
    ∀ (f j g : Nat), j ≤ n → n - j < f → n - j < g → f_Now_find_L2 (iI p) (iI q) on ot (iI n) f (iI j) = some (match fst (isP O T p q) n g j with | some k => .inl (iI k) | none => .inr ()) := by
  intro f
  induction f with
  | zero => intro j g hj h; omega
  | succ f ih =>
    intro j g hj hf hg
    obtain ⟨g', rfl⟩ : ∃ g', g = g' + 1 := ⟨g - 1, by omega⟩
    rw [f_Now_find_L2, fst]
    simp (disch := omega) only [iI_le, iI_eq]
    by_cases c : n ≤ j
    · rw [if_pos (by omega), if_neg (by omega)]
    · have hjn : j < n := by omega
      rw [if_neg (by omega), if_pos hjn, if_neg (by omega), q_partner hn hjn h1 h2 (b j hjn).1 (b j hjn).2 hp]
      have b1 := (b j hjn).1
      have b2 := (b j hjn).2
      have next : f_Now_find_L2 (iI p) (iI q) on ot (iI n) f (iI j + 1) = some (match fst (isP O T p q) n g' (j + 1) with | some k => .inl (iI k) | none => .inr ()) := by
        rw [i_1, iI_add]
        exact ih (j + 1) g' (by omega) (by omega) (by omega)
      have go : ∀ z : Int32, bd (bd (some z) (fun x4 => if x4 = iI q then some false else some true) : Option Bool) (fun b1 => if b1 = true then lt (iI j + (1 : Int32) : Int32) (fun x2 => f_Now_find_L2 (iI p) (iI q) on ot (iI n) f x2) else some (.inl (iI j))) = if z = iI q then some (.inl (iI j)) else f_Now_find_L2 (iI p) (iI q) on ot (iI n) f (iI j + 1) := by
        intro z
        by_cases hz : z = iI q <;> simp [bd, lt, hz]
      rw [go, next]
      unfold isP
      by_cases c1 : O j = p
      · rw [if_pos c1]
        by_cases c2 : T j = q
        · rw [if_pos (by rw [c2])]; simp [c1, c2]
        · rw [if_neg (by rw [iI_eq] <;> omega)]
          have c3 : ¬ O j = q := by omega
          simp [c1, c2, c3, hpq]
      · rw [if_neg c1]
        by_cases c2 : T j = p
        · rw [if_pos c2]
          by_cases c3 : O j = q
          · rw [if_pos (by rw [c3])]; simp [c2, c3]
          · rw [if_neg (by rw [iI_eq] <;> omega)]; simp [c1, c2, c3]
        · rw [if_neg c2, if_neg (by rw [iI_eq] <;> omega)]; simp [c1, c2]
theorem q_find {on ot : Nat → Int32} {O T : Nat → Nat} {n p q : Nat} (hn : n ≤ 10) (h1 : ar on n O) (h2 : ar ot n T) (b : ∀ k, k < n → O k < 5 ∧ T k < 5) (hp : p < 5) (hq : q < 5) (hpq : p ≠ q) :
    f_Now_find (iI p) (iI q) on ot (iI n) = some (iI (on2 (fst0 (isP O T p q) n))) := by
  unfold f_Now_find
  rw [show (0 : Int32) = iI ((0 : Nat) : Int) from rfl, q_find_L hn h1 h2 b hp hq hpq fu 0 (n + 1) (by omega) (by have := fu_big; omega) (by omega)]
  unfold fst0
  cases fst (isP O T p q) n (n + 1) 0 <;> rfl
