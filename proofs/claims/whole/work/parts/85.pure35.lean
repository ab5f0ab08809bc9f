/-! the fewest inches, as the reference finds them -/
def swI (C : Nat → Option Nat) (dj : Nat → Nat → Bool) (hf k : Nat) : Nat → List (Nat × Nat)
  | 0 => []
  | j + 1 => swI C dj hf k j ++ (if k < j ∧ hf = 2 ∧ dj k j = true then (match C k, C j with | some a, some b => [(a + b, 2 ^ k ||| 2 ^ j)] | _, _ => []) else [])
def swL (C : Nat → Option Nat) (dj : Nat → Nat → Bool) (hf n : Nat) : Nat → List (Nat × Nat)
  | 0 => []
  | k + 1 => swL C dj hf n k ++ (if hf = 1 then (match C k with | some a => [(a, 2 ^ k)] | none => []) else []) ++ swI C dj hf k n
theorem swI_0 {C : Nat → Option Nat} {dj : Nat → Nat → Bool} {hf k : Nat} : ∀ j, j ≤ k + 1 → swI C dj hf k j = [] := by
  intro j
  induction j with
  | zero => intro _; rfl
  | succ j ih => intro h; rw [swI, ih (by omega), if_neg (by omega)]; rfl
theorem swI_mem {C : Nat → Option Nat} {dj : Nat → Nat → Bool} {hf k : Nat} : ∀ m q, q ∈ swI C dj hf k m ↔ ∃ j a b, k < j ∧ j < m ∧ hf = 2 ∧ dj k j = true ∧ C k = some a ∧ C j = some b ∧ q = (a + b, 2 ^ k ||| 2 ^ j) := by
  intro m
  induction m with
  | zero => intro q; simp [swI]
  | succ m ih =>
    intro q
    rw [swI, List.mem_append, ih q]
    constructor
    · rintro (⟨j, a, b, h1, h2, h3⟩ | h)
      · exact ⟨j, a, b, h1, by omega, h3⟩
      · split at h
        · rename_i c
          cases hk : C k with
          | none => rw [hk] at h; simp at h
          | some a =>
            cases hm : C m with
            | none => rw [hk, hm] at h; simp at h
            | some b =>
              rw [hk, hm] at h
              simp at h
              exact ⟨m, a, b, c.1, by omega, c.2.1, c.2.2, rfl, hm, h⟩
        · cases h
    · rintro ⟨j, a, b, h1, h2, h3, h4, h5, h6, h7⟩
      by_cases c : j = m
      · subst c
        right
        rw [if_pos ⟨h1, h3, h4⟩, h5, h6]
        simp [h7]
      · exact Or.inl ⟨j, a, b, h1, by omega, h3, h4, h5, h6, h7⟩
theorem swL_mem {C : Nat → Option Nat} {dj : Nat → Nat → Bool} {hf n : Nat} : ∀ m q, q ∈ swL C dj hf n m ↔ (hf = 1 ∧ ∃ k a, k < m ∧ C k = some a ∧ q = (a, 2 ^ k)) ∨ ∃ k j a b, k < m ∧ k < j ∧ j < n ∧ hf = 2 ∧ dj k j = true ∧ C k = some a ∧ C j = some b ∧ q = (a + b, 2 ^ k ||| 2 ^ j) := by
  intro m
  induction m with
  | zero => intro q; simp [swL]
  | succ m ih =>
    intro q
    rw [swL, List.mem_append, List.mem_append, ih q, swI_mem]
    constructor
    · rintro (((⟨h0, k, a, h1, h2⟩ | ⟨k, j, a, b, h1, h2⟩) | h) | ⟨j, a, b, h1, h2⟩)
      · exact Or.inl ⟨h0, k, a, by omega, h2⟩
      · exact Or.inr ⟨k, j, a, b, by omega, h2⟩
      · split at h
        · rename_i c
          cases hm : C m with
          | none => rw [hm] at h; simp at h
          | some a => rw [hm] at h; simp at h; exact Or.inl ⟨c, m, a, by omega, hm, h⟩
        · cases h
      · exact Or.inr ⟨m, j, a, b, by omega, h1, h2⟩
    · rintro (⟨h0, k, a, h1, h2, h3⟩ | ⟨k, j, a, b, h1, h2, h3⟩)
      · by_cases c : k = m
        · subst c
          left; right
          rw [if_pos h0, h2]
          simp [h3]
        · exact Or.inl (Or.inl (Or.inl ⟨h0, k, a, by omega, h2, h3⟩))
      · by_cases c : k = m
        · subst c; exact Or.inr ⟨j, a, b, h2, h3⟩
        · exact Or.inl (Or.inl (Or.inr ⟨k, j, a, b, by omega, h2, h3⟩))
theorem sum_bits : ∀ b : Nat, b < 1024 → sumN b (fun k => 2 ^ k) 10 = b := by decide +kernel
theorem sw_ch {C : Nat → Option Nat} {B : Nat → Nat} {hf n : Nat} (hn : n ≤ 10) (h1 : hf = 1 ∨ hf = 2) (q : Nat × Nat) : q ∈ swL C (djP B) hf n n ↔ q ∈ chL B C (fun k => 2 ^ k) n hf := by
  unfold chL
  rw [swL_mem, List.mem_map]
  constructor
  · rintro (⟨h0, k, a, h1, h2, h3⟩ | ⟨k, j, a, b, h2, h3, h4, h5, h6, h7, h8, h9⟩)
    · refine ⟨2 ^ k, List.mem_filter.mpr ⟨(ml_mem n _).mpr (Or.inr (Or.inl ⟨k, h1, by rw [bitsN_tb]; simp [h1, h2], rfl⟩)), by rw [pc_one k (by omega), h0]; rfl⟩, ?_⟩
      rw [h3, sum_bits _ (p_lt (by omega)), sumN_two, if_pos (by omega), h2]
      rfl
    · refine ⟨2 ^ k ||| 2 ^ j, List.mem_filter.mpr ⟨(ml_mem n _).mpr (Or.inr (Or.inr ⟨j, k, h3, h4, by rw [bitsN_tb]; simp [h4, h8], by rw [bitsN_tb]; simp [h7]; omega, h6, by rw [Nat.or_comm]⟩)), by rw [Nat.or_comm, pc_two j (by omega) k h3, h5]; rfl⟩, ?_⟩
      rw [h9, sum_bits _ (or_lt (by omega) (by omega)), sumN_or (by omega), sumN_two, sumN_two, if_pos (by omega), if_pos (by omega), h7, h8]
      rfl
  · rintro ⟨b, hb, rfl⟩
    obtain ⟨hb1, hb2⟩ := List.mem_filter.mp hb
    have hb2 : pc10 b = hf := by simpa using hb2
    rcases (ml_mem n b).mp hb1 with e | ⟨h, g1, g2, e⟩ | ⟨h, k, g1, g2, g3, g4, g5, e⟩
    · subst e
      have : pc10 0 = 0 := by decide
      omega
    · rw [bitsN_tb] at g2
      simp only [g1, decide_true, Bool.true_and] at g2
      obtain ⟨a, ha⟩ := Option.isSome_iff_exists.mp g2
      subst e
      rw [pc_one h (by omega)] at hb2
      refine Or.inl ⟨hb2.symm, h, a, g1, ha, ?_⟩
      rw [sum_bits _ (p_lt (by omega)), sumN_two, if_pos (by omega), ha]
      rfl
    · rw [bitsN_tb] at g3 g4
      simp only [g2, show k < n by omega, decide_true, Bool.true_and] at g3 g4
      obtain ⟨a, ha⟩ := Option.isSome_iff_exists.mp g3
      obtain ⟨c, hc⟩ := Option.isSome_iff_exists.mp g4
      subst e
      rw [pc_two h (by omega) k g1] at hb2
      refine Or.inr ⟨k, h, c, a, by omega, g1, g2, hb2.symm, g5, hc, ha, ?_⟩
      rw [Nat.or_comm, sum_bits _ (or_lt (by omega) (by omega)), sumN_or (by omega), sumN_two, sumN_two, if_pos (by omega), if_pos (by omega), ha, hc]
      rfl
theorem ch_0 {C : Nat → Option Nat} {B T : Nat → Nat} {n : Nat} (hn : n ≤ 10) : mnF (chL B C T n 0) = some (0, 0) := by
  have s0 : ∀ (g : Nat → Nat) m, sumN 0 g m = 0 := by
    intro g m
    induction m with
    | zero => rfl
    | succ m ih => rw [sumN, ih]; simp
  have : mnF (chL B C T n 0) = mnF [(0, 0)] := by
    apply mnF_ext
    intro q
    unfold chL
    rw [List.mem_map]
    constructor
    · rintro ⟨b, hb, rfl⟩
      obtain ⟨hb1, hb2⟩ := List.mem_filter.mp hb
      have hb2 : pc10 b = 0 := by simpa using hb2
      rcases (ml_mem n b).mp hb1 with e | ⟨h, g1, g2, e⟩ | ⟨h, k, g1, g2, g3, g4, g5, e⟩
      · subst e; simp [s0]
      · rw [e, pc_one h (by omega)] at hb2; cases hb2
      · rw [e, pc_two h (by omega) k g1] at hb2; cases hb2
    · intro h
      simp at h
      exact ⟨0, List.mem_filter.mpr ⟨(ml_mem n 0).mpr (Or.inl rfl), by decide⟩, by rw [h, s0, s0]⟩
  rw [this]
  rfl
theorem fold_P {P : Nat × Nat → Prop} : ∀ (l : List (Nat × Nat)) (o : Option (Nat × Nat)), (∀ q ∈ l, P q) → (∀ q, o = some q → P q) → ∀ q, l.foldl chF o = some q → P q := by
  intro l
  induction l with
  | nil => intro o _ h q hq; exact h q hq
  | cons a l ih =>
    intro o h1 h2 q hq
    refine ih (chF o a) (fun q hq => h1 q (List.mem_cons_of_mem _ hq)) (fun r hr => ?_) q hq
    unfold chF at hr
    cases o with
    | none => cases hr; exact h1 a (by simp)
    | some s =>
      simp only at hr
      split at hr
      · cases hr; exact h1 a (by simp)
      · cases hr; exact h2 _ rfl
section
variable {so on ot ki ye sa v x sp' bo co bi cl : Nat → Int32} {s5 s6 s7 s8 s10 mm ms mc : Int32} {S O T K Y Z : Nat → Nat} {p n fb ns sl k : Nat}
theorem r_sawing (hv : xv v S O T K Y Z p n fb) (ho : nok S O T K Y Z p n fb ns sl) : ∃ x' ls, f_M_sawing v x (iI sl) (iI p) = some (oC (mnF (chL (bothP O T) (inP S O T K (H0 K Y Z) sl) (fun k => 2 ^ k) n (p / 2))), x', sB (mnF (chL (bothP O T) (inP S O T K (H0 K Y Z) sl) (fun k => 2 ^ k) n (p / 2))), ls) ∧ xv x' S O T K Y Z p n fb := by
  have p5 := ho.1.1
  have n10 := ho.1.2.1
  obtain ⟨x', w1, w2, -⟩ := r_worksX (x := x) hv ho
  have hCb : ∀ k c, k < n → inP S O T K (H0 K Y Z) sl k = some c → c < 6000 := fun k c hk h => inP_lt ho hk h
  have hin : ∀ k, k < n → f_M_inchesOf (iI k) x' (iI sl) = some (fO (inP S O T K (H0 K Y Z) sl k)) := fun k hk => r_inches w2 ho hk
  generalize inP S O T K (H0 K Y Z) sl = C at *
  have hhf : p / 2 = 0 ∨ p / 2 = 1 ∨ p / 2 = 2 := by omega
  generalize hp2 : p / 2 = hf at *
  generalize hdj : djP (bothP O T) = dj
  generalize ho0 : (if hf = 0 then some (0, 0) else none : Option (Nat × Nat)) = o0
  have hPI : ∀ k j, k < n → j ≤ n → ∀ q ∈ swI C dj hf k j, q.1 < 99999 ∧ q.2 < 1024 := by
    intro k j hk hj q hq
    obtain ⟨i, a, b, h1, h2, -, -, h5, h6, e⟩ := (swI_mem j q).mp hq
    have := hCb k a hk h5
    have := hCb i b (by omega) h6
    rw [e]
    exact ⟨by show a + b < 99999; omega, or_lt (by omega) (by omega)⟩
  have hPL : ∀ k, k ≤ n → ∀ q ∈ swL C dj hf n k, q.1 < 99999 ∧ q.2 < 1024 := by
    intro m hm q hq
    rcases (swL_mem m q).mp hq with ⟨-, k, a, h1, h2, e⟩ | ⟨k, j, a, b, h1, h2, h3, -, -, h5, h6, e⟩
    · have := hCb k a (by omega) h2
      rw [e]
      exact ⟨by show a < 99999; omega, p_lt (by omega)⟩
    · have := hCb k a (by omega) h5
      have := hCb j b (by omega) h6
      rw [e]
      exact ⟨by show a + b < 99999; omega, or_lt (by omega) (by omega)⟩
  have hP0 : ∀ q, o0 = some q → q.1 < 99999 ∧ q.2 < 1024 := by
    intro q hq
    rw [← ho0] at hq
    split at hq
    · cases hq; exact ⟨by decide, by decide⟩
    · cases hq
  have inner : ∀ k, k < n → ∀ A : List (Nat × Nat), (∀ q ∈ A, q.1 < 99999 ∧ q.2 < 1024) → f_M_sawing_L67 (iI hf) (iI k) x' (iI sl) fu (iI ((k + 1 : Nat) : Int)) (sB (A.foldl chF o0)) (lsN (A.foldl chF o0)) = some (sB ((A ++ swI C dj hf k n).foldl chF o0), lsN ((A ++ swI C dj hf k n).foldl chF o0)) := by
    intro k hk A hA
    have key := lp (L := fun f j (st : Int32 × Int32) => f_M_sawing_L67 (iI hf) (iI k) x' (iI sl) f (iI (j : Int)) st.1 st.2) (n := n) (I := fun j st => k + 1 ≤ j ∧ st = (sB ((A ++ swI C dj hf k j).foldl chF o0), lsN ((A ++ swI C dj hf k j).foldl chF o0))) (Post := fun st => st = (sB ((A ++ swI C dj hf k n).foldl chF o0), lsN ((A ++ swI C dj hf k n).foldl chF o0))) ?_ ?_ fu (k + 1) (sB (A.foldl chF o0), lsN (A.foldl chF o0)) (by omega) (by have := fu_big; omega) ⟨by omega, by rw [swI_0 (k + 1) (by omega), List.append_nil]⟩
    · obtain ⟨st, rfl, he⟩ := key
      exact he
    · intro f j st hj hst
      obtain ⟨hkj, hst⟩ := hst
      subst hst
      have hP := fold_P (P := fun q => q.1 < 99999 ∧ q.2 < 1024) (A ++ swI C dj hf k j) o0 (fun q hq => by
        rcases List.mem_append.mp hq with h | h
        · exact hA q h
        · exact hPI k j hk (by omega) q h) hP0
      left
      refine ⟨_, ⟨by omega, rfl⟩, ?_⟩
      simp only [f_M_sawing_L67]
      simp (disch := omega) only [ck55, cl55, w2.2.2.1]
      rw [if_neg (by rw [iI_le] <;> omega), r_share w2 ho.1 hk hj, hdj, bd_some, hin k hk, hin j hj, iI_shl1 (by omega), iI_shl1 (by omega), iI_or]
      simp only [bd_some, lt, b01_eq0, i_1, iI_add]
      by_cases c2 : hf = 2
      · rw [i_2, if_pos (by rw [c2]; rfl)]
        cases hd : dj k j
        · have es : swI C dj hf k (j + 1) = swI C dj hf k j := by rw [swI, if_neg (by rw [hd]; simp), List.append_nil]
          rw [es]
          simp only [Bool.not_false, Bool.true_eq_false, if_false, bd_some, if_true]
          rfl
        · have ec : k < j ∧ hf = 2 ∧ dj k j = true := ⟨by omega, c2, hd⟩
          simp only [Bool.not_true, if_true, bd_some, Bool.false_eq_true, if_false]
          cases hck : C k with
          | none =>
            have es : swI C dj hf k (j + 1) = swI C dj hf k j := by rw [swI, if_pos ec, hck]; simp
            rw [es]
            cases hcj : C j with
            | none =>
              rw [show fO none = iI 99999 from rfl, iI_add, show ((99999 : Int) + (99999 : Int)) = ((199998 : Nat) : Int) by omega, r_triesSaw0 (c := 199998) (by omega) (by omega), bd_some]
              rfl
            | some b =>
              have := hCb j b hj hcj
              rw [show fO none = iI 99999 from rfl, show fO (some b) = iI (b : Nat) from rfl, iI_add, show ((99999 : Int) + (b : Int)) = ((99999 + b : Nat) : Int) by omega, r_triesSaw0 (by omega) (by omega), bd_some]
              rfl
          | some a =>
            have := hCb k a hk hck
            cases hcj : C j with
            | none =>
              have es : swI C dj hf k (j + 1) = swI C dj hf k j := by rw [swI, if_pos ec, hck, hcj]; simp
              rw [es, show fO none = iI 99999 from rfl, show fO (some a) = iI (a : Nat) from rfl, iI_add, show ((a : Int) + (99999 : Int)) = ((a + 99999 : Nat) : Int) by omega, r_triesSaw0 (by omega) (by omega), bd_some]
              rfl
            | some b =>
              have := hCb j b hj hcj
              have es : swI C dj hf k (j + 1) = swI C dj hf k j ++ [(a + b, 2 ^ k ||| 2 ^ j)] := by rw [swI, if_pos ec, hck, hcj]
              rw [es, show fO (some a) = iI (a : Nat) from rfl, show fO (some b) = iI (b : Nat) from rfl, iI_add, show ((a : Int) + (b : Int)) = ((a + b : Nat) : Int) by omega, r_triesSaw (by omega) (or_lt (by omega) (by omega)) hP, bd_some, ← List.append_assoc, List.foldl_append (l := A ++ swI C dj hf k j)]
              rfl
      · have es : swI C dj hf k (j + 1) = swI C dj hf k j := by rw [swI, if_neg (by omega), List.append_nil]
        rw [es, i_2, if_neg (by rw [iI_eq] <;> omega)]
        simp only [bd_some, if_true]
        rfl
    · intro f st hst
      refine ⟨(st.1, st.2), hst.2, ?_⟩
      simp only [f_M_sawing_L67]
      simp (disch := omega) only [ck55, cl55, w2.2.2.1]
      rw [if_pos (by rw [iI_le] <;> omega)]
  have key := lp (L := fun f j (st : Int32 × Int32) => f_M_sawing_L35 (iI hf) x' (iI sl) f (iI (j : Int)) st.1 st.2) (n := n) (I := fun j st => st = (sB ((swL C dj hf n j).foldl chF o0), lsN ((swL C dj hf n j).foldl chF o0))) (Post := fun st => st = (sB ((swL C dj hf n n).foldl chF o0), lsN ((swL C dj hf n n).foldl chF o0))) ?_ ?_ fu 0 (sB o0, lsN o0) (by omega) (by have := fu_big; omega) rfl
  · obtain ⟨st, rfl, he⟩ := key
    have hfin : (swL C dj hf n n).foldl chF o0 = mnF (chL (bothP O T) C (fun k => 2 ^ k) n hf) := by
      rcases hhf with h | h
      · subst h
        rw [ch_0 n10, ← ho0, if_pos rfl]
        have : swL C dj 0 n n = [] := by
          cases hs : swL C dj 0 n n with
          | nil => rfl
          | cons q l =>
            have hq : q ∈ swL C dj 0 n n := by rw [hs]; simp
            rcases (swL_mem n q).mp hq with ⟨h, -⟩ | ⟨k, j, a, b, -, -, -, h, -⟩ <;> cases h
        rw [this]; rfl
      · rw [← mnF_ext (sw_ch n10 h), ← hdj, ← ho0, if_neg (by omega)]
        rfl
    rw [hfin] at he
    have he2 : f_M_sawing_L35 (iI hf) x' (iI sl) fu (0 : Int32) (sB o0) (lsN o0) = some (sB (mnF (chL (bothP O T) C (fun k => 2 ^ k) n hf)), lsN (mnF (chL (bothP O T) C (fun k => 2 ^ k) n hf))) := he
    have hst : (if iI (hf : Nat) = 0 then some (0 : Int32) else some (-2) : Option Int32) = some (sB o0) := by
      rw [← ho0]
      rcases hhf with h | h
      · subst h; rfl
      · rw [i_0, if_neg (by rw [iI_eq] <;> omega), if_neg (by omega)]; rfl
    have hl0 : lsN o0 = 0 := by
      rw [← ho0]; split <;> rfl
    rw [hl0] at he2
    have hb : ∀ q, mnF (chL (bothP O T) C (fun k => 2 ^ k) n hf) = some q → q.2 < 1024 := fun q hq => by
      rw [← hfin] at hq
      exact (fold_P (P := fun q => q.1 < 99999 ∧ q.2 < 1024) _ o0 (hPL n (by omega)) hP0 q hq).2
    unfold f_M_sawing
    rw [w1, bd_some, ho_half p5, hp2]
    simp only [lt]
    rw [hst, bd_some, he2, bd_some]
    cases hm : mnF (chL (bothP O T) C (fun k => 2 ^ k) n hf) with
    | none =>
      rw [if_pos (by rfl)]
      exact ⟨x', _, rfl, w2⟩
    | some q =>
      have := hb q hm
      rw [if_neg (by show ¬ iI (q.2 : Nat) = iI (-2); rw [iI_eq] <;> omega)]
      exact ⟨x', _, rfl, w2⟩
  · intro f j st hj hst
    subst hst
    have hP := fold_P (P := fun q => q.1 < 99999 ∧ q.2 < 1024) (swL C dj hf n j) o0 (hPL j (by omega)) hP0
    left
    refine ⟨_, rfl, ?_⟩
    have hx4 : (if iI (hf : Nat) = (1 : Int32) then bd (f_M_inchesOf (iI j) x' (iI sl)) (fun x16 => bd (f_M_triesSaw ((1 : Int32) <<< (iI (j : Int) &&& 31)) x16 (sB ((swL C dj hf n j).foldl chF o0)) (lsN ((swL C dj hf n j).foldl chF o0))) (fun x17 => some (x17.1, x17.2))) else some (sB ((swL C dj hf n j).foldl chF o0), lsN ((swL C dj hf n j).foldl chF o0)) : Option (Int32 × Int32)) = some (sB ((swL C dj hf n j ++ (if hf = 1 then (match C j with | some a => [(a, 2 ^ j)] | none => []) else [])).foldl chF o0), lsN ((swL C dj hf n j ++ (if hf = 1 then (match C j with | some a => [(a, 2 ^ j)] | none => []) else [])).foldl chF o0)) := by
      by_cases c1 : hf = 1
      · rw [if_pos (by rw [c1]; rfl), if_pos c1, hin j hj, bd_some, iI_shl1 (by omega)]
        cases hcj : C j with
        | none =>
          rw [show fO none = iI 99999 from rfl, show (99999 : Int) = ((99999 : Nat) : Int) by omega, r_triesSaw0 (c := 99999) (by omega) (by omega), bd_some]
          simp only [List.append_nil]
        | some a =>
          have := hCb j a hj hcj
          rw [show fO (some a) = iI (a : Nat) from rfl, r_triesSaw (by omega) (p_lt (by omega)) hP, bd_some, List.foldl_append]
          rfl
      · rw [i_1, if_neg (by rw [iI_eq] <;> omega), if_neg c1, List.append_nil]
    simp only [f_M_sawing_L35]
    simp (disch := omega) only [ck55, cl55, w2.2.2.1]
    rw [if_neg (by rw [iI_le] <;> omega), hx4, bd_some]
    simp only [lt]
    rw [show iI (j : Int) + 1 = iI ((j + 1 : Nat) : Int) by rw [i_1, iI_add]; rfl]
    have hin2 := inner j hj (swL C dj hf n j ++ (if hf = 1 then (match C j with | some a => [(a, 2 ^ j)] | none => []) else [])) (fun q hq => hPL (j + 1) (by omega) q (by rw [swL]; exact List.mem_append_left _ hq))
    rw [hin2, bd_some, swL]
  · intro f st hst
    refine ⟨(st.1, st.2), hst, ?_⟩
    simp only [f_M_sawing_L35]
    simp (disch := omega) only [ck55, cl55, w2.2.2.1]
    rw [if_pos (by rw [iI_le] <;> omega)]
theorem e_saws (h : PT so on ot ki ye sa v S O T K Y Z p n fb ns sl) : ∃ R R', f_X_saws (iI sl) (iI p) so on ot ki ye sa (iI n) bo co bi s5 s6 s7 cl s8 = some R ∧ f_M_saws v x (iI sl) (iI p) = some R' ∧ qz R.1 R.2.1 R'.1 R'.2.2.1 R'.2.2.2.1 := by
  obtain ⟨hc, hv, ho⟩ := h
  obtain ⟨R, e1, -, e2, -⟩ := q_chooseSaws (bo := bo) (co := co) (bi := bi) (cl := cl) hc ho
  obtain ⟨x', ls, e3, -⟩ := r_sawing (x := x) hv ho
  unfold f_X_saws f_M_saws
  rw [q_noTable ho.2.2.2.2 ho.1.1, e1, e3]
  exact ⟨_, _, rfl, rfl, qz_0 e2⟩
theorem e_sawsOf (h : PT so on ot ki ye sa v S O T K Y Z p n fb ns sl) (l1 : Int32) : ∃ R R', f_X_sawsOf l1 (iI sl) (iI p) so on ot ki ye sa (iI n) bo co bi s5 s6 s7 cl s8 = some R ∧ f_M_sawsOf l1 v x mm ms (iI sl) (iI p) = some R' ∧ qz R.1 R.2.1 R'.1 R'.2.2.1 R'.2.2.2.1 := by
  obtain ⟨hc, hv, ho⟩ := h
  have n10 := ho.1.2.1
  unfold f_X_sawsOf f_M_sawsOf
  rcases prs n10 hv.2.2.1 l1 with ⟨k, hk, rfl, e1, e2⟩ | ⟨e1, e2⟩
  · obtain ⟨R, g1, g2, g3, g4⟩ := q_chooseSaws (bo := bo) (co := co) (bi := bi) (cl := cl) hc ho
    obtain ⟨x', ls, g5, g6⟩ := r_sawing (x := x) hv ho
    have hi := r_inches g6 ho hk
    rw [e1, e2, g1, g5]
    simp only [bd_some, z10, eq_self, if_true, if_false]
    rw [g3, g4, hi]
    cases hm : mnF (chL (bothP O T) (inP S O T K (H0 K Y Z) sl) (fun k => 2 ^ k) n (p / 2)) with
    | none =>
      rw [if_neg (by show ¬ (0 : Int32) ≤ iI (-2); decide), if_pos (by show iI (-2) = (-2 : Int32); rfl)]
      exact ⟨_, _, rfl, rfl, qz_0 rfl⟩
    | some q =>
      have hq := ((mnF_spec _).2 q hm).1
      unfold chL at hq
      rw [List.mem_map] at hq
      obtain ⟨b, hb, rfl⟩ := hq
      have hb1 := (List.mem_filter.mp hb).1
      have hb3 : b < 1024 := Nat.lt_of_lt_of_le (ml_lt hb1) (two10 n10)
      have hcost : sumN b (fun k => (inP S O T K (H0 K Y Z) sl k).getD 0) 10 ≤ 10 * 6000 := sumN_le (fun k ht => by
        obtain ⟨h1, h2⟩ := ml_can hb1 ht
        rw [bitsN_tb] at h2
        simp only [h1, decide_true, Bool.true_and] at h2
        obtain ⟨a, ha⟩ := Option.isSome_iff_exists.mp h2
        rw [ha]
        have := inP_lt ho h1 ha
        show a ≤ 6000; omega) 10
      rw [sum_bits b hb3]
      generalize sumN b (fun k => (inP S O T K (H0 K Y Z) sl k).getD 0) 10 = cst at *
      rw [show oC (some (cst, b)) = iI (cst : Nat) from rfl, show oB (some (cst, b)) = iI (b : Nat) from rfl, show sB (some (cst, b)) = iI (b : Nat) from rfl, if_pos (by rw [i_0, iI_le] <;> omega), i_m2, if_neg (by rw [iI_eq] <;> omega), q_has (by omega) (by omega), r_bit (by omega) (by omega), iI_ck (by omega) (by omega), iI_cl (by omega), g2 k hk]
      simp only [bd_some, b01_eq0]
      cases ht : b.testBit k
      · exact ⟨_, _, rfl, rfl, qz_0 rfl⟩
      · obtain ⟨h1, h2⟩ := ml_can hb1 ht
        rw [bitsN_tb] at h2
        simp only [h1, decide_true, Bool.true_and] at h2
        obtain ⟨a, ha⟩ := Option.isSome_iff_exists.mp h2
        rw [ha]
        exact ⟨_, _, rfl, rfl, qz_0 rfl⟩
  · rw [e1, e2]; exact ⟨_, _, rfl, rfl, qz_1⟩
end
