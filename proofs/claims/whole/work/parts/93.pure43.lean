/-! the seater's hopes; from set to set -/
def hpOK (O T K H : Nat → Nat) (fb sl n ns : Nat) (hp hA : Nat → Int32) (q c : Nat) : Prop := ∃ m, m ≤ 1000 ∧ hp (q * 5 + c) = iI (m : Nat) ∧ ∀ s, s < ns → ∃ h, h ≤ m ∧ hA ((q * 5 + c) * 10 + s) = iI (h : Nat) ∧ ∀ s', s' < ns → s' ≠ s → gnV O T K H fb sl n q c s s' ≤ h
section
variable {pa fbs sps hp hA gn wo ro : Nat → Int32} {O T K H : Nat → Nat} {p n fb ns sl : Nat}
theorem q_hopeFrom (ht : tbl O T K H p n fb ns sl pa fbs sps) (hp5 : p ≤ 5) (hn : n ≤ 10) (ns10 : ns ≤ 10) {q c s : Nat} (hq : q < c) (hc : c < p) (hs : s < ns) : ∃ h, f_Seater_hopeFrom (iI q) (iI c) (iI s) (iI ns) pa sps fbs = some (iI (h : Nat)) ∧ h ≤ 1000 ∧ ∀ s', s' < ns → s' ≠ s → gnV O T K H fb sl n q c s s' ≤ h := by
  have key := lp (L := fun fz jz (sz : Int32) => f_Seater_hopeFrom_L6 (iI q) (iI c) (iI s) (iI ns) pa sps fbs fz sz (iI (jz : Int))) (n := ns) (I := fun j st => ∃ h, st = iI (h : Nat) ∧ h ≤ 1000 ∧ ∀ s', s' < j → s' ≠ s → gnV O T K H fb sl n q c s s' ≤ h) (Post := fun st => ∃ h, st = iI (h : Nat) ∧ h ≤ 1000 ∧ ∀ s', s' < ns → s' ≠ s → gnV O T K H fb sl n q c s s' ≤ h) ?_ ?_ fu 0 (0 : Int32) (by omega) (by have := fu_big; omega) ⟨0, rfl, by omega, fun s' h => by omega⟩
  · obtain ⟨r, ⟨h, rfl, h1, h2⟩, he⟩ := key
    have he2 : f_Seater_hopeFrom_L6 (iI q) (iI c) (iI s) (iI ns) pa sps fbs fu (0 : Int32) (0 : Int32) = some (iI (h : Nat)) := he
    refine ⟨h, ?_, h1, h2⟩
    unfold f_Seater_hopeFrom
    rw [he2, bd_some]
  · intro f j st hj hst
    obtain ⟨h, rfl, h1, h2⟩ := hst
    left
    simp only [f_Seater_hopeFrom_L6]
    by_cases e : j = s
    · refine ⟨iI (h : Nat), ⟨h, rfl, h1, fun s' hs' hne => h2 s' (by omega) hne⟩, ?_⟩
      rw [if_neg (by rw [iI_le] <;> omega), if_pos (by rw [e])]
      simp only [lt]
      rw [sm1]
    · have hg := q_gainOf ht hp5 hn ns10 hq hc hs hj (fun e' => e e'.symm)
      have hle := gnV_le (O := O) (T := T) (K := K) (fb := fb) (sl := sl) (n := n) (H := H) (q := q) (c := c) (a := s) (b := j)
      refine ⟨iI ((max h (gnV O T K H fb sl n q c s j) : Nat) : Int), ⟨max h (gnV O T K H fb sl n q c s j), rfl, by omega, fun s' hs' hne => ?_⟩, ?_⟩
      · by_cases e2 : s' = j
        · subst e2; omega
        · have := h2 s' (by omega) hne; omega
      · rw [if_neg (by rw [iI_le] <;> omega), if_neg (by rw [iI_eq] <;> omega), hg, bd_some]
        simp only [lt]
        rw [sm1]
        generalize gnV O T K H fb sl n q c s j = g at *
        by_cases e3 : h < g
        · rw [if_pos (by rw [iI_lt] <;> omega), show max h g = g by omega]
        · rw [if_neg (by rw [iI_lt] <;> omega), show max h g = h by omega]
  · intro f st hst
    refine ⟨st, hst, ?_⟩
    simp only [f_Seater_hopeFrom_L6]
    rw [if_pos (by rw [iI_le] <;> omega)]
theorem q_setHopes (ht : tbl O T K H p n fb ns sl pa fbs sps) (hp5 : p ≤ 5) (hn : n ≤ 10) (ns10 : ns ≤ 10) : ∃ hp' hA', f_Seater_setHopes (iI ns) (iI p) pa hp hA sps fbs = some (hp', hA') ∧ ∀ q c, q < c → c < p → hpOK O T K H fb sl n ns hp' hA' q c := by
  have L36 : ∀ c q, q < c → c < p → ∀ h0 a0 : Nat → Int32, ∃ h1 a1, f_Seater_setHopes_L36 (iI c) (iI q) (iI ((q * 5 + c : Nat) : Int)) (iI ns) pa sps fbs fu (0 : Int32) (upd h0 (q * 5 + c) 0) a0 = some (h1, a1) ∧ hpOK O T K H fb sl n ns h1 a1 q c ∧ (∀ i, i ≠ q * 5 + c → h1 i = h0 i) ∧ ∀ i s, i ≠ q * 5 + c → s < 10 → a1 (i * 10 + s) = a0 (i * 10 + s) := by
    intro c q hq hc h0 a0
    have key := lp (L := fun fz jz (sz : (Nat → Int32) × (Nat → Int32)) => f_Seater_setHopes_L36 (iI c) (iI q) (iI ((q * 5 + c : Nat) : Int)) (iI ns) pa sps fbs fz (iI (jz : Int)) sz.1 sz.2) (n := ns) (I := fun j st => (∃ m, m ≤ 1000 ∧ st.1 (q * 5 + c) = iI (m : Nat) ∧ ∀ s, s < j → ∃ h, h ≤ m ∧ st.2 ((q * 5 + c) * 10 + s) = iI (h : Nat) ∧ ∀ s', s' < ns → s' ≠ s → gnV O T K H fb sl n q c s s' ≤ h) ∧ (∀ i, i ≠ q * 5 + c → st.1 i = h0 i) ∧ ∀ i s, i ≠ q * 5 + c → s < 10 → st.2 (i * 10 + s) = a0 (i * 10 + s)) (Post := fun st => hpOK O T K H fb sl n ns st.1 st.2 q c ∧ (∀ i, i ≠ q * 5 + c → st.1 i = h0 i) ∧ ∀ i s, i ≠ q * 5 + c → s < 10 → st.2 (i * 10 + s) = a0 (i * 10 + s)) ?_ ?_ fu 0 (upd h0 (q * 5 + c) 0, a0) (by omega) (by have := fu_big; omega) ⟨⟨0, by omega, upd_s _ _ _, fun s hs => by omega⟩, fun i hi => upd_n hi, fun i s _ _ => rfl⟩
    · obtain ⟨st, ⟨p1, p2, p3⟩, he⟩ := key
      exact ⟨st.1, st.2, he, p1, p2, p3⟩
    · intro f j st hj hst
      obtain ⟨⟨m, m1, m2, m3⟩, i2, i3⟩ := hst
      obtain ⟨h, g1, g2, g3⟩ := q_hopeFrom ht hp5 hn ns10 hq hc hj
      left
      refine ⟨(upd st.1 (q * 5 + c) (iI ((max m h : Nat) : Int)), upd st.2 ((q * 5 + c) * 10 + j) (iI (h : Nat))), ⟨⟨max m h, by omega, upd_s _ _ _, fun s hs => ?_⟩, fun i hi => ?_, fun i s hi hs => ?_⟩, ?_⟩
      · by_cases e : s = j
        · subst e
          exact ⟨h, by omega, upd_s _ _ _, g3⟩
        · obtain ⟨h', q1, q2, q3⟩ := m3 s (by omega)
          exact ⟨h', by omega, by show upd st.2 _ _ _ = _; rw [upd_n (by omega)]; exact q2, q3⟩
      · show upd st.1 _ _ i = _
        rw [upd_n hi]; exact i2 i hi
      · show upd st.2 _ _ _ = _
        rw [upd_n (by omega)]; exact i3 i s hi hs
      · simp only [f_Seater_setHopes_L36]
        rw [if_neg (by rw [iI_le] <;> omega), g1, bd_some, i_m10, iI_ck (by omega) (by omega), iI_ck (by omega) (by omega), iI_ck (by omega) (by omega), iI_ck (by omega) (by omega), iI_cl (by omega), iI_cl (by omega), upd_s, m2]
        simp only [lt]
        rw [sm1]
        by_cases e3 : m < h
        · rw [if_pos (by rw [iI_lt] <;> omega), show max m h = h by omega]
        · rw [if_neg (by rw [iI_lt] <;> omega), show max m h = m by omega]
    · intro f st hst
      refine ⟨(st.1, st.2), hst, ?_⟩
      simp only [f_Seater_setHopes_L36]
      rw [if_pos (by rw [iI_le] <;> omega)]
  have stay : ∀ {h0 a0 h1 a1 : Nat → Int32} {q c q' c' : Nat}, c < 5 → c' < 5 → (q ≠ q' ∨ c ≠ c') → (∀ i, i ≠ q * 5 + c → h1 i = h0 i) → (∀ i s, i ≠ q * 5 + c → s < 10 → a1 (i * 10 + s) = a0 (i * 10 + s)) → hpOK O T K H fb sl n ns h0 a0 q' c' → hpOK O T K H fb sl n ns h1 a1 q' c' := by
    intro h0 a0 h1 a1 q c q' c' hc hc' hne e1 e2 ⟨m, m1, m2, m3⟩
    refine ⟨m, m1, by rw [e1 _ (by omega)]; exact m2, fun s hs => ?_⟩
    obtain ⟨h, q1, q2, q3⟩ := m3 s hs
    exact ⟨h, q1, by rw [e2 _ s (by omega) (by omega)]; exact q2, q3⟩
  have L15 : ∀ c, c < p → ∀ h0 a0 : Nat → Int32, ∃ h1 a1, f_Seater_setHopes_L15 (iI c) (iI ns) pa sps fbs fu (0 : Int32) h0 a0 = some (h1, a1) ∧ (∀ q, q < c → hpOK O T K H fb sl n ns h1 a1 q c) ∧ ∀ q c', c' < c → hpOK O T K H fb sl n ns h0 a0 q c' → hpOK O T K H fb sl n ns h1 a1 q c' := by
    intro c hc h0 a0
    have key := lp (L := fun fz jz (sz : (Nat → Int32) × (Nat → Int32)) => f_Seater_setHopes_L15 (iI c) (iI ns) pa sps fbs fz (iI (jz : Int)) sz.1 sz.2) (n := c) (I := fun j st => (∀ q, q < j → hpOK O T K H fb sl n ns st.1 st.2 q c) ∧ ∀ q c', c' < c → hpOK O T K H fb sl n ns h0 a0 q c' → hpOK O T K H fb sl n ns st.1 st.2 q c') (Post := fun st => (∀ q, q < c → hpOK O T K H fb sl n ns st.1 st.2 q c) ∧ ∀ q c', c' < c → hpOK O T K H fb sl n ns h0 a0 q c' → hpOK O T K H fb sl n ns st.1 st.2 q c') ?_ ?_ fu 0 (h0, a0) (by omega) (by have := fu_big; omega) ⟨fun q hq => by omega, fun q c' _ h => h⟩
    · obtain ⟨st, ⟨p1, p2⟩, he⟩ := key
      exact ⟨st.1, st.2, he, p1, p2⟩
    · intro f j st hj hst
      obtain ⟨h1, a1, g1, g2, g3, g4⟩ := L36 c j hj hc st.1 st.2
      left
      refine ⟨(h1, a1), ⟨fun q hq => ?_, fun q c' hc' h => ?_⟩, ?_⟩
      · by_cases e : q = j
        · subst e; exact g2
        · exact stay (by omega) (by omega) (Or.inl (fun e' => e e'.symm)) g3 g4 (hst.1 q (by omega))
      · exact stay (by omega) (by omega) (Or.inr (by omega)) g3 g4 (hst.2 q c' hc' h)
      · simp only [f_Seater_setHopes_L15]
        rw [if_neg (by rw [iI_le] <;> omega), i_m5]
        simp only [lt]
        rw [iI_ck (by omega) (by omega), iI_cl (by omega), g1, bd_some, sm1]
    · intro f st hst
      refine ⟨(st.1, st.2), hst, ?_⟩
      simp only [f_Seater_setHopes_L15]
      rw [if_pos (by rw [iI_le] <;> omega)]
  have key := lp (L := fun fz jz (sz : (Nat → Int32) × (Nat → Int32)) => f_Seater_setHopes_L2 (iI ns) (iI p) pa sps fbs fz (iI (jz : Int)) sz.1 sz.2) (n := p) (I := fun j st => ∀ q c, q < c → c < j → hpOK O T K H fb sl n ns st.1 st.2 q c) (Post := fun st => ∀ q c, q < c → c < p → hpOK O T K H fb sl n ns st.1 st.2 q c) ?_ ?_ fu 0 (hp, hA) (by omega) (by have := fu_big; omega) (fun q c _ h => by omega)
  · obtain ⟨st, h1, he⟩ := key
    have he2 : f_Seater_setHopes_L2 (iI ns) (iI p) pa sps fbs fu (0 : Int32) hp hA = some st := he
    refine ⟨st.1, st.2, ?_, h1⟩
    unfold f_Seater_setHopes
    rw [he2, bd_some]
  · intro f j st hj hst
    obtain ⟨h1, a1, g1, g2, g3⟩ := L15 j hj st.1 st.2
    left
    refine ⟨(h1, a1), fun q c hq hc => ?_, ?_⟩
    · by_cases e : c = j
      · subst e; exact g2 q hq
      · exact g3 q c (by omega) (hst q c hq (by omega))
    · simp only [f_Seater_setHopes_L2]
      rw [if_neg (by rw [iI_le] <;> omega), g1, bd_some]
      simp only [lt]
      rw [sm1]
  · intro f st hst
    refine ⟨(st.1, st.2), hst, ?_⟩
    simp only [f_Seater_setHopes_L2]
    rw [if_pos (by rw [iI_le] <;> omega)]
/-! from set to set -/
theorem iI_xor (a b : Nat) : iI (a : Nat) ^^^ iI (b : Nat) = iI ((a ^^^ b : Nat) : Int) := by
  rw [← iI_nI, ← iI_nI, ← iI_nI]
  apply Int32.toBitVec_inj.mp
  simp [nI, Int32.toBitVec_xor, Int32.toBitVec_ofNat, BitVec.ofNat_xor]
theorem mq_bd {f g : Nat → Nat} {s A B : Nat} (hf : ∀ x, f x ≤ A) : ∀ m, (∀ q, q < m → g q ≤ B) → mq f g s m ≤ A + B := by
  intro m hg
  rcases mq_cases (f := f) (g := g) (s := s) m with h | ⟨q, h1, -, -, h4⟩
  · rw [h]; have := hf s; omega
  · rw [h4]; have := hf (s ^^^ 2 ^ q); have := hg q h1; omega
theorem Mw_bd {g : Nat → Nat → Nat} : ∀ d, (∀ q c, q < c → c < d → g q c ≤ 1000) → ∀ s, Mw g d s ≤ 1000 * d := by
  intro d
  induction d with
  | zero => intro _ s; exact Nat.le_refl _
  | succ d ih =>
    intro hg s
    have h1 := ih (fun q c a b => hg q c a (by omega))
    rw [Mw]
    split
    · have := mq_bd (s := s) h1 d (fun q hq => hg q d hq (by omega)); omega
    · have := h1 s; omega
/-- the worths hold what sets of the d first are worth (of all people only the set of all) -/
def VAL (g : Nat → Nat → Nat) (p d : Nat) (wo : Nat → Int32) : Prop := if d < p then ∀ s, s < 2 ^ d → wo s = iI (Mw g d s : Nat) else wo (2 ^ p - 1) = iI (Mw g p (2 ^ p - 1) : Nat)
theorem q_spread {g : Nat → Nat → Nat} {d : Nat} (hp5 : p ≤ 5) (hd : d < p) (hg : ∀ q c, q < c → c < p → g q c ≤ 1000) (hv : VAL g p d wo) (hgn : ∀ q, q < d → gn q = iI (g q d : Nat)) : ∃ wo', f_Seater_spread (iI d) (iI p) gn wo = some wo' ∧ VAL g p (d + 1) wo' ∧ ∀ s, s < 2 ^ d → wo' s = wo s := by
  unfold VAL at hv
  rw [if_pos hd] at hv
  have h32 : ∀ d, d < 5 → 2 ^ d ≤ 16 := by decide
  have h16 := h32 d (by omega)
  have hpos := Nat.two_pow_pos d
  have hMw := Mw_bd (g := g) d (fun q c a b => hg q c a (by omega))
  have inner : ∀ s : Nat, s < 2 ^ d → ∀ w' : Nat → Int32, (∀ s, s < 2 ^ d → w' s = iI (Mw g d s : Nat)) → f_Seater_spread_L46 (iI d) (iI s) gn w' fu (iI (Mw g d s : Nat)) (0 : Int32) = some (iI (mq (Mw g d) (fun q => g q d) s d : Nat)) := by
    intro s hs w' hw'
    have key := lp (L := fun fz jz (sz : Int32) => f_Seater_spread_L46 (iI d) (iI s) gn w' fz sz (iI (jz : Int))) (n := d) (I := fun j st => st = iI (mq (Mw g d) (fun q => g q d) s j : Nat)) (Post := fun st => st = iI (mq (Mw g d) (fun q => g q d) s d : Nat)) ?_ ?_ fu 0 (iI (Mw g d s : Nat)) (by omega) (by have := fu_big; omega) rfl
    · obtain ⟨st, rfl, he⟩ := key
      exact he
    · intro f j st hj hst
      subst hst
      have hbd := mq_bd (s := s) hMw j (fun q hq => hg q d (by omega) hd)
      have hgj := hg j d hj hd
      have hx : s ^^^ 2 ^ j < 2 ^ d := Nat.xor_lt_two_pow hs (Nat.pow_lt_pow_right (by omega) hj)
      have hMx := hMw (s ^^^ 2 ^ j)
      left
      refine ⟨_, rfl, ?_⟩
      rw [mq]
      simp only [f_Seater_spread_L46]
      rw [if_neg (by rw [iI_le] <;> omega), q_has (by omega) (by omega), bd_some, iI_shl1 (by omega), iI_xor, iI_ck (by omega) (by omega), iI_ck (by omega) (by omega), iI_ck (by omega) (by omega), iI_cl (by omega), iI_cl (by omega), hgn j hj, hw' _ hx]
      simp only [lt, b01_eq0]
      rw [sm1]
      generalize mq (Mw g d) (fun q => g q d) s j = M at *
      generalize Mw g d (s ^^^ 2 ^ j) = N at *
      generalize g j d = G at *
      cases s.testBit j
      · simp [bd]
      · by_cases e : 0 < G
        · rw [if_neg (show ¬ iI (G : Int) ≤ 0 by rw [i_0, iI_le] <;> omega)]
          simp only [Bool.true_eq_false, if_false, bd_some, Bool.false_eq_true, e, decide_true, Bool.and_true, if_true, iI_add]
          by_cases e2 : M < N + G
          · rw [if_pos (by rw [iI_lt] <;> omega), show max M (N + G) = N + G by omega]; rfl
          · rw [if_neg (by rw [iI_lt] <;> omega), show max M (N + G) = M by omega]
        · rw [if_pos (show iI (G : Int) ≤ 0 by rw [i_0, iI_le] <;> omega)]
          simp [e, bd]
    · intro f st hst
      refine ⟨st, hst, ?_⟩
      simp only [f_Seater_spread_L46]
      rw [if_pos (by rw [iI_le] <;> omega)]
  have outer : ∀ from_ : Nat, from_ ≤ 2 ^ d → ∃ wo', f_Seater_spread_L28 (iI d) (iI ((2 ^ d : Nat) : Int)) gn fu (iI (from_ : Nat)) wo = some wo' ∧ (∀ s, s < 2 ^ d → wo' s = wo s) ∧ ∀ s, from_ ≤ s → s < 2 ^ d → wo' (s + 2 ^ d) = iI (mq (Mw g d) (fun q => g q d) s d : Nat) := by
    intro from_ hf
    have key := lp (L := fun fz jz (sz : (Nat → Int32)) => f_Seater_spread_L28 (iI d) (iI ((2 ^ d : Nat) : Int)) gn fz (iI (jz : Int)) sz) (n := 2 ^ d) (I := fun j st => (∀ s, s < 2 ^ d → st s = wo s) ∧ ∀ s, from_ ≤ s → s < j → st (s + 2 ^ d) = iI (mq (Mw g d) (fun q => g q d) s d : Nat)) (Post := fun st => (∀ s, s < 2 ^ d → st s = wo s) ∧ ∀ s, from_ ≤ s → s < 2 ^ d → st (s + 2 ^ d) = iI (mq (Mw g d) (fun q => g q d) s d : Nat)) ?_ ?_ fu from_ wo hf (by have := fu_big; omega) ⟨fun s _ => rfl, fun s h1 h2 => by omega⟩
    · obtain ⟨st, hst, he⟩ := key
      exact ⟨st, he, hst⟩
    · intro f j st hj hst
      have hor : j ||| 2 ^ d = j + 2 ^ d := by
        have := Nat.two_pow_add_eq_or_of_lt (i := d) (b := j) hj 1
        simp only [Nat.mul_one] at this
        rw [Nat.or_comm, ← this]; omega
      left
      refine ⟨upd st (j + 2 ^ d) (iI (mq (Mw g d) (fun q => g q d) j d : Nat)), ⟨fun s hs => ?_, fun s h1 h2 => ?_⟩, ?_⟩
      · rw [upd_n (by omega)]; exact hst.1 s hs
      · by_cases e : s = j
        · subst e; exact upd_s _ _ _
        · rw [upd_n (by omega)]; exact hst.2 s h1 (by omega)
      · simp only [f_Seater_spread_L28]
        rw [if_neg (by rw [iI_le] <;> omega), iI_ck (by omega) (by omega), iI_cl (by omega), hst.1 j hj, hv j hj, iI_or, hor]
        simp only [lt]
        rw [inner j hj st (fun s hs => by rw [hst.1 s hs]; exact hv s hs), bd_some, iI_ck (by omega) (by omega), iI_cl (by omega), sm1]
    · intro f st hst
      refine ⟨st, hst, ?_⟩
      simp only [f_Seater_spread_L28]
      rw [if_pos (by rw [iI_le] <;> omega)]
  have htop : ∀ s, s < 2 ^ d → Mw g (d + 1) (s + 2 ^ d) = mq (Mw g d) (fun q => g q d) s d := by
    intro s hs
    have hor : s + 2 ^ d = 2 ^ d ||| s := by
      have := Nat.two_pow_add_eq_or_of_lt (i := d) (b := s) hs 1
      simp only [Nat.mul_one] at this
      rw [← this]; omega
    have hb : ∀ i, (s + 2 ^ d).testBit i = (decide (d = i) || s.testBit i) := fun i => by rw [hor, Nat.testBit_or, Nat.testBit_two_pow]
    rw [Mw, if_pos (by rw [hb]; simp)]
    exact mq_low (f := Mw g d) (f' := Mw g d) (g := fun q => g q d) (g' := fun q => g q d) (s := s + 2 ^ d) (s' := s) (d := d) (fun i hi => by rw [hb i]; simp; omega) (fun x x' h => Mw_low d x x' h (fun _ _ _ _ => rfl)) (fun _ _ => rfl) d (Nat.le_refl _)
  have hlow : ∀ s, s < 2 ^ d → Mw g (d + 1) s = Mw g d s := fun s hs => by
    rw [Mw, if_neg]
    intro h
    have := tb_lt hs h
    omega
  unfold f_Seater_spread
  simp only [lt]
  rw [iI_shl1 (by omega)]
  by_cases c : d + 1 = p
  · obtain ⟨wo', g1, g2, g3⟩ := outer (2 ^ d - 1) (by omega)
    have e1 : (if iI (d : Int) = iI (p : Int) - 1 then some (iI ((2 ^ d : Nat) : Int) - 1) else some 0 : Option Int32) = some (iI ((2 ^ d - 1 : Nat) : Int)) := by
      rw [i_1, iI_sub, if_pos (by congr 1; omega), iI_sub]; congr 2; omega
    refine ⟨wo', by rw [e1, bd_some, g1, bd_some], ?_, g2⟩
    unfold VAL
    rw [if_neg (by omega)]
    have h2 : 2 ^ p = 2 ^ d + 2 ^ d := by rw [← c, Nat.pow_succ]; omega
    have h3 : 2 ^ p - 1 = (2 ^ d - 1) + 2 ^ d := by omega
    rw [h3, g3 (2 ^ d - 1) (by omega) (by omega), ← htop (2 ^ d - 1) (by omega), c]
  · obtain ⟨wo', g1, g2, g3⟩ := outer 0 (by omega)
    have g1 : f_Seater_spread_L28 (iI d) (iI ((2 ^ d : Nat) : Int)) gn fu (0 : Int32) wo = some wo' := g1
    have e1 : (if iI (d : Int) = iI (p : Int) - 1 then some (iI ((2 ^ d : Nat) : Int) - 1) else some 0 : Option Int32) = some 0 := by
      rw [i_1, iI_sub, if_neg (by rw [iI_eq] <;> omega)]
    refine ⟨wo', by rw [e1, bd_some, g1, bd_some], ?_, g2⟩
    unfold VAL
    rw [if_pos (by omega)]
    intro s hs
    have h2 : 2 ^ (d + 1) = 2 ^ d + 2 ^ d := by rw [Nat.pow_succ]; omega
    by_cases e : s < 2 ^ d
    · rw [g2 s e, hv s e, hlow s e]
    · have h3 := g3 (s - 2 ^ d) (by omega) (by omega)
      rw [show s - 2 ^ d + 2 ^ d = s by omega, ← htop (s - 2 ^ d) (by omega), show s - 2 ^ d + 2 ^ d = s by omega] at h3
      exact h3
end
