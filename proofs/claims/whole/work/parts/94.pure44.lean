/-! the seater's search -/
def hpG (g : Nat → Nat → Nat) (hp hA : Nat → Int32) (r : Nat → Nat) (d0 q c : Nat) : Nat := if c < d0 then g q c else if q < d0 then (hA ((q * 5 + c) * 10 + r q)).toNatClampNeg else (hp (q * 5 + c)).toNatClampNeg
/-- a row of different seats up to d; one that goes on to all -/
def vp (ns d : Nat) (r : Nat → Nat) : Prop := (∀ q, q < d → r q < ns) ∧ ∀ q q', q < d → q' < d → r q = r q' → q = q'
def comp (ns p d : Nat) (r r' : Nat → Nat) : Prop := (∀ q, q < d → r' q = r q) ∧ vp ns p r'
section
variable {pa fbs sps hp hA gn wo ro : Nat → Int32} {O T K H r : Nat → Nat} {p n fb ns sl d : Nat}
theorem hpG_le (hh : ∀ q c, q < c → c < p → hpOK O T K H fb sl n ns hp hA q c) (hv : vp ns d r) {q c : Nat} (hq : q < c) (hc : c < p) : hpG (gnR O T K H fb sl n r) hp hA r d q c ≤ 1000 := by
  obtain ⟨m, m1, m2, m3⟩ := hh q c hq hc
  unfold hpG
  split
  · exact gnV_le
  · split
    · rename_i h
      obtain ⟨h', q1, q2, -⟩ := m3 (r q) (hv.1 q h)
      rw [q2, iI_cl (by omega)]; omega
    · rw [m2, iI_cl (by omega)]; exact m1
theorem hpG_ge (hh : ∀ q c, q < c → c < p → hpOK O T K H fb sl n ns hp hA q c) {r' : Nat → Nat} (hcm : comp ns p d r r') {q c : Nat} (hq : q < c) (hc : c < p) : gnR O T K H fb sl n r' q c ≤ hpG (gnR O T K H fb sl n r) hp hA r d q c := by
  obtain ⟨e1, e2, e3⟩ := hcm
  obtain ⟨m, m1, m2, m3⟩ := hh q c hq hc
  have hne : r' c ≠ r' q := fun e => by have := e3 c q hc (by omega) e; omega
  unfold hpG
  split
  · unfold gnR
    rw [e1 q (by omega), e1 c (by omega)]
    exact Nat.le_refl _
  · split
    · rename_i h
      obtain ⟨h', q1, q2, q3⟩ := m3 (r q) (by rw [← e1 q h]; exact e2 q (by omega))
      rw [q2, iI_cl (by omega)]
      unfold gnR
      rw [e1 q h] at hne ⊢
      exact q3 (r' c) (e2 c hc) hne
    · obtain ⟨h', q1, q2, q3⟩ := m3 (r' q) (e2 q (by omega))
      rw [m2, iI_cl (by omega)]
      exact Nat.le_trans (q3 (r' c) (e2 c hc) hne) q1
theorem q_hoped (hp5 : p ≤ 5) (ns10 : ns ≤ 10) (hd : d ≤ p) (hh : ∀ q c, q < c → c < p → hpOK O T K H fb sl n ns hp hA q c) (hv : vp ns d r) (hro : ∀ q, q < d → ro q = iI (r q : Nat)) (hw : VAL (gnR O T K H fb sl n r) p d wo) : ∃ R, f_Seater_hopedBehind (iI d) (iI p) ro hp hA gn wo = some R ∧ R.1 = iI (Mw (hpG (gnR O T K H fb sl n r) hp hA r d) p (2 ^ p - 1) : Nat) ∧ ∀ s, s < 2 ^ d → R.2.2 s = wo s := by
  have hG := fun q c (hq : q < c) (hc : c < p) => hpG_le hh hv hq hc
  have hG0 : ∀ q c, c < d → hpG (gnR O T K H fb sl n r) hp hA r d q c = gnR O T K H fb sl n r q c := fun q c hc => by unfold hpG; rw [if_pos hc]
  have hG1 : ∀ q c, q < c → c < p → d ≤ c → (q < d → hA ((q * 5 + c) * 10 + r q) = iI (hpG (gnR O T K H fb sl n r) hp hA r d q c : Nat)) ∧ (d ≤ q → hp (q * 5 + c) = iI (hpG (gnR O T K H fb sl n r) hp hA r d q c : Nat)) := by
    intro q c hq hc hdc
    obtain ⟨m, m1, m2, m3⟩ := hh q c hq hc
    unfold hpG
    rw [if_neg (by omega)]
    refine ⟨fun h => ?_, fun h => ?_⟩
    · rw [if_pos h]
      obtain ⟨h', q1, q2, -⟩ := m3 (r q) (hv.1 q h)
      rw [q2, iI_cl (by omega)]
    · rw [if_neg (by omega), m2, iI_cl (by omega)]
  generalize hpG (gnR O T K H fb sl n r) hp hA r d = g' at *
  have h0 : VAL g' p d wo := by
    unfold VAL at hw ⊢
    split
    · rename_i h
      rw [if_pos h] at hw
      intro s hs
      rw [hw s hs, Mw_low (g' := g') d s s (fun _ _ => rfl) (fun q c _ hc => (hG0 q c hc).symm)]
    · rename_i h
      rw [if_neg h] at hw
      rw [hw, Mw_low (g' := g') p _ _ (fun _ _ => rfl) (fun q c _ hc => (hG0 q c (by omega)).symm)]
  have inner : ∀ c, d ≤ c → c < p → ∀ gn0 : Nat → Int32, ∃ gn1, f_Seater_hopedBehind_L15 (iI d) (iI c) ro hp hA fu (0 : Int32) gn0 = some gn1 ∧ ∀ q, q < c → gn1 q = iI (g' q c : Nat) := by
    intro c hdc hc gn0
    have key := lp (L := fun fz jz (sz : (Nat → Int32)) => f_Seater_hopedBehind_L15 (iI d) (iI c) ro hp hA fz (iI (jz : Int)) sz) (n := c) (I := fun j st => ∀ q, q < j → st q = iI (g' q c : Nat)) (Post := fun st => ∀ q, q < c → st q = iI (g' q c : Nat)) ?_ ?_ fu 0 gn0 (by omega) (by have := fu_big; omega) (fun q h => by omega)
    · obtain ⟨st, hst, he⟩ := key
      exact ⟨st, he, hst⟩
    · intro f j st hj hst
      obtain ⟨u1, u2⟩ := hG1 j c hj hc hdc
      left
      refine ⟨upd st j (iI (g' j c : Nat)), fun q hq => ?_, ?_⟩
      · by_cases e : q = j
        · subst e; exact upd_s _ _ _
        · rw [upd_n e]; exact hst q (by omega)
      · simp only [f_Seater_hopedBehind_L15]
        rw [if_neg (by rw [iI_le] <;> omega), i_m5]
        simp only [lt]
        by_cases e : d ≤ j
        · rw [if_pos (by rw [iI_le] <;> omega), iI_ck (by omega) (by omega), iI_cl (by omega), u2 e, bd_some, iI_ck (by omega) (by omega), iI_cl (by omega), sm1]
        · have hrj := hv.1 j (by omega)
          rw [if_neg (by rw [iI_le] <;> omega), iI_ck (by omega) (by omega), iI_cl (by omega), hro j (by omega), i_m10, iI_ck (by omega) (by omega), iI_cl (by omega), u1 (by omega), bd_some, iI_ck (by omega) (by omega), sm1]
    · intro f st hst
      refine ⟨st, hst, ?_⟩
      simp only [f_Seater_hopedBehind_L15]
      rw [if_pos (by rw [iI_le] <;> omega)]
  have key := lp (L := fun fz jz (sz : (Nat → Int32) × (Nat → Int32)) => f_Seater_hopedBehind_L2 (iI d) (iI p) ro hp hA fz (iI (jz : Int)) sz.1 sz.2) (n := p) (I := fun j st => d ≤ j ∧ VAL g' p j st.2 ∧ ∀ s, s < 2 ^ d → st.2 s = wo s) (Post := fun st => VAL g' p p st.2 ∧ ∀ s, s < 2 ^ d → st.2 s = wo s) ?_ ?_ fu d (gn, wo) hd (by have := fu_big; omega) ⟨Nat.le_refl _, h0, fun _ _ => rfl⟩
  · obtain ⟨st, ⟨k1, k2⟩, he⟩ := key
    have he2 : f_Seater_hopedBehind_L2 (iI d) (iI p) ro hp hA fu (iI d) gn wo = some st := he
    have h31 : ∀ p : Nat, p < 6 → ((1 : Int32) <<< (iI (p : Int) &&& 31)) - 1 = iI ((2 ^ p - 1 : Nat) : Int) := by decide +kernel
    have h32 : ∀ p : Nat, p < 6 → 2 ^ p - 1 < 32 := by decide
    have hlt := h32 p (by omega)
    unfold f_Seater_hopedBehind
    rw [he2, bd_some, h31 p (by omega), iI_ck hlt (by omega), iI_cl (by omega)]
    unfold VAL at k1
    rw [if_neg (by omega)] at k1
    exact ⟨_, rfl, k1, k2⟩
  · intro f j st hj hst
    obtain ⟨i1, i2, i3⟩ := hst
    obtain ⟨gn1, g1, g2⟩ := inner j i1 hj st.1
    obtain ⟨wo', s1, s2, s3⟩ := q_spread (gn := gn1) hp5 hj hG i2 g2
    left
    refine ⟨(gn1, wo'), ⟨by omega, s2, fun s hs => ?_⟩, ?_⟩
    · show wo' s = wo s
      rw [s3 s (Nat.lt_of_lt_of_le hs (Nat.pow_le_pow_right (by omega) i1)), i3 s hs]
    · simp only [f_Seater_hopedBehind_L2]
      rw [if_neg (by rw [iI_le] <;> omega), g1, bd_some, s1, bd_some]
      simp only [lt]
      rw [sm1]
  · intro f st hst
    refine ⟨(st.1, st.2), ⟨hst.2.1, hst.2.2⟩, ?_⟩
    simp only [f_Seater_hopedBehind_L2]
    rw [if_pos (by rw [iI_le] <;> omega)]
end
/-! all rows in their order: the first of the best -/
abbrev Bt : Type := Option (Nat × (Nat → Nat))
def up1 (V : (Nat → Nat) → Nat) (β : Bt) (r : Nat → Nat) : Bt := match β with
  | none => some (V r, r)
  | some b => if b.1 < V r then some (V r, r) else some b
def tkn (d : Nat) (r : Nat → Nat) (s : Nat) : Bool := (List.range d).any (fun q => r q == s)
def plS (f : (Nat → Nat) → Bt → Bt) (d : Nat) (r : Nat → Nat) : Nat → Bt → Bt
  | 0, β => β
  | s + 1, β => if tkn d r s then plS f d r s β else f (setN r d s) (plS f d r s β)
def plc (V : (Nat → Nat) → Nat) (ns : Nat) : Nat → Nat → (Nat → Nat) → Bt → Bt
  | 0, _, r, β => up1 V β r
  | m + 1, d, r, β => plS (plc V ns m (d + 1)) d r ns β
theorem tkn_iff {d s : Nat} {r : Nat → Nat} : tkn d r s = true ↔ ∃ q, q < d ∧ r q = s := by
  unfold tkn
  rw [List.any_eq_true]
  constructor
  · rintro ⟨q, h1, h2⟩; exact ⟨q, List.mem_range.mp h1, beq_iff_eq.mp h2⟩
  · rintro ⟨q, h1, h2⟩; exact ⟨q, List.mem_range.mpr h1, beq_iff_eq.mpr h2⟩
theorem vp_step {ns d s : Nat} {r : Nat → Nat} (hv : vp ns d r) (hs : s < ns) (ht : tkn d r s = false) : vp ns (d + 1) (setN r d s) := by
  have hno : ∀ q, q < d → r q ≠ s := fun q hq e => by
    have := tkn_iff.mpr ⟨q, hq, e⟩
    rw [ht] at this; cases this
  refine ⟨fun q hq => ?_, fun q q' hq hq' e => ?_⟩
  · by_cases c : q = d
    · subst c; rw [setN_s]; exact hs
    · rw [setN_n (by omega)]; exact hv.1 q (by omega)
  · by_cases c : q = d <;> by_cases c' : q' = d
    · omega
    · subst c; rw [setN_s, setN_n (by omega)] at e; exact absurd e.symm (hno q' (by omega))
    · subst c'; rw [setN_s, setN_n (by omega)] at e; exact absurd e (hno q (by omega))
    · rw [setN_n (by omega), setN_n (by omega)] at e; exact hv.2 q q' (by omega) (by omega) e
theorem plc_stay {V : (Nat → Nat) → Nat} {ns p v : Nat} {ρ : Nat → Nat} : ∀ m d r, d + m = p → vp ns d r → (∀ r', comp ns p d r r' → V r' ≤ v) → plc V ns m d r (some (v, ρ)) = some (v, ρ) := by
  intro m
  induction m with
  | zero =>
    intro d r hd hv h
    have : d = p := by omega
    subst this
    have := h r ⟨fun _ _ => rfl, hv⟩
    rw [plc]
    unfold up1
    simp only
    rw [if_neg (by omega)]
  | succ m ih =>
    intro d r hd hv h
    rw [plc]
    have : ∀ s, s ≤ ns → plS (plc V ns m (d + 1)) d r s (some (v, ρ)) = some (v, ρ) := by
      intro s
      induction s with
      | zero => intro _; rfl
      | succ s ihs =>
        intro hs
        rw [plS, ihs (by omega)]
        cases ht : tkn d r s
        · simp only [Bool.false_eq_true, if_false]
          refine ih (d + 1) (setN r d s) (by omega) (vp_step hv (by omega) ht) (fun r' hr' => h r' ⟨fun q hq => ?_, hr'.2⟩)
          rw [hr'.1 q (by omega), setN_n hq]
        · simp only [if_true]
    exact this ns (Nat.le_refl _)
