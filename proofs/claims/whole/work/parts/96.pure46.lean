/-! the reference tries all rows -/
def nfN (ns d : Nat) (r : Nat → Nat) (from_ : Nat) : Nat := match fst (fun s => !tkn d r s) ns (ns + 1) from_ with
  | some k => k
  | none => ns
def TT (ns : Nat) : Nat → Nat
  | 0 => 0
  | m + 1 => ns * (2 + TT ns m)
def mOK (p : Nat) (sb : Nat → Int32) (fB sB' : Int32) (β : Bt) : Prop := match β with
  | none => fB = iI (-1) ∧ sB' = iI 99999
  | some b => ∃ pcs sls, b.1 = 1000 * pcs - sls ∧ pcs ≤ 2 ∧ sls ≤ 18 ∧ (pcs = 0 → sls = 0) ∧ fB = iI ((2 * pcs : Nat) : Int) ∧ sB' = iI (sls : Nat) ∧ ∀ q, q < p → sb q = iI (b.2 q : Nat)
section
variable {x : Nat → Int32} {O T K Y Z r : Nat → Nat} {p n fb ns sl d : Nat}
theorem r_isFree {s : Nat} (hd : d ≤ 5) (hs : s < 1000) (hr : ∀ q, q < d → x q = iI (r q : Nat)) (hb : ∀ q, q < d → r q < 1000) : f_M_isFree (iI s) (iI d) x = some (b01 (!tkn d r s)) := by
  have key := lp (L := fun fz jz (_ : Unit) => f_M_isFree_L2 (iI s) (iI d) x fz (iI (jz : Int))) (n := d) (I := fun j _ => ∀ q, q < j → r q ≠ s) (Post := fun o => (o = .inl 0 ∧ tkn d r s = true) ∨ (o = .inr () ∧ tkn d r s = false)) ?_ ?_ fu 0 () (by omega) (by have := fu_big; omega) (fun q h => by omega)
  · obtain ⟨o, ho, he⟩ := key
    have he2 : f_M_isFree_L2 (iI s) (iI d) x fu (0 : Int32) = some o := he
    unfold f_M_isFree
    rw [he2, bd_some]
    rcases ho with ⟨rfl, h⟩ | ⟨rfl, h⟩
    · rw [h]; rfl
    · rw [h]; rfl
  · intro f j st hj hst
    have hbj := hb j hj
    simp only [f_M_isFree_L2]
    rw [if_neg (by rw [iI_le] <;> omega), iI_ck (by omega) (by omega), iI_cl (by omega), hr j hj]
    by_cases e : r j = s
    · right
      rw [if_pos (by rw [e])]
      exact ⟨_, Or.inl ⟨rfl, tkn_iff.mpr ⟨j, hj, e⟩⟩, rfl⟩
    · left
      rw [if_neg (by rw [iI_eq] <;> omega)]
      refine ⟨(), fun q hq => ?_, ?_⟩
      · by_cases c : q = j
        · subst c; exact e
        · exact hst q (by omega)
      · simp only [lt]; rw [sm1]
  · intro f st hst
    refine ⟨.inr (), Or.inr ⟨rfl, ?_⟩, ?_⟩
    · cases h : tkn d r s
      · rfl
      · obtain ⟨q, h1, h2⟩ := tkn_iff.mp h
        exact absurd h2 (hst q h1)
    · simp only [f_M_isFree_L2]
      rw [if_pos (by rw [iI_le] <;> omega)]
theorem r_nextFree {c : Nat} (hd : d ≤ 5) (ns10 : ns ≤ 10) (hc : c ≤ ns) (hr : ∀ q, q < d → x q = iI (r q : Nat)) (hb : ∀ q, q < d → r q < ns) : f_M_nextFree (iI d) (iI c) x (iI ns) = some (iI (nfN ns d r c : Nat)) := by
  have key := lpF (L := fun f j => f_M_nextFree_L2 (iI d) x (iI ns) f (iI (j : Int))) (P := fun s => !tkn d r s) (n := ns) (A := fun j => iI (j : Int)) (B := iI (ns : Int)) (fun f j hj => by
      simp only [f_M_nextFree_L2]
      rw [if_neg (by rw [iI_le] <;> omega), r_isFree hd (by omega) hr (fun q hq => by have := hb q hq; omega), bd_some]
      simp only [b01_eq0, lt]
      rw [sm1]
      cases tkn d r j <;> rfl) (fun f => by
      simp only [f_M_nextFree_L2]
      rw [if_pos (by rw [iI_le] <;> omega)]
      rfl) fu c (ns + 1) hc (by have := fu_big; omega) (by omega)
  unfold f_M_nextFree nfN
  have key : f_M_nextFree_L2 (iI d) x (iI ns) fu (iI (c : Int)) = _ := key
  rw [key, bd_some]
  cases fst (fun s => !tkn d r s) ns (ns + 1) c <;> rfl
/-- seats that are taken are passed over -/
theorem nf_spec {c : Nat} (hc : c ≤ ns) (f : (Nat → Nat) → Bt → Bt) (β : Bt) : c ≤ nfN ns d r c ∧ nfN ns d r c ≤ ns ∧ plS f d r (nfN ns d r c) β = plS f d r c β ∧ (nfN ns d r c < ns → tkn d r (nfN ns d r c) = false) := by
  have skip : ∀ e, c ≤ e → (∀ i, c ≤ i → i < e → tkn d r i = true) → plS f d r e β = plS f d r c β := by
    intro e
    induction e with
    | zero => intro h _; have : c = 0 := by omega
              subst this; rfl
    | succ e ih =>
      intro h1 h2
      by_cases q : c = e + 1
      · subst q; rfl
      · rw [plS, h2 e (by omega) (by omega), if_pos rfl]
        exact ih (by omega) (fun i a b => h2 i a (by omega))
  unfold nfN
  cases hf : fst (fun s => !tkn d r s) ns (ns + 1) c with
  | some k =>
    obtain ⟨a1, a2, a3, a4⟩ := fst_some _ _ _ hf
    refine ⟨a1, Nat.le_of_lt a2, skip k a1 (fun i h1 h2 => by simpa using a4 i h1 h2), fun _ => by simpa using a3⟩
  | none =>
    have hn := fst_none _ _ (by omega) hf
    exact ⟨hc, Nat.le_refl _, skip ns hc (fun i h1 h2 => by simpa using hn i h1 h2), fun h => absurd h (Nat.lt_irrefl _)⟩
/-- all but the seats as it was -/
def XR (x0 x : Nat → Int32) : Prop := ∀ k, 5 ≤ k → k < 58 → x k = x0 k
theorem XR_upd {x0 x : Nat → Int32} {d : Nat} {v : Int32} (h : XR x0 x) (hd : d < 5) : XR x0 (upd x d v) := fun k h1 h2 => by rw [upd_n (by omega)]; exact h k h1 h2
theorem XR_xv {x0 x : Nat → Int32} {S : Nat → Nat} (hn : n ≤ 10) (h0 : xv x0 S O T K Y Z p n fb) (h : XR x0 x) (hr : ∀ q, q < p → x q = iI (r q : Nat)) : xv x r O T K Y Z p n fb := by
  obtain ⟨h1, h2, h3, h4⟩ := h0
  refine ⟨hr, fun k hk => ?_, by rw [h 55 (by omega) (by omega)]; exact h3, by rw [h 56 (by omega) (by omega)]; exact h4⟩
  obtain ⟨a, b, c, d, e⟩ := h2 k hk
  exact ⟨by rw [h _ (by omega) (by omega)]; exact a, by rw [h _ (by omega) (by omega)]; exact b, by rw [h _ (by omega) (by omega)]; exact c, by rw [h _ (by omega) (by omega)]; exact d, by rw [h _ (by omega) (by omega)]; exact e⟩
theorem r_notes {S : Nat → Nat} {x0 sp sb : Nat → Int32} {fB sB' : Int32} {β : Bt} (h0 : xv x0 S O T K Y Z p n fb) (ho : nok S O T K Y Z p n fb ns sl) (hX : XR x0 x) (hv : vp ns p r) (hr : ∀ q, q < p → x q = iI (r q : Nat)) (hm : mOK p sb fB sB' β) : ∃ R, f_M_notesSeats x sp sb fB sB' (iI ns) (iI sl) (iI p) = some R ∧ mOK p R.2.2.2.2.1 R.2.2.2.2.2.1 R.2.2.2.2.2.2 (up1 (Vr O T K (H0 K Y Z) fb sl n) β r) := by
  have p5 := ho.1.1
  have n10 := ho.1.2.1
  have ns10 := ho.1.2.2.1
  have hxv := XR_xv n10 h0 hX hr
  obtain ⟨sp', e1⟩ := r_matchB (sp := sp) hxv (xok_seat ho.1 hv.1) (show sl < 10 by have := ho.2.2.2.1; omega)
  obtain ⟨-, v1, v2, v3⟩ := V_eq (r := r) (K := K) (H := H0 K Y Z) (fb := fb) (sl := sl) p5 ho.2.1 (fun q hq => Nat.lt_of_lt_of_le (hv.1 q hq) ns10)
  have hV : Vr O T K (H0 K Y Z) fb sl n r = 1000 * pc10 (BS r O T K (H0 K Y Z) sl fb n).1 - (BS r O T K (H0 K Y Z) sl fb n).2 := rfl
  generalize hpc : pc10 (BS r O T K (H0 K Y Z) sl fb n).1 = pc at *
  generalize hsl : (BS r O T K (H0 K Y Z) sl fb n).2 = sls at *
  have hcp : ∃ sb', f_M_notesSeats_L48 x (iI p) fu (0 : Int32) sb = some sb' ∧ ∀ q, q < p → sb' q = iI (r q : Nat) := by
    have key := lp (L := fun fz jz (sz : (Nat → Int32)) => f_M_notesSeats_L48 x (iI p) fz (iI (jz : Int)) sz) (n := p) (I := fun j st => ∀ q, q < j → st q = iI (r q : Nat)) (Post := fun st => ∀ q, q < p → st q = iI (r q : Nat)) ?_ ?_ fu 0 sb (by omega) (by have := fu_big; omega) (fun q h => by omega)
    · obtain ⟨st, hst, he⟩ := key
      exact ⟨st, he, hst⟩
    · intro f j st hj hst
      left
      refine ⟨upd st j (iI (r j : Nat)), fun q hq => ?_, ?_⟩
      · by_cases e : q = j
        · subst e; exact upd_s _ _ _
        · rw [upd_n e]; exact hst q (by omega)
      · simp only [f_M_notesSeats_L48]
        rw [if_neg (by rw [iI_le] <;> omega), iI_ck (by omega) (by omega), iI_ck (by omega) (by omega), iI_cl (by omega), hr j hj]
        simp only [lt]
        rw [sm1]
    · intro f st hst
      refine ⟨st, hst, ?_⟩
      simp only [f_M_notesSeats_L48]
      rw [if_pos (by rw [iI_le] <;> omega)]
  obtain ⟨sb', c1, c2⟩ := hcp
  have hup1 : ∀ β, up1 (Vr O T K (H0 K Y Z) fb sl n) β r = (match β with | none => some (1000 * pc - sls, r) | some b => if b.1 < 1000 * pc - sls then some (1000 * pc - sls, r) else some b) := by
    intro β
    unfold up1
    rw [hV]
    cases β <;> rfl
  have taken : ∀ (cc : Option Bool), cc = some false → ∃ R, bd cc (fun b2 => if b2 = true then some (iI ((BS r O T K (H0 K Y Z) sl fb n).1 : Nat), iI (sls : Nat), iI (((lmS r O T K (H0 K Y Z) sl n).length + 1 : Nat) : Int), sp', sb, fB, sB') else bd (f_M_notesSeats_L48 x (iI p) fu (0 : Int32) sb) (fun x4 => some (iI ((BS r O T K (H0 K Y Z) sl fb n).1 : Nat), iI (sls : Nat), iI (((lmS r O T K (H0 K Y Z) sl n).length + 1 : Nat) : Int), sp', x4, iI ((2 * pc : Nat) : Int), iI (sls : Nat)))) = some R ∧ mOK p R.2.2.2.2.1 R.2.2.2.2.2.1 R.2.2.2.2.2.2 (some (1000 * pc - sls, r)) := by
    intro cc hcc
    rw [hcc, bd_some, c1]
    exact ⟨_, rfl, pc, sls, rfl, v2, v1, v3, rfl, rfl, c2⟩
  unfold f_M_notesSeats
  rw [e1, bd_some, hup1]
  cases β with
  | none =>
    obtain ⟨m1, m2⟩ : fB = iI (-1) ∧ sB' = iI 99999 := hm
    refine taken _ ?_
    rw [m1, if_neg (by rw [iI_lt] <;> omega), if_neg (by rw [iI_eq] <;> omega)]
  | some b =>
    obtain ⟨pcs, s0, m1, m2, m3, m4, m5, m6, m7⟩ : ∃ pcs sls, b.1 = 1000 * pcs - sls ∧ pcs ≤ 2 ∧ sls ≤ 18 ∧ (pcs = 0 → sls = 0) ∧ fB = iI ((2 * pcs : Nat) : Int) ∧ sB' = iI (sls : Nat) ∧ ∀ q, q < p → sb q = iI (b.2 q : Nat) := hm
    have stay : ∀ (cc : Option Bool), cc = some true → ∃ R, bd cc (fun b2 => if b2 = true then some (iI ((BS r O T K (H0 K Y Z) sl fb n).1 : Nat), iI (sls : Nat), iI (((lmS r O T K (H0 K Y Z) sl n).length + 1 : Nat) : Int), sp', sb, fB, sB') else bd (f_M_notesSeats_L48 x (iI p) fu (0 : Int32) sb) (fun x4 => some (iI ((BS r O T K (H0 K Y Z) sl fb n).1 : Nat), iI (sls : Nat), iI (((lmS r O T K (H0 K Y Z) sl n).length + 1 : Nat) : Int), sp', x4, iI ((2 * pc : Nat) : Int), iI (sls : Nat)))) = some R ∧ mOK p R.2.2.2.2.1 R.2.2.2.2.2.1 R.2.2.2.2.2.2 (some b) := by
      intro cc hcc
      rw [hcc, bd_some]
      exact ⟨_, rfl, pcs, s0, m1, m2, m3, m4, m5, m6, m7⟩
    simp only
    by_cases c : b.1 < 1000 * pc - sls
    · rw [if_pos c]
      refine taken _ ?_
      rw [m5, m6, if_neg (by rw [iI_lt] <;> omega)]
      by_cases c3 : pc = pcs
      · rw [if_pos (by rw [c3]), if_pos (by rw [iI_lt] <;> omega)]
      · rw [if_neg (by rw [iI_eq] <;> omega)]
    · rw [if_neg c]
      refine stay _ ?_
      rw [m5, m6]
      by_cases c2' : pc < pcs
      · rw [if_pos (by rw [iI_lt] <;> omega)]
      · have c3 : pc = pcs := by omega
        rw [if_neg (by rw [iI_lt] <;> omega), if_pos (by rw [c3]), if_neg (by rw [iI_lt] <;> omega)]
end
