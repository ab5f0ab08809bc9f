/-! seats for all -/
theorem free_seat {ns d : Nat} {r : Nat → Nat} (h : d < ns) : ∃ s, s < ns ∧ tkn d r s = false := by
  false_or_by_contra
  rename_i hn
  have hall : ∀ s, s < ns → ∃ q, q < d ∧ r q = s := by
    intro s hs
    cases ht : tkn d r s
    · exact absurd ⟨s, hs, ht⟩ hn
    · exact tkn_iff.mp ht
  have := len_rel (α := Nat) (β := Nat) (P := fun s q => q < d ∧ r q = s) (List.range ns) (List.range d) List.nodup_range (fun s hs => by
    obtain ⟨q, h1, h2⟩ := hall s (List.mem_range.mp hs)
    exact ⟨q, List.mem_range.mpr h1, h1, h2⟩) (fun a a' c h1 h2 => h1.2.symm.trans h2.2)
  rw [List.length_range, List.length_range] at this
  omega
theorem plc_some {V : (Nat → Nat) → Nat} {ns p : Nat} (hp : p ≤ ns) : ∀ m d r β, d + m = p → ∃ b, plc V ns m d r β = some b := by
  intro m
  induction m with
  | zero =>
    intro d r β _
    rw [plc]
    unfold up1
    cases β with
    | none => exact ⟨_, rfl⟩
    | some b => simp only; split <;> exact ⟨_, rfl⟩
  | succ m ih =>
    intro d r β hd
    obtain ⟨s0, hs0, ht⟩ := free_seat (r := r) (show d < ns by omega)
    have : ∀ s, s0 < s → ∃ b, plS (plc V ns m (d + 1)) d r s β = some b := by
      intro s
      induction s with
      | zero => intro h; omega
      | succ s ihs =>
        intro h
        rw [plS]
        by_cases c : s0 = s
        · subst c
          rw [ht]
          exact ih (d + 1) _ _ (by omega)
        · cases tkn d r s
          · exact ih (d + 1) _ _ (by omega)
          · exact ihs (by omega)
    rw [plc]
    exact this ns hs0
def seOK (O T K H : Nat → Nat) (fb sl n ns p : Nat) (br : Nat → Int32) (bw fr : Int32) : Prop := fr = 0 ∨ (fr = 1 ∧ bOK p br bw (plc (Vr O T K H fb sl n) ns p 0 z0 none))
section
variable {so on ot ki ye sa br ro pa hp hA sps fbs gn wo v x sp sb : Nat → Int32} {bw fr mm ms mc fB sB' : Int32} {S O T K Y Z : Nat → Nat} {p n fb ns sl : Nat}
theorem q_search (hc : cv so on ot ki ye sa S O T K Y Z p n) (ho : nok S O T K Y Z p n fb ns sl) (hns : 1 ≤ ns) (hse : seOK O T K (H0 K Y Z) fb sl n ns p br bw fr) : ∃ R, f_Seater_search (iI ns) (iI sl) (iI p) (iI fb) on ot ki ye sa (iI n) br ro pa hp hA sps fbs gn wo bw fr = some R ∧ bOK p R.1 R.2.2.2.2.2.2.2.2.2.1 (plc (Vr O T K (H0 K Y Z) fb sl n) ns p 0 z0 none) ∧ R.2.2.2.2.2.2.2.2.2.2 = 1 := by
  have p5 := ho.1.1
  have n10 := ho.1.2.1
  have ns10 := ho.1.2.2.1
  have hp0 := ho.2.2.2.2
  unfold f_Seater_search
  rcases hse with rfl | ⟨rfl, hb⟩
  · obtain ⟨pa', fbs', e1, t1, t2⟩ := q_setReaches (pa := pa) (fbs := fbs) hc ho hns
    obtain ⟨sps', e2, t3⟩ := q_setSlops (sps := sps) ns10 (Nat.lt_of_lt_of_le ho.1.2.2.2.1 (two10 ns10))
    have ht : tbl O T K (H0 K Y Z) p n fb ns sl pa' fbs' sps' := ⟨t1, t2, t3⟩
    obtain ⟨hp', hA', e3, hh⟩ := q_setHopes (hp := hp) (hA := hA) ht p5 n10 ns10
    have hw : VAL (gnR O T K (H0 K Y Z) fb sl n z0) p 0 (upd wo 0 (0 : Int32)) := by
      unfold VAL
      rw [if_pos hp0]
      intro s hs
      have : s = 0 := by simp at hs; exact hs
      subst this
      rw [upd_s]
      rfl
    obtain ⟨R, g1, g2, -, -⟩ := q_place ht p5 ho.2.1 ns10 hh p 0 (by omega) 8 (by omega) z0 0 none br ro gn (upd wo 0 (0 : Int32)) (-1 : Int32) ⟨fun q h => by omega, fun q q' h => by omega⟩ (by omega) (fun s hs => by simp [tkn]) (fun q h => by omega) hw i_m1
    have g1 : f_Seater_place 8 (0 : Int32) (0 : Int32) (iI ns) (iI p) br ro pa' hp' hA' sps' fbs' gn (upd wo (0 : Int32).toNatClampNeg (0 : Int32)) (-1 : Int32) = some R := g1
    have c0 : ∀ {α : Type} (k : Option α), ck (0 : Int32) 32 k = k := fun k => iI_ck (j := 0) (by omega) (by omega)
    rw [if_pos rfl, e1, bd_some, e2, bd_some, e3, bd_some, c0, g1, bd_some]
    exact ⟨_, rfl, g2, rfl⟩
  · rw [if_neg (by decide)]
    exact ⟨_, rfl, hb, rfl⟩
theorem q_pairsFed {pcs sls : Nat} (h1 : pcs ≤ 2) (h2 : sls ≤ 18) (h3 : pcs = 0 → sls = 0) : f_Seater_pairsFed (iI ((1000 * pcs - sls : Nat) : Int)) = some (iI (pcs : Nat)) := by
  unfold f_Seater_pairsFed
  have e : iI ((1000 * pcs - sls : Nat) : Int) + 1000 - 1 = iI ((1000 * pcs - sls + 999 : Nat) : Int) := by
    rw [show (1000 : Int32) = iI 1000 from rfl, i_1, iI_add, iI_sub]
    exact congrArg iI (by omega)
  rw [e, show (1000 : Int32) = iI ((1000 : Nat) : Int) from rfl, iI_div (by omega) (by omega) (by omega)]
  exact congrArg (fun z : Nat => some (iI (z : Int))) (by omega)
/-- both hold the first of the best rows -/
theorem e_best (hc : cv so on ot ki ye sa S O T K Y Z p n) (hv : xv v S O T K Y Z p n fb) (ho : nok S O T K Y Z p n fb ns sl) (hpn : p ≤ ns) (hse : seOK O T K (H0 K Y Z) fb sl n ns p br bw fr) : ∃ R R' pcs sls, f_Seater_search (iI ns) (iI sl) (iI p) (iI fb) on ot ki ye sa (iI n) br ro pa hp hA sps fbs gn wo bw fr = some R ∧ f_M_seats v x mm ms mc sp sb (iI ns) (iI sl) (iI p) = some R' ∧ seOK O T K (H0 K Y Z) fb sl n ns p R.1 R.2.2.2.2.2.2.2.2.2.1 R.2.2.2.2.2.2.2.2.2.2 ∧ pcs ≤ 2 ∧ sls ≤ 18 ∧ (pcs = 0 → sls = 0) ∧ R.2.2.2.2.2.2.2.2.2.1 = iI ((1000 * pcs - sls : Nat) : Int) ∧ R'.2.2.2.2.2.2.1 = iI ((2 * pcs : Nat) : Int) ∧ R'.2.2.2.2.2.2.2 = iI (sls : Nat) ∧ ∀ q, q < p → R.1 q = R'.2.2.2.2.2.1 q := by
  have hp0 := ho.2.2.2.2
  obtain ⟨R, g1, g2, g3⟩ := q_search (ro := ro) (pa := pa) (hp := hp) (hA := hA) (sps := sps) (fbs := fbs) (gn := gn) (wo := wo) hc ho (by omega) hse
  obtain ⟨R', g4, g5⟩ := r_seats (x := x) (sp := sp) (sb := sb) (mm := mm) (ms := ms) (mc := mc) hv ho (by omega) z0
  obtain ⟨b, hb⟩ := plc_some (V := Vr O T K (H0 K Y Z) fb sl n) hpn p 0 z0 none (by omega)
  have hs : seOK O T K (H0 K Y Z) fb sl n ns p R.1 R.2.2.2.2.2.2.2.2.2.1 R.2.2.2.2.2.2.2.2.2.2 := Or.inr ⟨g3, g2⟩
  rw [hb] at g2 g5
  obtain ⟨u1, u2, u3⟩ : R.2.2.2.2.2.2.2.2.2.1 = iI (b.1 : Nat) ∧ b.1 ≤ 5000 ∧ ∀ q, q < p → R.1 q = iI (b.2 q : Nat) := g2
  obtain ⟨pcs, sls, m1, m2, m3, m4, m5, m6, m7⟩ := g5
  exact ⟨R, R', pcs, sls, g1, g4, hs, m2, m3, m4, by rw [u1, m1], m5, m6, fun q hq => by rw [u3 q hq, m7 q hq]⟩
theorem e_seating (h : PT so on ot ki ye sa v S O T K Y Z p n fb ns sl) (hpn : p ≤ ns) (hse : seOK O T K (H0 K Y Z) fb sl n ns p br bw fr) : ∃ R R', f_X_seating (iI ns) (iI sl) (iI p) (iI fb) on ot ki ye sa (iI n) br ro pa hp hA sps fbs gn wo bw fr = some R ∧ f_M_seating v x mm ms mc sp sb (iI ns) (iI sl) (iI p) = some R' ∧ qz R.1 R.2.1 R'.1 R'.2.2.1 R'.2.2.2.1 ∧ seOK O T K (H0 K Y Z) fb sl n ns p R.2.2.1 R.2.2.2.2.2.2.2.2.2.2.2.1 R.2.2.2.2.2.2.2.2.2.2.2.2 := by
  obtain ⟨hc, hv, ho⟩ := h
  obtain ⟨R, R', pcs, sls, g1, g2, g3, g4, g5, g6, g7, g8, g9, g10⟩ := e_best (ro := ro) (pa := pa) (hp := hp) (hA := hA) (sps := sps) (fbs := fbs) (gn := gn) (wo := wo) (x := x) (sp := sp) (sb := sb) (mm := mm) (ms := ms) (mc := mc) hc hv ho hpn hse
  unfold f_X_seating f_M_seating
  rw [q_noTable ho.2.2.2.2 ho.1.1, bd_some, if_pos rfl, g1, g2, bd_some, bd_some, g7, q_pairsFed g4 g5 g6, bd_some, g8]
  refine ⟨_, _, rfl, rfl, qz_0 ?_, ?_⟩
  · show (2 : Int32) * iI (pcs : Nat) = iI ((2 * pcs : Nat) : Int)
    rw [i_2, iI_mul]; rfl
  · rw [g7] at g3; exact g3
theorem e_seatSlops (h : PT so on ot ki ye sa v S O T K Y Z p n fb ns sl) (hpn : p ≤ ns) (hse : seOK O T K (H0 K Y Z) fb sl n ns p br bw fr) : ∃ R R', f_X_seatSlops (iI ns) (iI sl) (iI p) (iI fb) on ot ki ye sa (iI n) br ro pa hp hA sps fbs gn wo bw fr = some R ∧ f_M_seatSlops v x mm ms mc sp sb (iI ns) (iI sl) (iI p) = some R' ∧ qz R.1 R.2.1 R'.1 R'.2.2.1 R'.2.2.2.1 ∧ seOK O T K (H0 K Y Z) fb sl n ns p R.2.2.1 R.2.2.2.2.2.2.2.2.2.2.2.1 R.2.2.2.2.2.2.2.2.2.2.2.2 := by
  obtain ⟨hc, hv, ho⟩ := h
  obtain ⟨R, R', pcs, sls, g1, g2, g3, g4, g5, g6, g7, g8, g9, g10⟩ := e_best (ro := ro) (pa := pa) (hp := hp) (hA := hA) (sps := sps) (fbs := fbs) (gn := gn) (wo := wo) (x := x) (sp := sp) (sb := sb) (mm := mm) (ms := ms) (mc := mc) hc hv ho hpn hse
  unfold f_X_seatSlops f_M_seatSlops
  rw [q_noTable ho.2.2.2.2 ho.1.1, bd_some, if_pos rfl, g1, g2, bd_some, bd_some, g7, q_pairsFed g4 g5 g6, bd_some, g9]
  refine ⟨_, _, rfl, rfl, qz_0 ?_, ?_⟩
  · show iI (pcs : Nat) * (1000 : Int32) - iI ((1000 * pcs - sls : Nat) : Int) = iI (sls : Nat)
    rw [show (1000 : Int32) = iI 1000 from rfl, iI_mul, iI_sub]
    exact congrArg iI (by omega)
  · rw [g7] at g3; exact g3
theorem e_seatAt (h : PT so on ot ki ye sa v S O T K Y Z p n fb ns sl) (hpn : p ≤ ns) (hse : seOK O T K (H0 K Y Z) fb sl n ns p br bw fr) (l : Int32) : ∃ R R', f_X_seatAt l (iI ns) (iI sl) (iI p) (iI fb) on ot ki ye sa (iI n) br ro pa hp hA sps fbs gn wo bw fr = some R ∧ f_M_seatAt l v x mm ms mc sp sb fB sB' (iI ns) (iI sl) (iI p) = some R' ∧ qz R.1 R.2.1 R'.1 R'.2.2.1 R'.2.2.2.1 ∧ seOK O T K (H0 K Y Z) fb sl n ns p R.2.2.1 R.2.2.2.2.2.2.2.2.2.2.2.1 R.2.2.2.2.2.2.2.2.2.2.2.2 := by
  obtain ⟨hc, hv, ho⟩ := h
  have p5 := ho.1.1
  unfold f_X_seatAt f_M_seatAt
  rcases pers p5 l with ⟨q, hq, rfl, e1, e2⟩ | ⟨e1, e2⟩
  · obtain ⟨R, R', pcs, sls, g1, g2, g3, g4, g5, g6, g7, g8, g9, g10⟩ := e_best (ro := ro) (pa := pa) (hp := hp) (hA := hA) (sps := sps) (fbs := fbs) (gn := gn) (wo := wo) (x := x) (sp := sp) (sb := sb) (mm := mm) (ms := ms) (mc := mc) hc hv ho hpn hse
    rw [e1, e2, bd_some, bd_some, if_pos rfl, if_neg (by decide), g1, g2, bd_some, bd_some, iI_ck (by omega) (by omega), iI_ck (by omega) (by omega), iI_cl (by omega), g10 q hq]
    exact ⟨_, _, rfl, rfl, qz_0 rfl, g3⟩
  · rw [e1, e2]; exact ⟨_, _, rfl, rfl, qz_1, hse⟩
end
