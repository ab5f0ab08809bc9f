/-! the reference's loop over all rows -/
abbrev SM : Type := (Nat → Int32) × Int32 × Int32 × Int32 × (Nat → Int32) × (Nat → Int32) × Int32 × Int32
def LSt (ns sl p F d : Nat) (st : SM) : Option SM := f_M_seats_L25 (iI ns) (iI sl) (iI p) F (iI d) st.1 st.2.1 st.2.2.1 st.2.2.2.1 st.2.2.2.2.1 st.2.2.2.2.2.1 st.2.2.2.2.2.2.1 st.2.2.2.2.2.2.2
def sOK (x0 : Nat → Int32) (p d : Nat) (r : Nat → Nat) (c : Nat) (β : Bt) (st : SM) : Prop := (∀ q, q < d → st.1 q = iI (r q : Nat)) ∧ st.1 d = iI (c : Nat) ∧ XR x0 st.1 ∧ mOK p st.2.2.2.2.2.1 st.2.2.2.2.2.2.1 st.2.2.2.2.2.2.2 β
section
variable {x0 : Nat → Int32} {S O T K Y Z : Nat → Nat} {p n fb ns sl : Nat}
/-- seat after seat -/
theorem r_seatsJ {f : (Nat → Nat) → Bt → Bt} {d W : Nat} {r : Nat → Nat} (one : ∀ c, c < ns → tkn d r c = false → ∀ β0 st, sOK x0 p d r c (plS f d r c β0) st → ∃ k st', k ≤ W ∧ (∀ F, LSt ns sl p (k + F) d st = LSt ns sl p F d st') ∧ sOK x0 p d r (nfN ns d r (c + 1)) (plS f d r (c + 1) β0) st') : ∀ j from_, from_ + j = ns → ∀ β0 st, sOK x0 p d r (nfN ns d r from_) (plS f d r from_ β0) st → ∃ k st', k ≤ j * W ∧ (∀ F, LSt ns sl p (k + F) d st = LSt ns sl p F d st') ∧ sOK x0 p d r ns (plS f d r ns β0) st' := by
  intro j
  induction j using Nat.strongRecOn with
  | ind j ih =>
    intro from_ hf β0 st h
    obtain ⟨n1, n2, n3, n4⟩ := nf_spec (d := d) (r := r) (show from_ ≤ ns by omega) f β0
    by_cases e : nfN ns d r from_ = ns
    · refine ⟨0, st, by omega, fun F => by rw [Nat.zero_add], ?_⟩
      rw [← n3, e] at h
      exact h
    · have hc : nfN ns d r from_ < ns := by omega
      have ht := n4 hc
      rw [← n3] at h
      generalize nfN ns d r from_ = c at *
      obtain ⟨k, st', k1, k2, k3⟩ := one c hc ht β0 st h
      obtain ⟨k', st'', q1, q2, q3⟩ := ih (ns - (c + 1)) (by omega) (c + 1) (by omega) β0 st' k3
      refine ⟨k + k', st'', ?_, fun F => by rw [Nat.add_assoc, k2, q2], q3⟩
      have h1 : (ns - (c + 1)) * W + W ≤ j * W := by
        have : (ns - (c + 1) + 1) * W ≤ j * W := Nat.mul_le_mul_right _ (by omega)
        rwa [Nat.succ_mul] at this
      omega
theorem lt_eq {α β : Type} (x : α) (k : α → Option β) : lt x k = k x := rfl
theorem s_note {F d c nf : Nat} {st : SM} {R : Int32 × Int32 × Int32 × (Nat → Int32) × (Nat → Int32) × Int32 × Int32} (hd : d < 5) (hdp : d + 1 = p) (hc : c < ns) (ns10 : ns ≤ 10) (h2 : st.1 d = iI (c : Nat)) (g1 : f_M_notesSeats st.1 st.2.2.2.2.1 st.2.2.2.2.2.1 st.2.2.2.2.2.2.1 st.2.2.2.2.2.2.2 (iI ns) (iI sl) (iI p) = some R) (hnf : f_M_nextFree (iI d) (iI ((c + 1 : Nat) : Int)) st.1 (iI ns) = some (iI (nf : Nat))) : LSt ns sl p (F + 1) d st = LSt ns sl p F d (upd st.1 d (iI (nf : Nat)), R) := by
  unfold LSt
  rw [f_M_seats_L25, if_neg (by rw [i_0, iI_lt] <;> omega), iI_ck (by omega) (by omega), iI_cl (by omega), h2, if_pos (by rw [iI_lt] <;> omega), sm1, if_pos (by rw [iI_le] <;> omega), g1, bd_some, iI_ck (by omega) (by omega), sm1, hnf, bd_some, iI_ck (by omega) (by omega)]
theorem s_down {F d c nf : Nat} {st : SM} (hd : d < 5) (hdp : d + 1 < p) (hp5 : p ≤ 5) (hc : c < ns) (ns10 : ns ≤ 10) (h2 : st.1 d = iI (c : Nat)) (hnf : f_M_nextFree (iI ((d + 1 : Nat) : Int)) (0 : Int32) st.1 (iI ns) = some (iI (nf : Nat))) : LSt ns sl p (F + 1) d st = LSt ns sl p F (d + 1) (upd st.1 (d + 1) (iI (nf : Nat)), st.2) := by
  unfold LSt
  rw [f_M_seats_L25, if_neg (by rw [i_0, iI_lt] <;> omega), iI_ck (by omega) (by omega), iI_cl (by omega), h2, if_pos (by rw [iI_lt] <;> omega), sm1, if_neg (by rw [iI_le] <;> omega), lt_eq, hnf, bd_some, iI_ck (by omega) (by omega), iI_cl (by omega)]
theorem s_pop {F d c nf : Nat} {st : SM} (hd : d + 1 < 5) (hc : c < ns) (ns10 : ns ≤ 10) (h1 : st.1 d = iI (c : Nat)) (h2 : st.1 (d + 1) = iI (ns : Nat)) (hnf : f_M_nextFree (iI d) (iI ((c + 1 : Nat) : Int)) st.1 (iI ns) = some (iI (nf : Nat))) : LSt ns sl p (F + 1) (d + 1) st = LSt ns sl p F d (upd st.1 d (iI (nf : Nat)), st.2) := by
  have e : iI ((d + 1 : Nat) : Int) + (-1) = iI (d : Int) := by rw [i_m1, iI_add]; congr 1; omega
  unfold LSt
  rw [f_M_seats_L25, if_neg (by rw [i_0, iI_lt] <;> omega), iI_ck (by omega) (by omega), iI_cl (by omega), h2, if_neg (by rw [iI_lt] <;> omega), lt_eq, e, if_neg (by rw [i_0, iI_lt] <;> omega), iI_ck (by omega) (by omega), iI_cl (by omega), h1, sm1, hnf, bd_some, iI_ck (by omega) (by omega)]
theorem r_seatsE (h0 : xv x0 S O T K Y Z p n fb) (ho : nok S O T K Y Z p n fb ns sl) : ∀ m d, d + (m + 1) = p → ∀ r, vp ns d r → ∀ j from_, from_ + j = ns → ∀ β0 st, sOK x0 p d r (nfN ns d r from_) (plS (plc (Vr O T K (H0 K Y Z) fb sl n) ns m (d + 1)) d r from_ β0) st → ∃ k st', k ≤ j * (2 + TT ns m) ∧ (∀ F, LSt ns sl p (k + F) d st = LSt ns sl p F d st') ∧ sOK x0 p d r ns (plS (plc (Vr O T K (H0 K Y Z) fb sl n) ns m (d + 1)) d r ns β0) st' := by
  have p5 := ho.1.1
  have n10 := ho.1.2.1
  have ns10 := ho.1.2.2.1
  intro m
  induction m with
  | zero =>
    intro d hd r hv
    have hdp : d + 1 = p := by omega
    refine r_seatsJ (W := 2 + TT ns 0) (fun c hc ht β0 st h => ?_)
    obtain ⟨h1, h2, h3, h4⟩ := h
    have hv2 := vp_step hv hc ht
    rw [hdp] at hv2
    have hr2 : ∀ q, q < p → st.1 q = iI (setN r d c q : Nat) := fun q hq => by
      by_cases e2 : q = d
      · subst e2; rw [h2, setN_s]
      · rw [setN_n (by omega)]; exact h1 q (by omega)
    obtain ⟨R, g1, g2⟩ := r_notes (sp := st.2.2.2.2.1) h0 ho h3 hv2 hr2 h4
    have hnf := r_nextFree (x := st.1) (c := c + 1) (show d ≤ 5 by omega) ns10 (by omega) h1 hv.1
    refine ⟨1, (upd st.1 d (iI (nfN ns d r (c + 1) : Nat)), R), by omega, fun F => ?_, ⟨fun q hq => ?_, upd_s _ _ _, XR_upd h3 (by omega), ?_⟩⟩
    · rw [Nat.add_comm 1 F]
      exact s_note (by omega) hdp hc ns10 h2 g1 hnf
    · show upd st.1 d _ q = _
      rw [upd_n (by omega)]; exact h1 q hq
    · rw [plS, ht]
      exact g2
  | succ m ih =>
    intro d hd r hv
    refine r_seatsJ (W := 2 + TT ns (m + 1)) (fun c hc ht β0 st h => ?_)
    obtain ⟨h1, h2, h3, h4⟩ := h
    have hv2 := vp_step hv hc ht
    have hr2 : ∀ q, q < d + 1 → st.1 q = iI (setN r d c q : Nat) := fun q hq => by
      by_cases e2 : q = d
      · subst e2; rw [h2, setN_s]
      · rw [setN_n (by omega)]; exact h1 q (by omega)
    have hnf := r_nextFree (x := st.1) (c := 0) (show d + 1 ≤ 5 by omega) ns10 (by omega) hr2 hv2.1
    have hnf : f_M_nextFree (iI ((d + 1 : Nat) : Int)) (0 : Int32) st.1 (iI ns) = some (iI (nfN ns (d + 1) (setN r d c) 0 : Nat)) := hnf
    obtain ⟨k, st', k1, k2, l1, l2, l3, l4⟩ := ih (d + 1) (by omega) (setN r d c) hv2 ns 0 (by omega) (plS (plc (Vr O T K (H0 K Y Z) fb sl n) ns (m + 1) (d + 1)) d r c β0) (upd st.1 (d + 1) (iI (nfN ns (d + 1) (setN r d c) 0 : Nat)), st.2) ⟨fun q hq => by show upd st.1 _ _ q = _; rw [upd_n (by omega)]; exact hr2 q hq, upd_s _ _ _, XR_upd h3 (by omega), h4⟩
    have hd1 : st'.1 d = iI (c : Nat) := by rw [l1 d (by omega), setN_s]
    have hr3 : ∀ q, q < d → st'.1 q = iI (r q : Nat) := fun q hq => by rw [l1 q (by omega), setN_n hq]
    have hnf2 := r_nextFree (x := st'.1) (c := c + 1) (show d ≤ 5 by omega) ns10 (by omega) hr3 hv.1
    refine ⟨1 + k + 1, (upd st'.1 d (iI (nfN ns d r (c + 1) : Nat)), st'.2), ?_, fun F => ?_, ⟨fun q hq => ?_, upd_s _ _ _, XR_upd l3 (by omega), ?_⟩⟩
    · rw [TT]; omega
    · rw [show 1 + k + 1 + F = (k + (F + 1)) + 1 by omega, s_down (by omega) (by omega) p5 hc ns10 h2 hnf, k2]
      exact s_pop (by omega) hc ns10 hd1 l2 hnf2
    · show upd st'.1 d _ q = _
      rw [upd_n (by omega)]; exact hr3 q hq
    · rw [plS, ht]
      simp only [Bool.false_eq_true, if_false]
      rw [plc]
      exact l4
theorem TT_5 : ∀ ns : Nat, ns < 11 → ∀ m : Nat, m < 5 → ns * (2 + TT ns m) + 10 < 1000000 := by decide +kernel
theorem r_seats {v x sp sb : Nat → Int32} {mm ms mc : Int32} (hv : xv v S O T K Y Z p n fb) (ho : nok S O T K Y Z p n fb ns sl) (hns : 0 < ns) (r0 : Nat → Nat) : ∃ R, f_M_seats v x mm ms mc sp sb (iI ns) (iI sl) (iI p) = some R ∧ mOK p R.2.2.2.2.2.1 R.2.2.2.2.2.2.1 R.2.2.2.2.2.2.2 (plc (Vr O T K (H0 K Y Z) fb sl n) ns p 0 r0 none) := by
  have p5 := ho.1.1
  have ns10 := ho.1.2.2.1
  have hp0 := ho.2.2.2.2
  obtain ⟨x1, w1, w2, -⟩ := r_worksX (x := x) hv ho
  have hnf0 : nfN ns 0 r0 0 = 0 := by
    obtain ⟨n1, n2, -, n4⟩ := nf_spec (d := 0) (r := r0) (ns := ns) (c := 0) (by omega) (fun _ β => β) none
    unfold nfN
    rw [fst_first (P := fun s => !tkn 0 r0 s) (ns + 1) 0 0 (by omega) hns (by omega) rfl (fun i h1 h2 => by omega)]
  have hX : XR x1 (upd x1 0 (0 : Int32)) := XR_upd (fun k _ _ => rfl) (by omega)
  obtain ⟨k, st', k1, k2, l1, l2, l3, l4⟩ := r_seatsE w2 ho (p - 1) 0 (by omega) r0 ⟨fun q h => by omega, fun q q' h => by omega⟩ ns 0 (by omega) none (upd x1 0 (0 : Int32), mm, ms, mc, sp, sb, (-1 : Int32), (99999 : Int32)) ⟨fun q h => by omega, by rw [hnf0]; show upd x1 0 (0 : Int32) 0 = iI ((0 : Nat) : Int); rw [upd_s]; rfl, hX, ⟨i_m1, i_99999⟩⟩
  have hfu : ∃ F, fu = k + (F + 2) := ⟨fu - k - 2, by have := TT_5 ns (by omega) (p - 1) (by omega); have := fu_big; omega⟩
  obtain ⟨F, hF⟩ := hfu
  have hend : LSt ns sl p (F + 2) 0 st' = some (st'.1, st'.2.1, st'.2.2.1, st'.2.2.2.1, st'.2.2.2.2.1, st'.2.2.2.2.2.1, st'.2.2.2.2.2.2.1, st'.2.2.2.2.2.2.2) := by
    have e : iI ((0 : Nat) : Int) + (-1) = iI (-1) := by rw [i_m1, iI_add]; rfl
    unfold LSt
    rw [show F + 2 = (F + 1) + 1 by omega, f_M_seats_L25, if_neg (by rw [i_0, iI_lt] <;> omega), iI_ck (by omega) (by omega), iI_cl (by omega), l2, if_neg (by rw [iI_lt] <;> omega), lt_eq, e, if_pos (by decide), f_M_seats_L25, if_pos (by decide)]
  have h25 : f_M_seats_L25 (iI ns) (iI sl) (iI p) fu (0 : Int32) (upd x1 (0 : Int32).toNatClampNeg (0 : Int32)) mm ms mc sp sb (-1 : Int32) (99999 : Int32) = some (st'.1, st'.2.1, st'.2.2.1, st'.2.2.2.1, st'.2.2.2.2.1, st'.2.2.2.2.2.1, st'.2.2.2.2.2.2.1, st'.2.2.2.2.2.2.2) := by
    rw [← hend, ← k2 (F + 2), ← hF]
    rfl
  have c0 : ∀ (k : Option SM), ck (0 : Int32) 58 k = k := fun k => iI_ck (j := 0) (by omega) (by omega)
  unfold f_M_seats
  rw [w1, bd_some, c0, h25, bd_some]
  refine ⟨_, rfl, ?_⟩
  have e : plc (Vr O T K (H0 K Y Z) fb sl n) ns p 0 r0 none = plS (plc (Vr O T K (H0 K Y Z) fb sl n) ns (p - 1) (0 + 1)) 0 r0 ns none := by
    obtain ⟨p', rfl⟩ : ∃ p', p = p' + 1 := ⟨p - 1, by omega⟩
    rw [plc]
    rfl
  rw [e]
  exact l4
end
