/-! the board that is told, on both sides -/
def bX (nm rnm : Nat → Int64) (up uy tp se on ot ki ye sa rse ron rot rye rki run rma rtr : Nat → Int32) (csl csw cqc rsl rsw rqc : Int32) (S O T K Y U M R : Nat → Nat) (ns p n fb u r fd : Nat) : Prop :=
  (∀ i, i < p → WR (nm i) (rnm i)) ∧ cv se on ot ki ye sa S O T K Y z0 p n ∧ (ar rse p S ∧ ar ron n O ∧ ar rot n T ∧ ar rye n Y ∧ ar rki n K) ∧
  (∀ i, i < u → up i = iI (U i) ∧ uy i = iI (M i) ∧ run i = iI (U i) ∧ rma i = iI (M i) ∧ U i < n ∧ M i < 100) ∧ (∀ i, i < r → tp i = iI (R i) ∧ rtr i = iI (R i) ∧ R i < n) ∧
  (p ≤ 5 ∧ u ≤ 4 ∧ r ≤ 6 ∧ fd < 64 ∧ fb < 2 ^ ns ∧ pc10 fb ≤ 4 ∧ ns ≤ 10) ∧ (∀ q, q < p → S q < ns) ∧ (∀ q q', q < p → q' < p → S q = S q' → q = q') ∧ pok O T p n ∧ (∀ k, k < n → K k < 3 ∧ Y k < 100) ∧
  (ns = 0 → p = 0 ∧ n = 0 ∧ fb = 0 ∧ u = 0 ∧ r = 0) ∧ (ns ≠ 0 → 2 ≤ ns ∧ ∃ sl sw qc : Nat, sl ≤ 3 ∧ 1 ≤ sw ∧ sw ≤ 9 ∧ qc ≤ 100 ∧ csl = iI (sl : Nat) ∧ rsl = iI (sl : Nat) ∧ csw = iI (sw : Nat) ∧ rsw = iI (sw : Nat) ∧ cqc = iI (qc : Nat) ∧ rqc = iI (qc : Nat))
theorem ar_ad {f : Nat → Int32} {g : Nat → Nat} {n v : Nat} (h : ar f n g) : ar (upd f n (iI (v : Nat))) (n + 1) (setN g n v) := by
  intro j hj
  unfold setN
  by_cases c : j = n
  · subst c; rw [upd_s, if_pos rfl]
  · rw [upd_n c, if_neg c]; exact h j (by omega)
theorem ar_ad0 {f : Nat → Int32} {n : Nat} (h : ar f n z0) : ar (upd f n 0) (n + 1) z0 := by
  intro j hj
  by_cases c : j = n
  · subst c; rw [upd_s]; rfl
  · rw [upd_n c]; exact h j (by omega)
theorem ul_s (f : Nat → Int64) (k : Nat) (x : Int64) : vp_updL f k x k = x := by simp [vp_updL]
theorem ul_n {f : Nat → Int64} {k j : Nat} {x : Int64} (h : j ≠ k) : vp_updL f k x j = f j := by simp [vp_updL, h]
section
variable {nm rnm : Nat → Int64} {up uy tp se on ot ki ye sa rse ron rot rye rki run rma rtr : Nat → Int32} {csl csw cqc rsl rsw rqc : Int32} {S O T K Y U M R : Nat → Nat} {ns p n fb u r fd : Nat}
theorem bX_table {ns' sl sw qc : Nat} (b : bX nm rnm up uy tp se on ot ki ye sa rse ron rot rye rki run rma rtr csl csw cqc rsl rsw rqc S O T K Y U M R 0 p n fb u r fd) (h : 2 ≤ ns' ∧ ns' ≤ 10 ∧ sl ≤ 3 ∧ 1 ≤ sw ∧ sw ≤ 9 ∧ qc ≤ 100) : bX nm rnm up uy tp se on ot ki ye sa rse ron rot rye rki run rma rtr (iI (sl : Nat)) (iI (sw : Nat)) (iI (qc : Nat)) (iI (sl : Nat)) (iI (sw : Nat)) (iI (qc : Nat)) S O T K Y U M R ns' p n fb u r fd := by
  obtain ⟨b1, b2, b3, b4, b5, ⟨b6, b7, b8, b9, b10, b11, b12⟩, b13, b14, b15, b16, b17, b18⟩ := b
  obtain ⟨c1, c2, c3, c4, c5⟩ := b17 rfl
  refine ⟨b1, b2, b3, b4, b5, ⟨b6, b7, b8, b9, ?_, b11, h.2.1⟩, fun q hq => by omega, b14, b15, b16, fun hh => by omega, fun _ => ⟨h.1, sl, sw, qc, h.2.2.1, h.2.2.2.1, h.2.2.2.2.1, h.2.2.2.2.2, rfl, rfl, rfl, rfl, rfl, rfl⟩⟩
  rw [c3]
  exact Nat.two_pow_pos _
theorem bX_person {wd wd' : Int64} {v : Nat} (b : bX nm rnm up uy tp se on ot ki ye sa rse ron rot rye rki run rma rtr csl csw cqc rsl rsw rqc S O T K Y U M R ns p n fb u r fd) (hp : p < 5) (hv : v < ns) (hne : ∀ q, q < p → S q ≠ v) (hW : WR wd wd') : bX (vp_updL nm p wd) (vp_updL rnm p wd') up uy tp (upd se p (iI (v : Nat))) on ot ki ye sa (upd rse p (iI (v : Nat))) ron rot rye rki run rma rtr csl csw cqc rsl rsw rqc (setN S p v) O T K Y U M R ns (p + 1) n fb u r fd := by
  obtain ⟨b1, ⟨d1, d2, d3, d4, d5, d6⟩, ⟨f1, f2, f3, f4, f5⟩, b4, b5, ⟨b6, b7, b8, b9, b10, b11, b12⟩, b13, b14, b15, b16, b17, b18⟩ := b
  refine ⟨fun i hi => ?_, ⟨ar_ad d1, d2, d3, d4, d5, d6⟩, ⟨ar_ad f1, f2, f3, f4, f5⟩, b4, b5, ⟨by omega, b7, b8, b9, b10, b11, b12⟩, fun q hq => ?_, fun q q' hq hq' hh => ?_, ⟨fun k hk => ?_, b15.2⟩, b16, fun hh => by omega, b18⟩
  · by_cases c : i = p
    · subst c; rw [ul_s, ul_s]; exact hW
    · rw [ul_n c, ul_n c]; exact b1 i (by omega)
  · unfold setN
    by_cases c : q = p
    · rw [if_pos c]; exact hv
    · rw [if_neg c]; exact b13 q (by omega)
  · unfold setN at hh
    by_cases c : q = p <;> by_cases c' : q' = p
    · omega
    · rw [if_pos c, if_neg c'] at hh
      exact absurd hh.symm (hne q' (by omega))
    · rw [if_neg c, if_pos c'] at hh
      exact absurd hh (hne q (by omega))
    · rw [if_neg c, if_neg c'] at hh
      exact b14 q q' (by omega) (by omega) hh
  · have := b15.1 k hk
    exact ⟨by omega, by omega, this.2.2⟩
theorem bX_fork {fb' : Nat} (b : bX nm rnm up uy tp se on ot ki ye sa rse ron rot rye rki run rma rtr csl csw cqc rsl rsw rqc S O T K Y U M R ns p n fb u r fd) (h0 : ns ≠ 0) (h1 : fb' < 2 ^ ns) (h2 : pc10 fb' ≤ 4) : bX nm rnm up uy tp se on ot ki ye sa rse ron rot rye rki run rma rtr csl csw cqc rsl rsw rqc S O T K Y U M R ns p n fb' u r fd := by
  obtain ⟨b1, b2, b3, b4, b5, ⟨b6, b7, b8, b9, b10, b11, b12⟩, b13, b14, b15, b16, b17, b18⟩ := b
  exact ⟨b1, b2, b3, b4, b5, ⟨b6, b7, b8, b9, h1, h2, b12⟩, b13, b14, b15, b16, fun hh => absurd hh h0, b18⟩
theorem bX_known {a c y k : Nat} (b : bX nm rnm up uy tp se on ot ki ye sa rse ron rot rye rki run rma rtr csl csw cqc rsl rsw rqc S O T K Y U M R ns p n fb u r fd) (h0 : ns ≠ 0) (ha : a < p) (hc : c < p) (hac : a ≠ c) (hno : ∀ k, k < n → isP O T a c k = false) (hy : y ≤ 99) (hk : k < 3) : bX nm rnm up uy tp se (upd on n (iI (a : Nat))) (upd ot n (iI (c : Nat))) (upd ki n (iI (k : Nat))) (upd ye n (iI (y : Nat))) (upd sa n 0) rse (upd ron n (iI (a : Nat))) (upd rot n (iI (c : Nat))) (upd rye n (iI (y : Nat))) (upd rki n (iI (k : Nat))) run rma rtr csl csw cqc rsl rsw rqc S (setN O n a) (setN T n c) (setN K n k) (setN Y n y) U M R ns p (n + 1) fb u r fd := by
  obtain ⟨b1, ⟨d1, d2, d3, d4, d5, d6⟩, ⟨f1, f2, f3, f4, f5⟩, b4, b5, ⟨b6, b7, b8, b9, b10, b11, b12⟩, b13, b14, b15, b16, b17, b18⟩ := b
  refine ⟨b1, ⟨d1, ar_ad d2, ar_ad d3, ar_ad d4, ar_ad d5, ar_ad0 d6⟩, ⟨f1, ar_ad f2, ar_ad f3, ar_ad f4, ar_ad f5⟩, fun i hi => ?_, fun i hi => ?_, ⟨b6, b7, b8, b9, b10, b11, b12⟩, b13, b14, pok_add b6 b15 ha hc hac hno, fun j hj => ?_, fun hh => absurd hh h0, b18⟩
  · obtain ⟨g1, g2, g3, g4, g5, g6⟩ := b4 i hi
    exact ⟨g1, g2, g3, g4, by omega, g6⟩
  · obtain ⟨g1, g2, g3⟩ := b5 i hi
    exact ⟨g1, g2, by omega⟩
  · unfold setN
    by_cases e : j = n
    · rw [if_pos e, if_pos e]; omega
    · rw [if_neg e, if_neg e]; exact b16 j (by omega)
theorem bX_unsure {k v : Nat} (b : bX nm rnm up uy tp se on ot ki ye sa rse ron rot rye rki run rma rtr csl csw cqc rsl rsw rqc S O T K Y U M R ns p n fb u r fd) (h0 : ns ≠ 0) (hu : u < 4) (hk : k < n) (hv : v ≤ 99) : bX nm rnm (upd up u (iI (k : Nat))) (upd uy u (iI (v : Nat))) tp se on ot ki ye sa rse ron rot rye rki (upd run u (iI (k : Nat))) (upd rma u (iI (v : Nat))) rtr csl csw cqc rsl rsw rqc S O T K Y (setN U u k) (setN M u v) R ns p n fb (u + 1) r fd := by
  obtain ⟨b1, b2, b3, b4, b5, ⟨b6, b7, b8, b9, b10, b11, b12⟩, b13, b14, b15, b16, b17, b18⟩ := b
  refine ⟨b1, b2, b3, fun i hi => ?_, b5, ⟨b6, by omega, b8, b9, b10, b11, b12⟩, b13, b14, b15, b16, fun hh => absurd hh h0, b18⟩
  unfold setN
  by_cases e : i = u
  · subst e; rw [upd_s, upd_s, upd_s, upd_s, if_pos rfl, if_pos rfl]; exact ⟨rfl, rfl, rfl, rfl, hk, by omega⟩
  · rw [upd_n e, upd_n e, upd_n e, upd_n e, if_neg e, if_neg e]; exact b4 i (by omega)
theorem bX_tried {k fd' : Nat} (b : bX nm rnm up uy tp se on ot ki ye sa rse ron rot rye rki run rma rtr csl csw cqc rsl rsw rqc S O T K Y U M R ns p n fb u r fd) (h0 : ns ≠ 0) (hr : r < 6) (hk : k < n) (hf : fd' < 64) : bX nm rnm up uy (upd tp r (iI (k : Nat))) se on ot ki ye sa rse ron rot rye rki run rma (upd rtr r (iI (k : Nat))) csl csw cqc rsl rsw rqc S O T K Y U M (setN R r k) ns p n fb u (r + 1) fd' := by
  obtain ⟨b1, b2, b3, b4, b5, ⟨b6, b7, b8, b9, b10, b11, b12⟩, b13, b14, b15, b16, b17, b18⟩ := b
  refine ⟨b1, b2, b3, b4, fun i hi => ?_, ⟨b6, b7, by omega, hf, b10, b11, b12⟩, b13, b14, b15, b16, fun hh => absurd hh h0, b18⟩
  unfold setN
  by_cases e : i = r
  · subst e; rw [upd_s, upd_s, if_pos rfl]; exact ⟨rfl, rfl, hk⟩
  · rw [upd_n e, upd_n e, if_neg e]; exact b5 i (by omega)
end
