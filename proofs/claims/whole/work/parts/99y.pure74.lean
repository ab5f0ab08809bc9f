/-! table(n), on both sides -/
def f_M_tabD_L104 (m_x : Nat → Int32) : Nat → (Int32) → (Nat → Int32) → Option ((Nat → Int32))
  | 0, _, _ => none
  | n + 1, l2, m_v => if (58 : Int32) ≤ l2 then some m_v else ck l2 58 (ck l2 58 (lt (l2 + (1 : Int32) : Int32) (fun x2 => f_M_tabD_L104 m_x n x2 (upd m_v l2.toNatClampNeg (m_x l2.toNatClampNeg)))))
def f_M_tabD (m_v : Nat → Int32) (m_x : Nat → Int32) (tb_people : Int32) (tb_pairs : Int32) (tb_forks : Int32) (tb_unsures : Int32) (tb_seat : Nat → Int32) (tb_one : Nat → Int32) (tb_other : Nat → Int32) (tb_years : Nat → Int32) (tb_kind : Nat → Int32) (tb_unsure : Nat → Int32) (tb_may : Nat → Int32) : Option (Int32 × Int32 × Int32 × (Nat → Int32) × (Nat → Int32) × Int32 × Int32) := bd (f_M_asTold (0 : Int32) m_x tb_pairs tb_forks tb_unsures tb_seat tb_one tb_other tb_years tb_kind tb_unsure tb_may) (fun x1 => bd (f_M_tabD_L104 x1 fu (0 : Int32) m_v) (fun x3 => bd (f_M_good tb_people) (fun x4 => some (x4.1, x4.2.1, x4.2.2, x3, x1, (0 : Int32), (0 : Int32)))))
theorem r_tabL {x v : Nat → Int32} : ∃ v', f_M_tabD_L104 x fu (0 : Int32) v = some v' ∧ ∀ j, j < 58 → v' j = x j := by
  have key := lp (L := fun f j (st : Nat → Int32) => f_M_tabD_L104 x f (iI (j : Int)) st) (n := 58) (I := fun j st => ∀ k, k < j → st k = x k) (Post := fun r => ∀ k, k < 58 → r k = x k) (fun f j st hj hst => ?_) (fun f st hst => ?_) fu 0 v (by omega) (by have := fu_big; omega) (fun j hj => by omega)
  · obtain ⟨r, hr, he⟩ := key
    exact ⟨r, he, hr⟩
  · refine Or.inl ⟨upd st j (x j), fun k hk => ?_, ?_⟩
    · by_cases c : k = j
      · subst c; exact upd_s _ _ _
      · rw [upd_n c]; exact hst k (by omega)
    · simp only [f_M_tabD_L104, lt]
      rw [show (58 : Int32) = iI 58 from rfl]
      simp (disch := omega) only [iI_le, iI_ck, iI_cl, i_1, iI_add]
      rw [if_neg (by omega)]
      rfl
  · refine ⟨st, hst, ?_⟩
    simp only [f_M_tabD_L104]
    rw [show (58 : Int32) = iI 58 from rfl]
    simp (disch := omega) only [iI_le]
    rw [if_pos (by omega)]
theorem inj_le : ∀ {ns p : Nat} {S : Nat → Nat}, (∀ q, q < p → S q < ns) → (∀ q q', q < p → q' < p → S q = S q' → q = q') → p ≤ ns := by
  intro ns
  induction ns with
  | zero =>
    intro p S h1 h2
    by_cases c : p = 0
    · omega
    · have := h1 0 (by omega); omega
  | succ ns ih =>
    intro p S h1 h2
    by_cases c : ∃ q, q < p ∧ S q = ns
    · obtain ⟨q0, c1, c2⟩ := c
      have := ih (p := p - 1) (S := fun q => if q = q0 then S (p - 1) else S q) (fun q hq => by
        have a1 := h1 q (by omega)
        have a2 := h1 (p - 1) (by omega)
        by_cases d : q = q0
        · rw [if_pos d]
          by_cases d2 : S (p - 1) = ns
          · have := h2 (p - 1) q0 (by omega) c1 (by omega)
            omega
          · omega
        · rw [if_neg d]
          by_cases d2 : S q = ns
          · exact absurd (h2 q q0 (by omega) c1 (by omega)) d
          · omega) (fun q q' hq hq' hh => by
        by_cases d : q = q0 <;> by_cases d' : q' = q0
        · omega
        · simp only [if_pos d, if_neg d'] at hh
          have := h2 (p - 1) q' (by omega) (by omega) hh
          omega
        · simp only [if_neg d, if_pos d'] at hh
          have := h2 q (p - 1) (by omega) (by omega) hh
          omega
        · simp only [if_neg d, if_neg d'] at hh
          exact h2 q q' (by omega) (by omega) hh)
      omega
    · have := ih (p := p) (S := S) (fun q hq => by
        have a1 := h1 q hq
        have a2 : S q ≠ ns := fun hh => c ⟨q, hq, hh⟩
        omega) h2
      omega
theorem r_tabD {bup buy btp bso bon bot bki bye bsa tse ton tot tye tki tun tma ttr x v : Nat → Int32} {S O T K Y U M R : Nat → Nat} {p n u r fd fb ns sl : Nat} (h : bR bup buy btp bso bon bot bki bye bsa tse ton tot tye tki tun tma ttr S O T K Y U M R p n u r fd fb ns sl) : ∃ v' x', f_M_tabD v x (iI (p : Nat)) (iI (n : Nat)) (iI (fb : Nat)) (iI (u : Nat)) tse ton tot tye tki tun tma = some (iI (p : Nat), 0, -1, v', x', 0, 0) ∧ xP v' (S, O, T, K, Y, z0, n, 0) p fb := by
  obtain ⟨x', e1, h1, h2⟩ := r_asTold (set := 0) (x := x) h (by omega)
  rw [yU_0] at h1
  obtain ⟨v', e2, h3⟩ := r_tabL (x := x') (v := v)
  refine ⟨v', x', ?_, xv_cp h.2.1.1.1 h.2.1.1.2.1 h1 h3, by rw [h3 57 (by omega)]; exact h2⟩
  unfold f_M_tabD f_M_good
  rw [show f_M_asTold 0 x (iI (n : Nat)) (iI (fb : Nat)) (iI (u : Nat)) tse ton tot tye tki tun tma = some x' from e1, bd_some, e2, bd_some, bd_some]
theorem e_tabX {x_imageCount x_lastFault x_lastPlace pa_faultNumber pa_faultPlace rd_end rd_next rd_sort rd_start rd_value to_seats to_slack to_sawInches to_quarrelChance to_people to_forkBits to_unsure to_tried to_triedFedBits tf_pairs tf_gone bd_seats bd_slack bd_sawInches bd_quarrelChance bd_people bd_forkBits bd_unsure bd_tried bd_triedFedBits bf_pairs bf_gone nw_pairs nw_gone se_fresh ps_count : Int32} {pa_names : Nat → Int64} {rd_word : Int64} {to_unsurePair to_unsureYears to_triedPair tf_seatOf tf_one tf_other tf_kind tf_years tf_sawn bd_unsurePair bd_unsureYears bd_triedPair bf_seatOf bf_one bf_other bf_kind bf_years bf_sawn nw_seatOf nw_one nw_other nw_kind nw_years nw_sawn : Nat → Int32} {t : Nat → Int32} {e len : Nat} {w nu0 pl0 : Int32} {wd0 : Int64} {rse ron rot rye rki run rma rtr : Nat → Int32} {rnm : Nat → Int64} (ht : byOK t) (hl : len ≤ 800) (he : e ≤ len) : ∃ Rr G Q', f_X_table (iI (e : Nat)) x_imageCount x_lastFault x_lastPlace pa_names pa_faultNumber pa_faultPlace t (iI (len : Nat)) rd_end rd_next rd_sort rd_start rd_value rd_word to_unsurePair to_unsureYears to_triedPair to_seats to_slack to_sawInches to_quarrelChance to_people to_forkBits to_unsure to_tried to_triedFedBits tf_seatOf tf_one tf_other tf_kind tf_years tf_sawn tf_pairs tf_gone bd_unsurePair bd_unsureYears bd_triedPair bd_seats bd_slack bd_sawInches bd_quarrelChance bd_people bd_forkBits bd_unsure bd_tried bd_triedFedBits bf_seatOf bf_one bf_other bf_kind bf_years bf_sawn bf_pairs bf_gone nw_seatOf nw_one nw_other nw_kind nw_years nw_sawn nw_pairs nw_gone se_fresh ps_count = some Rr ∧ f_M_goesOn t (iI (e : Nat)) 0 0 pl0 nu0 wd0 = some G ∧ f_M_readAll t (iI (e : Nat)) G.1 G.2.1 G.2.2.1 G.2.2.2.1 0 w G.2.2.2.2 0 0 0 0 0 0 0 0 0 0 rse ron rot rye rki run rma rtr rnm = some Q' ∧ Rr.2.2.2.2.2.2.2.2.1 = 0 ∧
    ((0 < Q'.2.2.2.2.1 ∧ Rr.1 = -1 ∧ Rr.2.2.1 = 4 ∧ Rr.2.2.2.1 = Q'.2.2.2.2.1 ∧ Rr.2.2.2.2.1 = Q'.2.2.2.2.2.1 ∧ Rr.2.1 = x_imageCount ∧ Rr.2.2.2.2.2.2.2.2.2.2.2.2.2.2.2.2.2.2.2.2.2.2.2.2.2.2.2.2.2.2.2.2.2.2.2.1 = bd_unsurePair ∧ Rr.2.2.2.2.2.2.2.2.2.2.2.2.2.2.2.2.2.2.2.2.2.2.2.2.2.2.2.2.2.2.2.2.2.2.2.2.1 = bd_unsureYears ∧ Rr.2.2.2.2.2.2.2.2.2.2.2.2.2.2.2.2.2.2.2.2.2.2.2.2.2.2.2.2.2.2.2.2.2.2.2.2.2.1 = bd_triedPair ∧ Rr.2.2.2.2.2.2.2.2.2.2.2.2.2.2.2.2.2.2.2.2.2.2.2.2.2.2.2.2.2.2.2.2.2.2.2.2.2.2.1 = bd_seats ∧ Rr.2.2.2.2.2.2.2.2.2.2.2.2.2.2.2.2.2.2.2.2.2.2.2.2.2.2.2.2.2.2.2.2.2.2.2.2.2.2.2.1 = bd_slack ∧ Rr.2.2.2.2.2.2.2.2.2.2.2.2.2.2.2.2.2.2.2.2.2.2.2.2.2.2.2.2.2.2.2.2.2.2.2.2.2.2.2.2.1 = bd_sawInches ∧ Rr.2.2.2.2.2.2.2.2.2.2.2.2.2.2.2.2.2.2.2.2.2.2.2.2.2.2.2.2.2.2.2.2.2.2.2.2.2.2.2.2.2.1 = bd_quarrelChance ∧ Rr.2.2.2.2.2.2.2.2.2.2.2.2.2.2.2.2.2.2.2.2.2.2.2.2.2.2.2.2.2.2.2.2.2.2.2.2.2.2.2.2.2.2.1 = bd_people ∧ Rr.2.2.2.2.2.2.2.2.2.2.2.2.2.2.2.2.2.2.2.2.2.2.2.2.2.2.2.2.2.2.2.2.2.2.2.2.2.2.2.2.2.2.2.1 = bd_forkBits ∧ Rr.2.2.2.2.2.2.2.2.2.2.2.2.2.2.2.2.2.2.2.2.2.2.2.2.2.2.2.2.2.2.2.2.2.2.2.2.2.2.2.2.2.2.2.2.1 = bd_unsure ∧ Rr.2.2.2.2.2.2.2.2.2.2.2.2.2.2.2.2.2.2.2.2.2.2.2.2.2.2.2.2.2.2.2.2.2.2.2.2.2.2.2.2.2.2.2.2.2.1 = bd_tried ∧ Rr.2.2.2.2.2.2.2.2.2.2.2.2.2.2.2.2.2.2.2.2.2.2.2.2.2.2.2.2.2.2.2.2.2.2.2.2.2.2.2.2.2.2.2.2.2.2.1 = bd_triedFedBits ∧ Rr.2.2.2.2.2.2.2.2.2.2.2.2.2.2.2.2.2.2.2.2.2.2.2.2.2.2.2.2.2.2.2.2.2.2.2.2.2.2.2.2.2.2.2.2.2.2.2.1 = bf_seatOf ∧ Rr.2.2.2.2.2.2.2.2.2.2.2.2.2.2.2.2.2.2.2.2.2.2.2.2.2.2.2.2.2.2.2.2.2.2.2.2.2.2.2.2.2.2.2.2.2.2.2.2.1 = bf_one ∧ Rr.2.2.2.2.2.2.2.2.2.2.2.2.2.2.2.2.2.2.2.2.2.2.2.2.2.2.2.2.2.2.2.2.2.2.2.2.2.2.2.2.2.2.2.2.2.2.2.2.2.1 = bf_other ∧ Rr.2.2.2.2.2.2.2.2.2.2.2.2.2.2.2.2.2.2.2.2.2.2.2.2.2.2.2.2.2.2.2.2.2.2.2.2.2.2.2.2.2.2.2.2.2.2.2.2.2.2.1 = bf_kind ∧ Rr.2.2.2.2.2.2.2.2.2.2.2.2.2.2.2.2.2.2.2.2.2.2.2.2.2.2.2.2.2.2.2.2.2.2.2.2.2.2.2.2.2.2.2.2.2.2.2.2.2.2.2.1 = bf_years ∧ Rr.2.2.2.2.2.2.2.2.2.2.2.2.2.2.2.2.2.2.2.2.2.2.2.2.2.2.2.2.2.2.2.2.2.2.2.2.2.2.2.2.2.2.2.2.2.2.2.2.2.2.2.2.1 = bf_sawn ∧ Rr.2.2.2.2.2.2.2.2.2.2.2.2.2.2.2.2.2.2.2.2.2.2.2.2.2.2.2.2.2.2.2.2.2.2.2.2.2.2.2.2.2.2.2.2.2.2.2.2.2.2.2.2.2.1 = bf_pairs ∧ Rr.2.2.2.2.2.2.2.2.2.2.2.2.2.2.2.2.2.2.2.2.2.2.2.2.2.2.2.2.2.2.2.2.2.2.2.2.2.2.2.2.2.2.2.2.2.2.2.2.2.2.2.2.2.2.1 = bf_gone ∧ Rr.2.2.2.2.2.2.2.2.2.2.2.2.2.2.2.2.2.2.2.2.2.2.2.2.2.2.2.2.2.2.2.2.2.2.2.2.2.2.2.2.2.2.2.2.2.2.2.2.2.2.2.2.2.2.2.1 = nw_seatOf ∧ Rr.2.2.2.2.2.2.2.2.2.2.2.2.2.2.2.2.2.2.2.2.2.2.2.2.2.2.2.2.2.2.2.2.2.2.2.2.2.2.2.2.2.2.2.2.2.2.2.2.2.2.2.2.2.2.2.2.1 = nw_one ∧ Rr.2.2.2.2.2.2.2.2.2.2.2.2.2.2.2.2.2.2.2.2.2.2.2.2.2.2.2.2.2.2.2.2.2.2.2.2.2.2.2.2.2.2.2.2.2.2.2.2.2.2.2.2.2.2.2.2.2.1 = nw_other ∧ Rr.2.2.2.2.2.2.2.2.2.2.2.2.2.2.2.2.2.2.2.2.2.2.2.2.2.2.2.2.2.2.2.2.2.2.2.2.2.2.2.2.2.2.2.2.2.2.2.2.2.2.2.2.2.2.2.2.2.2.1 = nw_kind ∧ Rr.2.2.2.2.2.2.2.2.2.2.2.2.2.2.2.2.2.2.2.2.2.2.2.2.2.2.2.2.2.2.2.2.2.2.2.2.2.2.2.2.2.2.2.2.2.2.2.2.2.2.2.2.2.2.2.2.2.2.2.1 = nw_years ∧ Rr.2.2.2.2.2.2.2.2.2.2.2.2.2.2.2.2.2.2.2.2.2.2.2.2.2.2.2.2.2.2.2.2.2.2.2.2.2.2.2.2.2.2.2.2.2.2.2.2.2.2.2.2.2.2.2.2.2.2.2.2.1 = nw_sawn ∧ Rr.2.2.2.2.2.2.2.2.2.2.2.2.2.2.2.2.2.2.2.2.2.2.2.2.2.2.2.2.2.2.2.2.2.2.2.2.2.2.2.2.2.2.2.2.2.2.2.2.2.2.2.2.2.2.2.2.2.2.2.2.2.1 = nw_pairs ∧ Rr.2.2.2.2.2.2.2.2.2.2.2.2.2.2.2.2.2.2.2.2.2.2.2.2.2.2.2.2.2.2.2.2.2.2.2.2.2.2.2.2.2.2.2.2.2.2.2.2.2.2.2.2.2.2.2.2.2.2.2.2.2.2.1 = nw_gone ∧ Rr.2.2.2.2.2.2.2.2.2.2.2.2.2.2.2.2.2.2.2.2.2.2.2.2.2.2.2.2.2.2.2.2.2.2.2.2.2.2.2.2.2.2.2.2.2.2.2.2.2.2.2.2.2.2.2.2.2.2.2.2.2.2.2.1 = se_fresh ∧ Rr.2.2.2.2.2.2.2.2.2.2.2.2.2.2.2.2.2.2.2.2.2.2.2.2.2.2.2.2.2.2.2.2.2.2.2.2.2.2.2.2.2.2.2.2.2.2.2.2.2.2.2.2.2.2.2.2.2.2.2.2.2.2.2.2 = ps_count) ∨
    (∃ (S O T K Y U M R : Nat → Nat) (ns sl sw qc p n fb u r fd : Nat), (2 ≤ ns ∧ p ≤ ns ∧ 1 ≤ sw ∧ sw ≤ 9 ∧ qc ≤ 100) ∧ bR Rr.2.2.2.2.2.2.2.2.2.2.2.2.2.2.2.2.2.2.2.2.2.2.2.2.2.2.2.2.2.2.2.2.2.2.2.1 Rr.2.2.2.2.2.2.2.2.2.2.2.2.2.2.2.2.2.2.2.2.2.2.2.2.2.2.2.2.2.2.2.2.2.2.2.2.1 Rr.2.2.2.2.2.2.2.2.2.2.2.2.2.2.2.2.2.2.2.2.2.2.2.2.2.2.2.2.2.2.2.2.2.2.2.2.2.1 Rr.2.2.2.2.2.2.2.2.2.2.2.2.2.2.2.2.2.2.2.2.2.2.2.2.2.2.2.2.2.2.2.2.2.2.2.2.2.2.2.2.2.2.2.2.2.2.2.1 Rr.2.2.2.2.2.2.2.2.2.2.2.2.2.2.2.2.2.2.2.2.2.2.2.2.2.2.2.2.2.2.2.2.2.2.2.2.2.2.2.2.2.2.2.2.2.2.2.2.1 Rr.2.2.2.2.2.2.2.2.2.2.2.2.2.2.2.2.2.2.2.2.2.2.2.2.2.2.2.2.2.2.2.2.2.2.2.2.2.2.2.2.2.2.2.2.2.2.2.2.2.1 Rr.2.2.2.2.2.2.2.2.2.2.2.2.2.2.2.2.2.2.2.2.2.2.2.2.2.2.2.2.2.2.2.2.2.2.2.2.2.2.2.2.2.2.2.2.2.2.2.2.2.2.1 Rr.2.2.2.2.2.2.2.2.2.2.2.2.2.2.2.2.2.2.2.2.2.2.2.2.2.2.2.2.2.2.2.2.2.2.2.2.2.2.2.2.2.2.2.2.2.2.2.2.2.2.2.1 Rr.2.2.2.2.2.2.2.2.2.2.2.2.2.2.2.2.2.2.2.2.2.2.2.2.2.2.2.2.2.2.2.2.2.2.2.2.2.2.2.2.2.2.2.2.2.2.2.2.2.2.2.2.1 Q'.2.2.2.2.2.2.2.2.2.2.2.2.2.2.2.2.2.1 Q'.2.2.2.2.2.2.2.2.2.2.2.2.2.2.2.2.2.2.1 Q'.2.2.2.2.2.2.2.2.2.2.2.2.2.2.2.2.2.2.2.1 Q'.2.2.2.2.2.2.2.2.2.2.2.2.2.2.2.2.2.2.2.2.1 Q'.2.2.2.2.2.2.2.2.2.2.2.2.2.2.2.2.2.2.2.2.2.1 Q'.2.2.2.2.2.2.2.2.2.2.2.2.2.2.2.2.2.2.2.2.2.2.1 Q'.2.2.2.2.2.2.2.2.2.2.2.2.2.2.2.2.2.2.2.2.2.2.2.1 Q'.2.2.2.2.2.2.2.2.2.2.2.2.2.2.2.2.2.2.2.2.2.2.2.2.1 S O T K Y U M R p n u r fd fb ns sl ∧ cP Rr.2.2.2.2.2.2.2.2.2.2.2.2.2.2.2.2.2.2.2.2.2.2.2.2.2.2.2.2.2.2.2.2.2.2.2.2.2.2.2.2.2.2.2.2.2.2.2.2.2.2.2.2.2.2.2.1 Rr.2.2.2.2.2.2.2.2.2.2.2.2.2.2.2.2.2.2.2.2.2.2.2.2.2.2.2.2.2.2.2.2.2.2.2.2.2.2.2.2.2.2.2.2.2.2.2.2.2.2.2.2.2.2.2.2.1 Rr.2.2.2.2.2.2.2.2.2.2.2.2.2.2.2.2.2.2.2.2.2.2.2.2.2.2.2.2.2.2.2.2.2.2.2.2.2.2.2.2.2.2.2.2.2.2.2.2.2.2.2.2.2.2.2.2.2.1 Rr.2.2.2.2.2.2.2.2.2.2.2.2.2.2.2.2.2.2.2.2.2.2.2.2.2.2.2.2.2.2.2.2.2.2.2.2.2.2.2.2.2.2.2.2.2.2.2.2.2.2.2.2.2.2.2.2.2.2.1 Rr.2.2.2.2.2.2.2.2.2.2.2.2.2.2.2.2.2.2.2.2.2.2.2.2.2.2.2.2.2.2.2.2.2.2.2.2.2.2.2.2.2.2.2.2.2.2.2.2.2.2.2.2.2.2.2.2.2.2.2.1 Rr.2.2.2.2.2.2.2.2.2.2.2.2.2.2.2.2.2.2.2.2.2.2.2.2.2.2.2.2.2.2.2.2.2.2.2.2.2.2.2.2.2.2.2.2.2.2.2.2.2.2.2.2.2.2.2.2.2.2.2.2.1 Rr.2.2.2.2.2.2.2.2.2.2.2.2.2.2.2.2.2.2.2.2.2.2.2.2.2.2.2.2.2.2.2.2.2.2.2.2.2.2.2.2.2.2.2.2.2.2.2.2.2.2.2.2.2.2.2.2.2.2.2.2.2.1 Rr.2.2.2.2.2.2.2.2.2.2.2.2.2.2.2.2.2.2.2.2.2.2.2.2.2.2.2.2.2.2.2.2.2.2.2.2.2.2.2.2.2.2.2.2.2.2.2.2.2.2.2.2.2.2.2.2.2.2.2.2.2.2.1 (S, O, T, K, Y, z0, n, 0) p ∧ okP (S, O, T, K, Y, z0, n, 0) p fb ns sl ∧ Rr.1 = iI (p : Nat) ∧ Rr.2.1 = 0 ∧ Rr.2.2.1 = 0 ∧ Rr.2.2.2.1 = 0 ∧ Rr.2.2.2.2.1 = -1 ∧ Rr.2.2.2.2.2.2.2.2.2.2.2.2.2.2.2.2.2.2.2.2.2.2.2.2.2.2.2.2.2.2.2.2.2.2.2.2.2.2.2.2.2.2.2.2.2.2.2.2.2.2.2.2.2.2.2.2.2.2.2.2.2.2.2.1 = 0 ∧ Rr.2.2.2.2.2.2.2.2.2.2.2.2.2.2.2.2.2.2.2.2.2.2.2.2.2.2.2.2.2.2.2.2.2.2.2.2.2.2.2.2.2.2.2.2.2.2.2.2.2.2.2.2.2.2.2.2.2.2.2.2.2.2.2.2 = 0 ∧ Rr.2.2.2.2.2.2.2.2.2.2.2.2.2.2.2.2.2.2.2.2.2.2.2.2.2.2.2.2.2.2.2.2.2.2.2.2.2.2.1 = iI (ns : Nat) ∧ Rr.2.2.2.2.2.2.2.2.2.2.2.2.2.2.2.2.2.2.2.2.2.2.2.2.2.2.2.2.2.2.2.2.2.2.2.2.2.2.2.1 = iI (sl : Nat) ∧ Rr.2.2.2.2.2.2.2.2.2.2.2.2.2.2.2.2.2.2.2.2.2.2.2.2.2.2.2.2.2.2.2.2.2.2.2.2.2.2.2.2.1 = iI (sw : Nat) ∧ Rr.2.2.2.2.2.2.2.2.2.2.2.2.2.2.2.2.2.2.2.2.2.2.2.2.2.2.2.2.2.2.2.2.2.2.2.2.2.2.2.2.2.1 = iI (qc : Nat) ∧ Rr.2.2.2.2.2.2.2.2.2.2.2.2.2.2.2.2.2.2.2.2.2.2.2.2.2.2.2.2.2.2.2.2.2.2.2.2.2.2.2.2.2.2.1 = iI (p : Nat) ∧ Rr.2.2.2.2.2.2.2.2.2.2.2.2.2.2.2.2.2.2.2.2.2.2.2.2.2.2.2.2.2.2.2.2.2.2.2.2.2.2.2.2.2.2.2.1 = iI (fb : Nat) ∧ Rr.2.2.2.2.2.2.2.2.2.2.2.2.2.2.2.2.2.2.2.2.2.2.2.2.2.2.2.2.2.2.2.2.2.2.2.2.2.2.2.2.2.2.2.2.1 = iI (u : Nat) ∧ Rr.2.2.2.2.2.2.2.2.2.2.2.2.2.2.2.2.2.2.2.2.2.2.2.2.2.2.2.2.2.2.2.2.2.2.2.2.2.2.2.2.2.2.2.2.2.1 = iI (r : Nat) ∧ Rr.2.2.2.2.2.2.2.2.2.2.2.2.2.2.2.2.2.2.2.2.2.2.2.2.2.2.2.2.2.2.2.2.2.2.2.2.2.2.2.2.2.2.2.2.2.2.1 = iI (fd : Nat) ∧ Rr.2.2.2.2.2.2.2.2.2.2.2.2.2.2.2.2.2.2.2.2.2.2.2.2.2.2.2.2.2.2.2.2.2.2.2.2.2.2.2.2.2.2.2.2.2.2.2.2.2.2.2.2.2.1 = iI (n : Nat) ∧ Rr.2.2.2.2.2.2.2.2.2.2.2.2.2.2.2.2.2.2.2.2.2.2.2.2.2.2.2.2.2.2.2.2.2.2.2.2.2.2.2.2.2.2.2.2.2.2.2.2.2.2.2.2.2.2.1 = 0 ∧ Q'.2.2.2.2.2.2.2.1 = iI (ns : Nat) ∧ Q'.2.2.2.2.2.2.2.2.1 = iI (sl : Nat) ∧ Q'.2.2.2.2.2.2.2.2.2.1 = iI (sw : Nat) ∧ Q'.2.2.2.2.2.2.2.2.2.2.1 = iI (qc : Nat) ∧ Q'.2.2.2.2.2.2.2.2.2.2.2.1 = iI (p : Nat) ∧ Q'.2.2.2.2.2.2.2.2.2.2.2.2.1 = iI (n : Nat) ∧ Q'.2.2.2.2.2.2.2.2.2.2.2.2.2.1 = iI (fb : Nat) ∧ Q'.2.2.2.2.2.2.2.2.2.2.2.2.2.2.1 = iI (u : Nat) ∧ Q'.2.2.2.2.2.2.2.2.2.2.2.2.2.2.2.1 = iI (r : Nat) ∧ Q'.2.2.2.2.2.2.2.2.2.2.2.2.2.2.2.2.1 = iI (fd : Nat) ∧ Q'.2.2.2.2.1 = 0)) := by
  obtain ⟨Q, G, Q', q1, q2, q3, q4⟩ := e_readAll (e := e) (w := w) (nu0 := nu0) (pl0 := pl0) (wd0 := wd0) (nm := pa_names) (rnm := rnm) (up := to_unsurePair) (uy := to_unsureYears) (tp := to_triedPair) (se := tf_seatOf) (on := tf_one) (ot := tf_other) (ki := tf_kind) (ye := tf_years) (sa := tf_sawn) (rse := rse) (ron := ron) (rot := rot) (rye := rye) (rki := rki) (run := run) (rma := rma) (rtr := rtr) (csl := to_slack) (csw := to_sawInches) (cqc := to_quarrelChance) ht (by omega)
  unfold f_X_table
  rw [if_neg (show ¬ iI (e : Nat) < 0 by rw [i_0, iI_lt] <;> omega), if_pos (show iI (e : Nat) ≤ iI (len : Nat) by rw [iI_le] <;> omega), bd_some, if_neg Bool.false_ne_true, q1, bd_some]
  rcases q4 with h | ⟨h1, h2, h3, h4, h5⟩
  · obtain ⟨nx, so, st, va, wd, sp, so', pl, nu, wd', nm, rnm, up, uy, tp, se, on, ot, ki, ye, sa, rse, ron, rot, rye, rki, run, rma, rtr, csl, csw, cqc, rsl, rsw, rqc, S, O, T, K, Y, U, M, R, ns, p, n, fb, u, r, fd, rfl, rfl, hp, b⟩ := h
    rw [if_neg (show ¬ (1 : Int32) = 0 by decide)]
    unfold f_Board_takeFrom f_Now_takeFrom
    rw [bd_some, bd_some, bd_some]
    obtain ⟨b1, ⟨d1, d2, d3, d4, d5, d6⟩, ⟨f1, f2, f3, f4, f5⟩, b4, b5, ⟨b6, b7, b8, b9, b10, b11, b12⟩, b13, b14, b15, b16, b17, b18⟩ := b
    have n10 := pok_10 b6 b15
    have n0 : ns ≠ 0 := fun hh => by have := (b17 hh).1; omega
    obtain ⟨z1, sl, sw, qc, s1, s2, s3, s4, rfl, rfl, rfl, rfl, rfl, rfl⟩ := b18 n0
    have ok : nok S O T K Y z0 p n fb ns sl := ⟨⟨b6, n10, b12, b10, b13, fun k hk => by
      have g1 := b15.1 k hk
      have g2 := b16 k hk
      exact ⟨g1.1, g1.2.1, g1.2.2, g2.1, by omega, by show 0 < 10000; omega⟩⟩, b15, fun k hk => ⟨Nat.zero_le _, by have g2 := b16 k hk; omega⟩, by omega, hp⟩
    have c1 := ar_cpN (g := bd_unsurePair) b7 (show ar up u U from fun i hi => (b4 i hi).1)
    have c2 := ar_cpN (g := bd_unsureYears) b7 (show ar uy u M from fun i hi => (b4 i hi).2.1)
    have c3 := ar_cpN (g := bd_triedPair) b8 (show ar tp r R from fun i hi => (b5 i hi).1)
    have e1 := ar_cpN (g := bf_seatOf) b6 d1
    have e2 := ar_cpN (g := bf_one) n10 d2
    have e3 := ar_cpN (g := bf_other) n10 d3
    have e4 := ar_cpN (g := bf_kind) n10 d4
    have e5 := ar_cpN (g := bf_years) n10 d5
    have e6 := ar_cpN (g := bf_sawn) n10 d6
    refine ⟨_, _, _, rfl, q2, q3, rfl, Or.inr ⟨S, O, T, K, Y, U, M, R, ns, sl, sw, qc, p, n, fb, u, r, fd, ⟨z1, inj_le b13 b14, s2, s3, s4⟩, ⟨⟨e1, e2, e3, e4, e5, e6⟩, ok, ⟨f1, f2, f3, f4, f5⟩, b7, fun i hi => ?_, b8, fun i hi => ?_, b9⟩, ⟨⟨ar_cpN b6 e1, ar_cpN n10 e2, ar_cpN n10 e3, ar_cpN n10 e4, ar_cpN n10 e5, ar_cpN n10 e6⟩, rfl, rfl⟩, ⟨ok, by show 0 ≤ 999; omega, fun k hk => by have g2 := b16 k hk; show Y k ≤ 99 + 0; omega⟩, rfl, rfl, rfl, rfl, rfl, rfl, rfl, rfl, rfl, rfl, rfl, rfl, rfl, rfl, rfl, rfl, rfl, rfl, rfl, rfl, rfl, rfl, rfl, rfl, rfl, rfl, rfl, rfl, rfl⟩⟩
    · obtain ⟨g1, g2, g3, g4, g5, g6⟩ := b4 i hi
      exact ⟨c1 i hi, c2 i hi, g3, g4, g5, by omega⟩
    · obtain ⟨g1, g2, g3⟩ := b5 i hi
      exact ⟨c3 i hi, g2, g3⟩
  · rw [if_pos h1]
    unfold f_X_refused
    rw [bd_some]
    refine ⟨_, _, _, rfl, q2, q3, rfl, Or.inl ⟨h3, rfl, rfl, h4, h5, rfl, rfl, rfl, rfl, rfl, rfl, rfl, rfl, rfl, rfl, rfl, rfl, rfl, rfl, rfl, rfl, rfl, rfl, rfl, rfl, rfl, rfl, rfl, rfl, rfl, rfl, rfl, rfl, rfl, rfl, rfl⟩⟩
