/-! the class's search finds the first of the best rows -/
def bOK (p : Nat) (br : Nat → Int32) (bw : Int32) (β : Bt) : Prop := match β with
  | none => bw = iI (-1)
  | some b => bw = iI (b.1 : Nat) ∧ b.1 ≤ 5000 ∧ ∀ q, q < p → br q = iI (b.2 q : Nat)
section
variable {pa fbs sps hp hA : Nat → Int32} {O T K H : Nat → Nat} {p n fb ns sl : Nat}
theorem V_le (hp5 : p ≤ 5) (ho : pok O T p n) (ns10 : ns ≤ 10) {r : Nat → Nat} (hr : vp ns p r) : Vr O T K H fb sl n r ≤ 5000 := by
  rw [← (V_eq (K := K) (H := H) (fb := fb) (sl := sl) hp5 ho (fun q hq => Nat.lt_of_lt_of_le (hr.1 q hq) ns10)).1]
  have := Mw_bd (g := gnR O T K H fb sl n r) p (fun q c _ _ => gnV_le) (2 ^ p - 1)
  omega
theorem q_placeG {d s : Nat} {r : Nat → Nat} (ht : tbl O T K H p n fb ns sl pa fbs sps) (hp5 : p ≤ 5) (hn : n ≤ 10) (ns10 : ns ≤ 10) (hd : d < p) (hv : vp ns d r) (hs : s < ns) (hns : tkn d r s = false) (ro gn : Nat → Int32) (hro : ∀ q, q < d → ro q = iI (r q : Nat)) : ∃ gn', f_Seater_place_L90 (iI d) (iI s) ro pa sps fbs fu (0 : Int32) gn = some gn' ∧ ∀ q, q < d → gn' q = iI (gnR O T K H fb sl n (setN r d s) q d : Nat) := by
  have hno : ∀ q, q < d → r q ≠ s := fun q hq e => by
    have := tkn_iff.mpr ⟨q, hq, e⟩
    rw [hns] at this; cases this
  have key := lp (L := fun fz jz (sz : (Nat → Int32)) => f_Seater_place_L90 (iI d) (iI s) ro pa sps fbs fz (iI (jz : Int)) sz) (n := d) (I := fun j st => ∀ q, q < j → st q = iI (gnR O T K H fb sl n (setN r d s) q d : Nat)) (Post := fun st => ∀ q, q < d → st q = iI (gnR O T K H fb sl n (setN r d s) q d : Nat)) ?_ ?_ fu 0 gn (by omega) (by have := fu_big; omega) (fun q h => by omega)
  · obtain ⟨st, hst, he⟩ := key
    exact ⟨st, he, hst⟩
  · intro f j st hj hst
    have hg := q_gainOf ht hp5 hn ns10 hj hd (hv.1 j hj) hs (hno j hj)
    left
    refine ⟨upd st j (iI (gnR O T K H fb sl n (setN r d s) j d : Nat)), fun q hq => ?_, ?_⟩
    · by_cases e : q = j
      · subst e; exact upd_s _ _ _
      · rw [upd_n e]; exact hst q (by omega)
    · have hgn : gnR O T K H fb sl n (setN r d s) j d = gnV O T K H fb sl n j d (r j) s := by
        unfold gnR; rw [setN_n hj, setN_s]
      simp only [f_Seater_place_L90]
      rw [if_neg (by rw [iI_le] <;> omega), iI_ck (by omega) (by omega), iI_cl (by omega), hro j hj, hg, bd_some, iI_ck (by omega) (by omega), hgn]
      simp only [lt]
      rw [sm1]
  · intro f st hst
    refine ⟨st, hst, ?_⟩
    simp only [f_Seater_place_L90]
    rw [if_pos (by rw [iI_le] <;> omega)]
theorem VAL_r {r r' : Nat → Nat} {d : Nat} {wo : Nat → Int32} (hd : d < p) (h : ∀ q, q < d → r' q = r q) (hw : VAL (gnR O T K H fb sl n r) p d wo) : VAL (gnR O T K H fb sl n r') p d wo := by
  unfold VAL at hw ⊢
  rw [if_pos hd] at hw ⊢
  intro s hs
  rw [hw s hs, Mw_low (g' := gnR O T K H fb sl n r') d s s (fun _ _ => rfl) (fun q c hq hc => by unfold gnR; rw [h q (by omega), h c hc])]
theorem q_place (ht : tbl O T K H p n fb ns sl pa fbs sps) (hp5 : p ≤ 5) (ho : pok O T p n) (ns10 : ns ≤ 10) (hh : ∀ q c, q < c → c < p → hpOK O T K H fb sl n ns hp hA q c) : ∀ m d, d + m = p → ∀ f, m < f → ∀ (r : Nat → Nat) (tk : Nat) (β : Bt) (br ro gn wo : Nat → Int32) (bw : Int32), vp ns d r → tk < 1024 → (∀ s, s < ns → tk.testBit s = tkn d r s) → (∀ q, q < d → ro q = iI (r q : Nat)) → VAL (gnR O T K H fb sl n r) p d wo → bOK p br bw β → ∃ R, f_Seater_place f (iI d) (iI tk) (iI ns) (iI p) br ro pa hp hA sps fbs gn wo bw = some R ∧ bOK p R.1 R.2.2.2.2 (plc (Vr O T K H fb sl n) ns m d r β) ∧ (∀ q, q < d → R.2.1 q = iI (r q : Nat)) ∧ ∀ s, s < 2 ^ d → R.2.2.2.1 s = wo s := by
  have n10 := pok_10 hp5 ho
  have h31 : ∀ p : Nat, p < 6 → ((1 : Int32) <<< (iI (p : Int) &&& 31)) - 1 = iI ((2 ^ p - 1 : Nat) : Int) := by decide +kernel
  have h32 : ∀ p : Nat, p < 6 → 2 ^ p - 1 < 32 ∧ 2 ^ p - 1 < 2 ^ p := by decide
  intro m
  induction m with
  | zero =>
    intro d hd f hf r tk β br ro gn wo bw hv htk htb hro hw hb
    have hdp : d = p := by omega
    subst hdp
    obtain ⟨f, rfl⟩ : ∃ f', f = f' + 1 := ⟨f - 1, by omega⟩
    obtain ⟨Q, g1, g2, g3⟩ := q_hoped (gn := gn) hp5 ns10 (Nat.le_refl _) hh hv hro hw
    have hMw : Mw (hpG (gnR O T K H fb sl n r) hp hA r d) d (2 ^ d - 1) = Vr O T K H fb sl n r := by
      rw [← (V_eq (K := K) (H := H) (fb := fb) (sl := sl) hp5 ho (fun q hq => Nat.lt_of_lt_of_le (hv.1 q hq) ns10)).1]
      exact Mw_low d _ _ (fun _ _ => rfl) (fun q c _ hc => by unfold hpG; rw [if_pos hc])
    have hVle := V_le (K := K) (H := H) (fb := fb) (sl := sl) hp5 ho ns10 hv
    have hfull : Q.2.2 (2 ^ d - 1) = iI (Vr O T K H fb sl n r : Nat) := by
      rw [g3 _ (h32 d (by omega)).2]
      unfold VAL at hw
      rw [if_neg (by omega)] at hw
      rw [hw, (V_eq (K := K) (H := H) (fb := fb) (sl := sl) hp5 ho (fun q hq => Nat.lt_of_lt_of_le (hv.1 q hq) ns10)).1]
    rw [hMw] at g2
    rw [f_Seater_place, g1, bd_some, g2, plc]
    have hcp : ∀ q, q < d → va_cpy ro br 0 0 5 q = iI (r q : Nat) := fun q hq => by
      unfold va_cpy
      rw [if_pos (by omega)]
      have := hro q hq
      simpa using this
    have take : bw < iI (Vr O T K H fb sl n r : Nat) → ∃ R, (if bw < iI (Vr O T K H fb sl n r : Nat) then if iI (d : Int) < iI (d : Int) then bd (f_Seater_place_L61 (f_Seater_place f) (iI d) (iI tk) (iI ns) (iI d) pa hp hA sps fbs fu 0 br ro Q.2.1 Q.2.2 bw) (fun x10 => some (x10.1, x10.2.1, x10.2.2.1, x10.2.2.2.1, x10.2.2.2.2)) else ck (((1 : Int32) <<< (iI (d : Int) &&& 31)) - 1) 32 (lt (Q.2.2 (((1 : Int32) <<< (iI (d : Int) &&& 31)) - 1).toNatClampNeg) (fun x11 => some (va_cpy ro br 0 0 5, ro, Q.2.1, Q.2.2, x11))) else some (br, ro, Q.2.1, Q.2.2, bw)) = some R ∧ bOK d R.1 R.2.2.2.2 (some (Vr O T K H fb sl n r, r)) ∧ (∀ q, q < d → R.2.1 q = iI (r q : Nat)) ∧ ∀ s, s < 2 ^ d → R.2.2.2.1 s = wo s := by
      intro hlt
      have hl := (h32 d (by omega)).1
      rw [if_pos hlt, if_neg (by rw [iI_lt] <;> omega), h31 d (by omega), iI_ck hl (by omega), iI_cl (by omega), hfull]
      exact ⟨_, rfl, ⟨rfl, hVle, hcp⟩, hro, g3⟩
    cases β with
    | none =>
      have hb : bw = iI (-1) := hb
      exact take (by rw [hb, iI_lt] <;> omega)
    | some b =>
      obtain ⟨hb1, hb2, hb3⟩ : bw = iI (b.1 : Nat) ∧ b.1 ≤ 5000 ∧ ∀ q, q < d → br q = iI (b.2 q : Nat) := hb
      unfold up1
      simp only
      by_cases c : b.1 < Vr O T K H fb sl n r
      · rw [if_pos c]
        exact take (by rw [hb1, iI_lt] <;> omega)
      · rw [if_neg c, if_neg (by rw [hb1, iI_lt] <;> omega)]
        exact ⟨_, rfl, ⟨hb1, hb2, hb3⟩, hro, g3⟩
  | succ m ih =>
    intro d hd f hf r tk β br ro gn wo bw hv htk htb hro hw hb
    have hdp : d < p := by omega
    obtain ⟨f, rfl⟩ : ∃ f', f = f' + 1 := ⟨f - 1, by omega⟩
    obtain ⟨Q, g1, g2, g3⟩ := q_hoped (gn := gn) hp5 ns10 (by omega) hh hv hro hw
    have hGle := Mw_bd (g := hpG (gnR O T K H fb sl n r) hp hA r d) p (fun q c hq hc => hpG_le hh hv hq hc) (2 ^ p - 1)
    have hbound : ∀ r', comp ns p d r r' → Vr O T K H fb sl n r' ≤ Mw (hpG (gnR O T K H fb sl n r) hp hA r d) p (2 ^ p - 1) := by
      intro r' hr'
      rw [← (V_eq (K := K) (H := H) (fb := fb) (sl := sl) hp5 ho (fun q hq => Nat.lt_of_lt_of_le (hr'.2.1 q hq) ns10)).1]
      exact Mw_mono p (fun q c hq hc => hpG_ge hh hr' hq hc) _
    generalize hB : Mw (hpG (gnR O T K H fb sl n r) hp hA r d) p (2 ^ p - 1) = B at *
    rw [f_Seater_place, g1, bd_some, g2, plc]
    have loop : ∃ R, bd (f_Seater_place_L61 (f_Seater_place f) (iI d) (iI tk) (iI ns) (iI p) pa hp hA sps fbs fu (0 : Int32) br ro Q.2.1 Q.2.2 bw) (fun x10 => some (x10.1, x10.2.1, x10.2.2.1, x10.2.2.2.1, x10.2.2.2.2)) = some R ∧ bOK p R.1 R.2.2.2.2 (plS (plc (Vr O T K H fb sl n) ns m (d + 1)) d r ns β) ∧ (∀ q, q < d → R.2.1 q = iI (r q : Nat)) ∧ ∀ s, s < 2 ^ d → R.2.2.2.1 s = wo s := by
      have key := lp (L := fun fz jz (sz : (Nat → Int32) × (Nat → Int32) × (Nat → Int32) × (Nat → Int32) × Int32) => f_Seater_place_L61 (f_Seater_place f) (iI d) (iI tk) (iI ns) (iI p) pa hp hA sps fbs fz (iI (jz : Int)) sz.1 sz.2.1 sz.2.2.1 sz.2.2.2.1 sz.2.2.2.2) (n := ns) (I := fun j st => bOK p st.1 st.2.2.2.2 (plS (plc (Vr O T K H fb sl n) ns m (d + 1)) d r j β) ∧ (∀ q, q < d → st.2.1 q = iI (r q : Nat)) ∧ ∀ s, s < 2 ^ d → st.2.2.2.1 s = wo s) (Post := fun st => bOK p st.1 st.2.2.2.2 (plS (plc (Vr O T K H fb sl n) ns m (d + 1)) d r ns β) ∧ (∀ q, q < d → st.2.1 q = iI (r q : Nat)) ∧ ∀ s, s < 2 ^ d → st.2.2.2.1 s = wo s) ?_ ?_ fu 0 (br, ro, Q.2.1, Q.2.2, bw) (by omega) (by have := fu_big; omega) ⟨hb, hro, g3⟩
      · obtain ⟨st, hst, he⟩ := key
        have he2 : f_Seater_place_L61 (f_Seater_place f) (iI d) (iI tk) (iI ns) (iI p) pa hp hA sps fbs fu (0 : Int32) br ro Q.2.1 Q.2.2 bw = some st := he
        rw [he2, bd_some]
        exact ⟨_, rfl, hst⟩
      · intro f' j st hj hst
        obtain ⟨i1, i2, i3⟩ := hst
        left
        simp only [f_Seater_place_L61]
        rw [if_neg (by rw [iI_le] <;> omega), q_has (by omega) (by omega), bd_some, htb j hj]
        cases ht2 : tkn d r j
        · have hv2 := vp_step hv hj ht2
          have hro2 : ∀ q, q < d + 1 → upd st.2.1 d (iI (j : Nat)) q = iI (setN r d j q : Nat) := fun q hq => by
            by_cases e : q = d
            · subst e; rw [upd_s, setN_s]
            · rw [upd_n e, setN_n (by omega)]; exact i2 q (by omega)
          obtain ⟨gn', q1, q2⟩ := q_placeG ht hp5 n10 ns10 hdp hv hj ht2 (upd st.2.1 d (iI (j : Nat))) st.2.2.1 (fun q hq => by rw [upd_n (by omega)]; exact i2 q hq)
          have hw2 : VAL (gnR O T K H fb sl n (setN r d j)) p d st.2.2.2.1 := by
            refine VAL_r (r := r) hdp (fun q hq => setN_n hq) ?_
            unfold VAL at hw ⊢
            rw [if_pos hdp] at hw ⊢
            intro s hs
            rw [i3 s hs]; exact hw s hs
          obtain ⟨wo', s1, s2, s3⟩ := q_spread (gn := gn') hp5 hdp (fun q c _ _ => gnV_le) hw2 q2
          have htk2 : tk ||| 2 ^ j < 1024 := Nat.or_lt_two_pow (n := 10) htk (Nat.pow_lt_pow_right (by omega) (by omega))
          have htb2 : ∀ s, s < ns → (tk ||| 2 ^ j).testBit s = tkn (d + 1) (setN r d j) s := by
            intro s hs
            rw [Nat.testBit_or, Nat.testBit_two_pow, htb s hs, Bool.eq_iff_iff, Bool.or_eq_true, tkn_iff, tkn_iff, decide_eq_true_eq]
            constructor
            · rintro (⟨q, h1, h2⟩ | h)
              · exact ⟨q, by omega, by rw [setN_n h1]; exact h2⟩
              · exact ⟨d, by omega, by rw [setN_s]; exact h⟩
            · rintro ⟨q, h1, h2⟩
              by_cases e : q = d
              · subst e; rw [setN_s] at h2; exact Or.inr h2
              · rw [setN_n (by omega)] at h2; exact Or.inl ⟨q, by omega, h2⟩
          obtain ⟨R, r1, r2, r3, r4⟩ := ih (d + 1) (by omega) f (by omega) (setN r d j) (tk ||| 2 ^ j) _ st.1 (upd st.2.1 d (iI (j : Nat))) gn' wo' st.2.2.2.2 hv2 htk2 htb2 hro2 s2 i1
          refine ⟨R, ⟨?_, fun q hq => ?_, fun s hs => ?_⟩, ?_⟩
          · rw [plS, ht2]
            exact r2
          · rw [r3 q (by omega), setN_n hq]
          · rw [r4 s (Nat.lt_of_lt_of_le hs (Nat.pow_le_pow_right (by omega) (by omega))), s3 s hs, i3 s hs]
          · simp only [b01_f, eq_self, if_true]
            rw [iI_ck (by omega) (by omega), iI_cl (by omega), q1, bd_some, s1, bd_some, iI_shl1 (by omega), iI_or, sm1 d, r1, bd_some]
            simp only [lt]
            rw [sm1]
        · refine ⟨st, ⟨?_, i2, i3⟩, ?_⟩
          · rw [plS, ht2]; exact i1
          · simp only [b01_t, z10, if_false, lt]
            rw [sm1]
      · intro f' st hst
        refine ⟨(st.1, st.2.1, st.2.2.1, st.2.2.2.1, st.2.2.2.2), hst, ?_⟩
        simp only [f_Seater_place_L61]
        rw [if_pos (by rw [iI_le] <;> omega)]
    cases β with
    | none =>
      have hb : bw = iI (-1) := hb
      rw [if_pos (by rw [hb, iI_lt] <;> omega), if_pos (by rw [iI_lt] <;> omega)]
      exact loop
    | some b =>
      obtain ⟨hb1, hb2, hb3⟩ : bw = iI (b.1 : Nat) ∧ b.1 ≤ 5000 ∧ ∀ q, q < p → br q = iI (b.2 q : Nat) := hb
      by_cases c : b.1 < B
      · rw [if_pos (by rw [hb1, iI_lt] <;> omega), if_pos (by rw [iI_lt] <;> omega)]
        exact loop
      · rw [if_neg (by rw [hb1, iI_lt] <;> omega)]
        have hst := plc_stay (V := Vr O T K H fb sl n) (ρ := b.2) (v := b.1) (m + 1) d r hd hv (fun r' hr' => Nat.le_trans (hbound r' hr') (by omega))
        rw [plc] at hst
        refine ⟨_, rfl, ?_, hro, g3⟩
        show bOK p br bw (plS (plc (Vr O T K H fb sl n) ns m (d + 1)) d r ns (some (b.1, b.2)))
        rw [hst]
        exact ⟨hb1, hb2, hb3⟩
end
