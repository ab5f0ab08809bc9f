/-! quarrels by draws -/
theorem drw {α : Type} (l l' : Int32) : (∃ s t : Nat, s ≤ 65536 ∧ t ≤ 60 ∧ l = iI s ∧ l' = iI t ∧ f_M_refusesDraw 1 l l' = some 0 ∧ ∀ kk : Bool → Option α, bd (f_X_within l 65536) (fun x2 => bd (if x2 = 0 then some true else bd (f_X_within l' 60) (fun x7 => if x7 = 0 then some true else some false) : Option Bool) kk) = kk false) ∨ (f_M_refusesDraw 1 l l' = some 2 ∧ ∀ kk : Bool → Option α, bd (f_X_within l 65536) (fun x2 => bd (if x2 = 0 then some true else bd (f_X_within l' 60) (fun x7 => if x7 = 0 then some true else some false) : Option Bool) kk) = kk true) := by
  obtain ⟨z, z1, z2, rfl⟩ := i_any l
  obtain ⟨y, y1, y2, rfl⟩ := i_any l'
  have h65 : (65536 : Int32) = iI 65536 := by decide +kernel
  unfold f_X_within f_M_refusesDraw f_M_in
  rw [h65]
  simp (disch := omega) only [i_60, i_0, iI_lt]
  by_cases c1 : z < 0
  · right; simp only [if_pos c1]; exact ⟨rfl, fun _ => rfl⟩
  · simp only [if_neg c1]
    by_cases c2 : (65536 : Int) < z
    · right; simp only [if_pos c2]; exact ⟨rfl, fun _ => rfl⟩
    · simp only [if_neg c2]
      by_cases c3 : y < 0
      · right; simp only [if_pos c3]; exact ⟨rfl, fun _ => rfl⟩
      · simp only [if_neg c3]
        by_cases c4 : (60 : Int) < y
        · right; simp only [if_pos c4]; exact ⟨rfl, fun _ => rfl⟩
        · left; simp only [if_neg c4]
          exact ⟨z.toNat, y.toNat, by omega, by omega, by congr 1; omega, by congr 1; omega, rfl, fun _ => rfl⟩
theorem q_fl {z qc : Nat} (hz : z < 65537) (hq : qc ≤ 100) : (if iI (qc : Nat) ≤ iI (z : Nat) - iI (z : Nat) / 100 * 100 then some 0 else some 1 : Option Int32) = some (b01 (decide (z % 100 < qc))) := by
  have e : iI (z : Nat) - iI (z : Nat) / 100 * 100 = iI ((z % 100 : Nat) : Int) := iI_mod (b := 100) (by omega) (by omega) (by omega)
  rw [e]
  have h100 : z % 100 < 100 := Nat.mod_lt _ (by omega)
  by_cases c : z % 100 < qc
  · rw [if_neg (by rw [iI_le] <;> omega)]; simp [c, b01]
  · rw [if_pos (by rw [iI_le] <;> omega)]; simp [c, b01]
theorem q_seed {z : Nat} (hz : z < 65537) : (75 : Int32) * iI (z : Nat) + 74 - ((75 : Int32) * iI (z : Nat) + 74) / 65537 * 65537 = iI (((75 * z + 74) % 65537 : Nat) : Int) := by
  have h1 : (75 : Int32) * iI (z : Nat) + 74 = iI ((75 * z + 74 : Nat) : Int) := by
    rw [show (75 : Int32) = iI 75 from rfl, show (74 : Int32) = iI 74 from rfl, iI_mul, iI_add]
    congr 1
  have h2 : (65537 : Int32) = iI ((65537 : Nat) : Int) := by decide +kernel
  rw [h1, h2]
  exact iI_mod (by omega) (by omega) (by omega)
theorem r_seed {z : Nat} (hz : z < 65537) : (((75 : Int64) * (iI (z : Nat)).toInt64 + 74 - ((75 : Int64) * (iI (z : Nat)).toInt64 + 74) / 65537 * 65537).toInt32) = iI (((75 * z + 74) % 65537 : Nat) : Int) := by
  have h1 : (75 : Int64) * (iI (z : Nat)).toInt64 + 74 = jL ((75 * z + 74 : Nat) : Int) := by
    rw [iI_long (by omega) (by omega), show (75 : Int64) = jL 75 from rfl, show (74 : Int64) = jL 74 from rfl, jL_mul, jL_add]
    congr 1
  have h2 : (65537 : Int64) = jL ((65537 : Nat) : Int) := by decide +kernel
  rw [h1, h2, jL_mod (by omega) (by omega), jL_int]
section
variable {so on ot ki ye sa v x sp' s1 s2 s3 s4 s9 : Nat → Int32} {s5 s6 s7 s8 s10 mm ms mc : Int32} {S O T K Y Z : Nat → Nat} {p n fb ns sl sw qc : Nat}
/-- what both hold while they draw: i years gone, the j first pairs one more -/
def dI (S O T K Y : Nat → Nat) (p n fb i j : Nat) (s s' : Int32) (hd x : Nat → Int32) : Prop := s = s' ∧ (∃ z : Nat, z < 65537 ∧ s' = iI z) ∧ ∃ Y' Z', xv x S O T K Y' Z' p n fb ∧ ar hd n (H0 K Y' Z') ∧ ∀ k, k < n → Z' k ≤ Y' k ∧ Y' k ≤ Y k + i + (if k < j then 1 else 0)
theorem e_draw1 (hc : cv so on ot ki ye sa S O T K Y Z p n) (ho : nok S O T K Y Z p n fb ns sl) (hsw : sw < 100) (hqc : qc ≤ 100) {i : Nat} (hi : i < 60) (a b : Int32) (hd x : Nat → Int32) (h : dI S O T K Y p n fb i 0 a b hd x) : ∃ r r', f_X_draw_L21 (iI sw) (iI qc) ki (iI n) fu a (0 : Int32) hd = some r ∧ f_M_draws_L18 (iI sw) (iI qc) fu b (0 : Int32) x = some r' ∧ dI S O T K Y p n fb i n r.1 r'.1 r.2 r'.2 := by
  have p5 := ho.1.1
  have n10 := ho.1.2.1
  refine lpp (L := fun f j (st : Int32 × (Nat → Int32)) => f_X_draw_L21 (iI sw) (iI qc) ki (iI n) f st.1 (iI (j : Int)) st.2) (L' := fun f j (st : Int32 × (Nat → Int32)) => f_M_draws_L18 (iI sw) (iI qc) f st.1 (iI (j : Int)) st.2) (n := n) (I := fun j st st' => dI S O T K Y p n fb i j st.1 st'.1 st.2 st'.2) (Post := fun r r' => dI S O T K Y p n fb i n r.1 r'.1 r.2 r'.2) ?_ ?_ fu 0 (a, hd) (b, x) (by omega) (by have := fu_big; omega) h
  · intro f f' j st st' hj hst
    obtain ⟨i1, ⟨z, hz, i2⟩, Y', Z', i3, i4, i5⟩ := hst
    obtain ⟨b1, b2, b3, b4, b5, b6⟩ := ho.1.2.2.2.2.2 j hj
    have y1 := fun k hk => (ho.2.2.1 k hk).2
    have hz' : (75 * z + 74) % 65537 < 65537 := Nat.mod_lt _ (by omega)
    have hyz : yz Y' Z' n 9000 := fun k hk => by
      have := i5 k hk; have := y1 k hk
      refine ⟨(i5 k hk).1, ?_⟩
      have h3 := (i5 k hk).2
      split at h3 <;> omega
    have hyj := i5 j hj
    rw [if_neg (by omega)] at hyj
    have hHj : H0 K Y' Z' j < 100000 := H0_lt (by have := hyz j hj; omega)
    obtain ⟨x', g1, g2⟩ := r_yearOf (sw := sw) (q := decide ((75 * z + 74) % 65537 % 100 < qc)) i3 (xok_yz ho.1 (fun k hk => by have := hyz k hk; omega)) hj hsw hyz
    -- the new picture
    have hnew : ∀ k, k < n → sw1 K Y' Z' j sw (decide ((75 * z + 74) % 65537 % 100 < qc)) k ≤ yr1 Y' j k ∧ yr1 Y' j k ≤ Y k + i + (if k < j + 1 then 1 else 0) := by
      intro k hk
      by_cases c : k = j
      · subst c
        refine ⟨sw1_le hyj.1, ?_⟩
        unfold yr1 setN
        rw [if_pos rfl, if_pos (by omega)]
        omega
      · obtain ⟨-, e2, e3⟩ := sw1_oth (K := K) (Y := Y') (Z := Z') (sw := sw) (q := decide ((75 * z + 74) % 65537 % 100 < qc)) c
        have h5 := i5 k hk
        rw [e2, e3]
        refine ⟨h5.1, Nat.le_trans h5.2 ?_⟩
        split
        · rw [if_pos (by omega)]; omega
        · omega
    simp only [f_X_draw_L21, f_M_draws_L18]
    simp (disch := omega) only [iI_le, ck55, cl55, i3.2.2.1, iI_ck, iI_cl, hc.2.2.2.1 j hj, i4 j hj]
    rw [if_neg (by omega), if_neg (by omega), i1, i2]
    simp only [lt]
    rw [q_seed hz, r_seed hz]
    unfold nzL
    rw [if_neg (show ¬ (65537 : Int64) = 0 by decide), q_fl hz' hqc]
    simp only [bd_some]
    rw [g1]
    simp only [bd_some, b01_eq0]
    left
    by_cases c : K j = 2
    · rw [i_2, if_pos (by rw [iI_eq] <;> omega)]
      refine ⟨(iI (((75 * z + 74) % 65537 : Nat) : Int), st.2), (iI (((75 * z + 74) % 65537 : Nat) : Int), x'), ⟨rfl, ⟨_, hz', rfl⟩, _, _, g2, fun k hk => ?_, hnew⟩, by simp only [i_1, iI_add]; rfl, by simp only [i_1, iI_add]; rfl⟩
      rw [i4 k hk]
      by_cases d : k = j
      · subst d
        rw [sw1_hnd hyj.1, if_pos c]
        unfold H0 hnd
        rw [if_pos c]
      · rw [(sw1_oth d).1]
    · rw [i_2, if_neg (by rw [iI_eq] <;> omega)]
      have e6 : (if decide ((75 * z + 74) % 65537 % 100 < qc) = false then some (iI (H0 K Y' Z' j : Nat) + 1) else some (iI (H0 K Y' Z' j : Nat) + 1 - (if iI (H0 K Y' Z' j : Nat) + 1 < iI (sw : Int) then iI (H0 K Y' Z' j : Nat) + 1 else iI (sw : Int))) : Option Int32) = some (iI (H0 K (yr1 Y' j) (sw1 K Y' Z' j sw (decide ((75 * z + 74) % 65537 % 100 < qc))) j : Nat)) := by
        rw [sw1_hnd hyj.1, if_neg c]
        generalize decide ((75 * z + 74) % 65537 % 100 < qc) = q
        generalize H0 K Y' Z' j = h at *
        rw [i_1, iI_add]
        cases q
        · simp only [if_true, Bool.false_eq_true, if_false]; rfl
        · simp only [Bool.true_eq_false, if_false, if_true]
          by_cases d : h + 1 < sw
          · rw [if_pos (by rw [iI_lt] <;> omega), iI_sub]; congr 2; omega
          · rw [if_neg (by rw [iI_lt] <;> omega), iI_sub]; congr 2; omega
      rw [e6, bd_some]
      refine ⟨(iI (((75 * z + 74) % 65537 : Nat) : Int), upd st.2 j (iI (H0 K (yr1 Y' j) (sw1 K Y' Z' j sw (decide ((75 * z + 74) % 65537 % 100 < qc))) j : Nat))), (iI (((75 * z + 74) % 65537 : Nat) : Int), x'), ⟨rfl, ⟨_, hz', rfl⟩, _, _, g2, fun k hk => ?_, hnew⟩, by simp only [i_1, iI_add]; rfl, by simp only [i_1, iI_add]; rfl⟩
      by_cases d : k = j
      · subst d; exact upd_s _ _ _
      · show upd st.2 j _ k = _
        rw [upd_n d, i4 k hk, (sw1_oth d).1]
  · intro f f' st st' hst
    obtain ⟨i1, i2, Y', Z', i3, i4, i5⟩ := hst
    simp only [f_X_draw_L21, f_M_draws_L18]
    simp (disch := omega) only [iI_le, ck55, cl55, i3.2.2.1]
    rw [if_pos (by omega), if_pos (by omega)]
    exact ⟨_, _, rfl, rfl, i1, i2, Y', Z', i3, i4, i5⟩
theorem e_draw {s t : Nat} (h : PT so on ot ki ye sa v S O T K Y Z p n fb ns sl) (hsw : sw < 100) (hqc : qc ≤ 100) (hs : s ≤ 65536) (ht : t ≤ 60) : ∃ R x', f_X_draw (iI s) (iI t) (iI sw) (iI qc) (iI fb) so ki ye sa (iI n) s1 s2 = some R ∧ f_M_draws (iI s) (iI t) v x (iI sw) (iI qc) = some x' ∧ ar R.1 p S ∧ R.2.2 = iI fb ∧ ∃ Y' Z', xv x' S O T K Y' Z' p n fb ∧ ar R.2.1 n (H0 K Y' Z') ∧ yz Y' Z' n 9000 := by
  obtain ⟨hc, hv, ho⟩ := h
  obtain ⟨c0, c1, c2, c3, c4, c5⟩ := hc
  have p5 := ho.1.1
  have n10 := ho.1.2.1
  obtain ⟨so', hd', e1, a1, a2⟩ := q_lay (sso := s1) (shd := s2) (fb := iI fb) n10 p5 c0 c3 c4 c5 (fun k hk => by have := ho.1.2.2.2.2.2 k hk; omega)
  obtain ⟨x1, w1, w2, -⟩ := r_worksX (x := x) hv ho
  have key := lpp (L := fun f j (st : Int32 × (Nat → Int32)) => f_X_draw_L12 (iI t) (iI sw) (iI qc) ki (iI n) f st.1 (iI (j : Int)) st.2) (L' := fun f j (st : Int32 × (Nat → Int32)) => f_M_draws_L9 (iI t) (iI sw) (iI qc) f st.1 (iI (j : Int)) st.2) (n := t) (I := fun j st st' => dI S O T K Y p n fb j 0 st.1 st'.1 st.2 st'.2) (Post := fun r r' => ∃ Y' Z', xv r' S O T K Y' Z' p n fb ∧ ar r n (H0 K Y' Z') ∧ yz Y' Z' n 9000) ?_ ?_ fu 0 (iI s, hd') (iI s, x1) (by omega) (by have := fu_big; omega) ⟨rfl, ⟨s, by omega, rfl⟩, Y, Z, w2, a2, fun k hk => ⟨(ho.2.2.1 k hk).1, by omega⟩⟩
  · obtain ⟨r, r', k1, k2, k3⟩ := key
    have k1 : f_X_draw_L12 (iI t) (iI sw) (iI qc) ki (iI n) fu (iI s) (0 : Int32) hd' = some r := k1
    have k2 : f_M_draws_L9 (iI t) (iI sw) (iI qc) fu (iI s) (0 : Int32) x1 = some r' := k2
    unfold f_X_draw f_M_draws
    rw [e1, bd_some, k1, bd_some, w1, bd_some, k2]
    exact ⟨_, _, rfl, rfl, a1, rfl, k3⟩
  · intro f f' j st st' hj hst
    obtain ⟨r, r', k1, k2, k3⟩ := e_draw1 ⟨c0, c1, c2, c3, c4, c5⟩ ho hsw hqc (show j < 60 by omega) st.1 st'.1 st.2 st'.2 hst
    simp only [f_X_draw_L12, f_M_draws_L9]
    simp (disch := omega) only [iI_le]
    rw [if_neg (by omega), if_neg (by omega), k1, k2]
    left
    refine ⟨r, r', ?_, by simp only [bd_some, lt, i_1, iI_add]; rfl, by simp only [bd_some, lt, i_1, iI_add]; rfl⟩
    obtain ⟨q1, q2, Y', Z', q3, q4, q5⟩ := k3
    refine ⟨q1, q2, Y', Z', q3, q4, fun k hk => ⟨(q5 k hk).1, ?_⟩⟩
    have := (q5 k hk).2
    rw [if_pos hk] at this
    omega
  · intro f f' st st' hst
    obtain ⟨i1, i2, Y', Z', i3, i4, i5⟩ := hst
    simp only [f_X_draw_L12, f_M_draws_L9]
    simp (disch := omega) only [iI_le]
    rw [if_pos (by omega), if_pos (by omega)]
    refine ⟨_, _, rfl, rfl, Y', Z', i3, i4, fun k hk => ⟨(i5 k hk).1, ?_⟩⟩
    have h1 := (i5 k hk).2
    have h2 := (ho.2.2.1 k hk).2
    rw [if_neg (by omega)] at h1
    omega
theorem e_drawnHandle (h : PT so on ot ki ye sa v S O T K Y Z p n fb ns sl) (hsw : sw < 100) (hqc : qc ≤ 100) (l1 l2 l3 : Int32) : ∃ R R', f_X_drawnHandle l1 l2 l3 (iI sw) (iI qc) (iI fb) so ki ye sa (iI n) s1 s2 s5 = some R ∧ f_M_drawnHandle l1 l2 l3 v x (iI sw) (iI qc) = some R' ∧ qz R.1 R.2.1 R'.1 R'.2.2.1 R'.2.2.2.1 := by
  have ho := h.2.2
  unfold f_X_drawnHandle f_M_drawnHandle
  rcases prs ho.1.2.1 h.2.1.2.2.1 l1 with ⟨k, hk, rfl, e1, e2⟩ | ⟨e1, e2⟩
  · rw [e1, e2]
    simp only [bd_some, eq_self, if_true]
    rcases drw (α := Int32 × Int32 × (Nat → Int32) × (Nat → Int32) × Int32) l2 l3 with ⟨s, t, hs, ht, rfl, rfl, e3, e4⟩ | ⟨e3, e4⟩
    · obtain ⟨R, x', g1, g2, -, -, Y', Z', g3, g4, g5⟩ := e_draw (x := x) (s1 := s1) (s2 := s2) h hsw hqc hs ht
      have n10 := ho.1.2.1
      rw [e3, e4]
      simp only [bd_some, Bool.false_eq_true, if_false]
      rw [if_pos (show (0 : Int32) ≤ 0 by decide), g1, g2]
      simp only [bd_some]
      rw [r_handleOf g3 (xok_yz ho.1 (fun k hk => by have := g5 k hk; omega)) hk, iI_ck (by omega) (by omega), iI_cl (by omega), g4 k hk]
      exact ⟨_, _, rfl, rfl, qz_0 rfl⟩
    · rw [e3, e4]
      exact ⟨_, _, rfl, rfl, qz_2⟩
  · rw [e1, e2]; exact ⟨_, _, rfl, rfl, qz_1⟩
theorem e_drawnFed (h : PT so on ot ki ye sa v S O T K Y Z p n fb ns sl) (hsw : sw < 100) (hqc : qc ≤ 100) (l1 l2 : Int32) : ∃ R R', f_X_drawnFed l1 l2 (iI sl) (iI sw) (iI qc) (iI p) (iI fb) so on ot ki ye sa (iI n) s1 s2 s3 s4 s5 s6 s7 s8 s9 s10 = some R ∧ f_M_drawnFed l1 l2 v x mm ms mc sp' (iI ns) (iI sl) (iI sw) (iI qc) = some R' ∧ qz R.1 R.2.1 R'.1 R'.2.2.1 R'.2.2.2.1 := by
  have ho := h.2.2
  unfold f_X_drawnFed f_M_drawnFed
  rw [q_noTable ho.2.2.2.2 ho.1.1]
  simp only [bd_some, eq_self, if_true]
  rcases drw (α := Int32 × Int32 × (Nat → Int32) × (Nat → Int32) × (Nat → Int32) × (Nat → Int32) × Int32 × Int32 × Int32 × Int32 × (Nat → Int32) × Int32) l1 l2 with ⟨s, t, hs, ht, rfl, rfl, e3, e4⟩ | ⟨e3, e4⟩
  · obtain ⟨R, x', g1, g2, g6, g7, Y', Z', g3, g4, g5⟩ := e_draw (x := x) (s1 := s1) (s2 := s2) h hsw hqc hs ht
    obtain ⟨⟨c0, c1, c2, c3, c4, c5⟩, hv, -⟩ := h
    obtain ⟨⟨p5, n10, ns10, f1, t1, b⟩, ho2, hzy, hsl, hp0⟩ := ho
    have hxo := xok_yz (Y' := Y') (Z' := Z') (show xok S O T K Y Z p n fb ns from ⟨p5, n10, ns10, f1, t1, b⟩) (fun k hk => by have := g5 k hk; omega)
    have hH : ∀ k, k < n → K k < 3 ∧ H0 K Y' Z' k < 100000 := fun k hk => ⟨(b k hk).2.2.2.1, H0_lt (by have := g5 k hk; omega)⟩
    have t2 : ∀ i, i < p → S i < 10 := fun i hi => Nat.lt_of_lt_of_le (t1 i hi) ns10
    obtain ⟨bo', sp3, bi', e5, -⟩ := q_settleB (bo := s3) (sp := s4) (bi := s9) n10 p5 g6 c1 c2 c3 g4 hH ho2 t2 (show sl < 10 by omega) (Nat.lt_of_lt_of_le f1 (two10 ns10))
    have hB := BS_lt (K := K) (H := H0 K Y' Z') (sl := sl) (fb := fb) n10 (fun k hk => ⟨(b k hk).1, (b k hk).2.1⟩) t2
    obtain ⟨sp4, e6⟩ := r_matchB (sp := sp') g3 hxo (show sl < 10 by omega)
    rw [e3, e4]
    simp only [bd_some, Bool.false_eq_true, if_false]
    rw [if_pos (show (0 : Int32) ≤ 0 by decide), g1, g2]
    simp only [bd_some]
    rw [g7, e5, e6]
    simp only [bd_some]
    rw [q_fedCount hB.1]
    exact ⟨_, _, rfl, rfl, qz_0 rfl⟩
  · rw [e3, e4]
    exact ⟨_, _, rfl, rfl, qz_2⟩
end
