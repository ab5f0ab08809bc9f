/-! fewest inches to saw -/
def inP (S O T K H : Nat → Nat) (sl k : Nat) : Option Nat := fst0 (fun i => rch (K k) (H k - i) (dst (S (O k)) (S (T k))) sl) (if K k = 2 then 1 else H k + 1)
theorem inP_le {S O T K H : Nat → Nat} {sl k c : Nat} (h : inP S O T K H sl k = some c) : c ≤ H k ∨ c = 0 := by
  have := (fst_some _ _ _ h).2.1
  split at this <;> omega
theorem rch_far {ki h d sl : Nat} (h1 : (if ki = 1 then 2 * (d + sl) + 1 else d + sl) < h) : rch ki h d sl = false := by
  unfold rch
  by_cases c : ki = 1
  · rw [if_pos c] at h1
    simp [c]; omega
  · rw [if_neg c] at h1
    simp [c]; omega
theorem ho_half {p : Nat} (h : p ≤ 5) : iI (p : Nat) / 2 = iI ((p / 2 : Nat) : Int) := by
  rw [i_2]; exact iI_div (b := 2) (by omega) (by omega) (by omega)
def fO (o : Option Nat) : Int32 := match o with
  | some c => iI (c : Nat)
  | none => iI 99999
section
variable {so on ot ki ye sa v x sp' bo co bi cl : Nat → Int32} {s5 s6 s7 s8 s10 mm ms mc : Int32} {S O T K Y Z : Nat → Nat} {p n fb ns sl k : Nat}
theorem q_fewest (hc : cv so on ot ki ye sa S O T K Y Z p n) (ho : nok S O T K Y Z p n fb ns sl) (hk : k < n) : f_X_fewestInches (iI k) (iI sl) so on ot ki ye sa = some (cO (inP S O T K (H0 K Y Z) sl k)) := by
  obtain ⟨c0, c1, c2, c3, c4, c5⟩ := hc
  obtain ⟨⟨p5, n10, ns10, f1, t1, b⟩, ho2, hzy, hsl, hp0⟩ := ho
  obtain ⟨b1, b2, b3, b4, b5, b6⟩ := b k hk
  have t2 := t1 _ b1
  have t3 := t1 _ b2
  have hq := q_handle n10 hk c3 c4 c5 b4 (by omega) (by omega)
  change f_Now_handle (iI k) ki ye sa = some (iI (H0 K Y Z k : Nat)) at hq
  have hf := q_far n10 p5 hk c0 c1 c2 b1 b2 (by omega) (by omega)
  have hd : dst (S (O k)) (S (T k)) < 10 := dst_lt (by omega) (by omega)
  have hH : H0 K Y Z k < 100000 := H0_lt b5
  have hH2 : K k = 2 → H0 K Y Z k = 1 := fun c => by unfold H0 hnd; rw [if_pos c]
  unfold inP
  generalize hdd : dst (S (O k)) (S (T k)) = d at *
  generalize H0 K Y Z k = h at *
  have e4 : (if ki (iI (k : Int)).toNatClampNeg = 1 then some ((2 : Int32) * (iI (d : Nat) + iI (sl : Nat)) + 1) else some (iI (d : Nat) + iI (sl : Nat)) : Option Int32) = some (iI ((if K k = 1 then 2 * (d + sl) + 1 else d + sl : Nat) : Int)) := by
    rw [iI_cl (by omega), c3 k hk, i_1]
    by_cases c : K k = 1
    · rw [if_pos (by rw [c]; rfl), if_pos c, i_2, iI_add, iI_mul, iI_add]; rfl
    · rw [if_neg (by rw [iI_eq] <;> omega), if_neg c, iI_add]; rfl
  have e6 : (if ki (iI (k : Int)).toNatClampNeg = 2 then some (0 : Int32) else some (iI (h : Nat)) : Option Int32) = some (iI ((if K k = 2 then 0 else h : Nat) : Int)) := by
    rw [iI_cl (by omega), c3 k hk, i_2]
    by_cases c : K k = 2
    · rw [if_pos (by rw [c]; rfl), if_pos c]; rfl
    · rw [if_neg (by rw [iI_eq] <;> omega), if_neg c]
  generalize hlg : (if K k = 1 then 2 * (d + sl) + 1 else d + sl) = lg at *
  have hlg2 : lg < 1000 := by rw [← hlg]; split <;> omega
  have e5 : (if (0 : Int32) < iI (h : Nat) - iI (lg : Nat) then iI (h : Nat) - iI (lg : Nat) else 0) = iI ((h - lg : Nat) : Int) := by
    rw [iI_sub, i_0]
    by_cases c : lg < h
    · rw [if_pos (by rw [iI_lt] <;> omega)]; congr 1; omega
    · rw [if_neg (by rw [iI_lt] <;> omega)]; congr 1; omega
  generalize hmo : (if K k = 2 then 0 else h) = mo at *
  have hmo2 : mo ≤ h := by rw [← hmo]; split <;> omega
  have hn1 : (if K k = 2 then 1 else h + 1) = mo + 1 := by rw [← hmo]; split <;> rfl
  have hle : h - lg ≤ mo + 1 := by
    rw [← hmo]; split
    · rename_i c; have := hH2 c; omega
    · omega
  have key := lpF (L := fun f j => f_X_fewestInches_L84 (iI k) (iI h) (iI mo) (iI sl) so on ot ki f (iI (j : Int))) (P := fun i => rch (K k) (h - i) d sl) (n := mo + 1) (A := fun j => .inl (iI (j : Int))) (B := .inr ()) (fun f j hj => by
      simp only [f_X_fewestInches_L84]
      rw [if_neg (by rw [iI_lt] <;> omega), iI_ck (by omega) (by omega), hf, bd_some, iI_cl (by omega), c3 k hk, iI_sub, show ((h : Int) - (j : Int)) = ((h - j : Nat) : Int) by omega, q_reaches b4 (by omega) (by omega) (by omega), bd_some]
      simp only [b01_eq0, lt, i_1, iI_add]
      cases rch (K k) (h - j) d sl
      · rfl
      · rfl) (fun f => by
      simp only [f_X_fewestInches_L84]
      rw [if_pos (by rw [iI_lt] <;> omega)]) fu (h - lg) (mo + 2) hle (by have := fu_big; omega) (by omega)
  have key2 : f_X_fewestInches_L84 (iI k) (iI h) (iI mo) (iI sl) so on ot ki fu (iI ((h - lg : Nat) : Int)) = _ := key
  rw [fst_skip (g := mo + 1 + 1) (fun i hi => rch_far (by rw [hlg]; omega)) (by omega) (by omega)] at key2
  unfold f_X_fewestInches fst0
  rw [hq, bd_some, hf, bd_some]
  simp only [lt]
  rw [iI_ck (by omega) (by omega), e4, bd_some, e5, iI_ck (by omega) (by omega), e6, bd_some, key2, bd_some, hn1]
  cases fst (fun i => rch (K k) (h - i) d sl) (mo + 1) (mo + 1 + 1) 0 <;> rfl
theorem r_inches (hx : xv x S O T K Y Z p n fb) (ho : nok S O T K Y Z p n fb ns sl) (hk : k < n) : f_M_inchesOf (iI k) x (iI sl) = some (fO (inP S O T K (H0 K Y Z) sl k)) := by
  have hr := r_handleOf hx ho.1 hk
  change f_M_handleOf (iI k) x = some (iI (H0 K Y Z k : Nat)) at hr
  have hH : H0 K Y Z k < 100000 := H0_lt (ho.1.2.2.2.2.2 k hk).2.2.2.2.1
  have hH2 : K k = 2 → H0 K Y Z k = 1 := fun c => by unfold H0 hnd; rw [if_pos c]
  have n10 := ho.1.2.1
  have hK := (ho.1.2.2.2.2.2 k hk).2.2.2.1
  obtain ⟨x1, x2, x3, x4, x5⟩ := hx.2.1 k hk
  have hfb : ∀ g : Nat, g < 100000 → f_M_feedsBy (iI k) (iI g) x (iI sl) = some (b01 (rch (K k) g (dst (S (O k)) (S (T k))) sl)) := fun g hg => r_feedsBy hx ho.1 hk hg (by have := ho.2.2.2.1; omega)
  unfold inP
  generalize dst (S (O k)) (S (T k)) = d at *
  generalize H0 K Y Z k = h at *
  unfold f_M_inchesOf
  rw [hr, bd_some]
  simp (disch := omega) only [ck45, cl45, x5, i_2]
  by_cases c : K k = 2
  · rw [if_pos (by rw [c]; rfl), hfb h hH, bd_some]
    simp only [if_pos c, b01_eq0]
    have ef : fst (fun i => rch (K k) (h - i) d sl) 1 (1 + 1) 0 = if rch (K k) h d sl = true then some 0 else none := by
      rw [fst, if_pos (show (0 : Nat) < 1 by decide), Nat.sub_zero, fst, if_neg (show ¬ (0 + 1 : Nat) < 1 by decide)]
    unfold fst0
    rw [ef, i_99999]
    cases rch (K k) h d sl
    · rfl
    · rfl
  · rw [if_neg (by rw [iI_eq] <;> omega)]
    simp only [if_neg c]
    have key := lpF (L := fun f j => f_M_inchesOf_L38 (iI k) (iI h) x (iI sl) f (iI (j : Int))) (P := fun i => rch (K k) (h - i) d sl) (n := h + 1) (A := fun j => .inl (iI (j : Int))) (B := .inr ()) (fun f j hj => by
      simp only [f_M_inchesOf_L38]
      rw [if_neg (by rw [iI_lt] <;> omega), iI_sub, show ((h : Int) - (j : Int)) = ((h - j : Nat) : Int) by omega, hfb (h - j) (by omega), bd_some]
      simp only [b01_eq0, lt, i_1, iI_add]
      cases rch (K k) (h - j) d sl
      · rfl
      · rfl) (fun f => by
      simp only [f_M_inchesOf_L38]
      rw [if_pos (by rw [iI_lt] <;> omega)]) fu 0 (h + 1 + 1) (by omega) (by have := fu_big; omega) (by omega)
    have key2 : f_M_inchesOf_L38 (iI k) (iI h) x (iI sl) fu (0 : Int32) = _ := key
    unfold fst0
    rw [key2, bd_some]
    cases fst (fun i => rch (K k) (h - i) d sl) (h + 1) (h + 1 + 1) 0
    · rw [i_99999]; rfl
    · rfl
theorem inP_lt (ho : nok S O T K Y Z p n fb ns sl) (hk : k < n) {c : Nat} (h : inP S O T K (H0 K Y Z) sl k = some c) : c < 6000 := by
  have h1 := (ho.2.2.1 k hk).2
  have h2 : H0 K Y Z k < 6000 := by unfold H0 hnd; split <;> omega
  rcases inP_le h with h | h <;> omega
theorem q_chooseSaws (hc : cv so on ot ki ye sa S O T K Y Z p n) (ho : nok S O T K Y Z p n fb ns sl) : ∃ R, f_X_chooseSaws (iI sl) (iI p) so on ot ki ye sa (iI n) bo co bi cl = some R ∧ (∀ k, k < n → R.2.1 k = cO (inP S O T K (H0 K Y Z) sl k)) ∧ R.2.2.2.2.1 = oC (mnF (chL (bothP O T) (inP S O T K (H0 K Y Z) sl) (fun k => 2 ^ k) n (p / 2))) ∧ R.2.2.2.2.2.1 = oB (mnF (chL (bothP O T) (inP S O T K (H0 K Y Z) sl) (fun k => 2 ^ k) n (p / 2))) := by
  have p5 := ho.1.1
  have n10 := ho.1.2.1
  have key := lp (L := fun f j (st : (Nat → Int32) × (Nat → Int32) × (Nat → Int32) × Int32) => f_X_chooseSaws_L10 (iI sl) so on ot ki ye sa (iI n) f (iI (j : Int)) st.1 st.2.1 st.2.2.1 st.2.2.2) (n := n) (I := fun j st => ar st.1 j (bothP O T) ∧ (∀ k, k < j → st.2.1 k = cO (inP S O T K (H0 K Y Z) sl k)) ∧ ar st.2.2.1 j (fun k => 2 ^ k) ∧ st.2.2.2 = iI (j : Nat)) (Post := fun st => ar st.1 n (bothP O T) ∧ (∀ k, k < n → st.2.1 k = cO (inP S O T K (H0 K Y Z) sl k)) ∧ ar st.2.2.1 n (fun k => 2 ^ k) ∧ st.2.2.2 = iI (n : Nat)) (fun f j st hj hst => by
      obtain ⟨a1, a2, a3, a4⟩ := hst
      obtain ⟨b1, b2, -⟩ := ho.1.2.2.2.2.2 j hj
      left
      refine ⟨(upd st.1 j (iI (bothP O T j : Nat)), upd st.2.1 j (cO (inP S O T K (H0 K Y Z) sl j)), upd st.2.2.1 j (iI ((2 ^ j : Nat) : Int)), iI ((j + 1 : Nat) : Int)), ⟨ar_upd a1, fun k hk => ?_, ar_upd (g := fun k => 2 ^ k) a3, rfl⟩, ?_⟩
      · by_cases c : k = j
        · subst c; exact upd_s _ _ _
        · show upd st.2.1 j _ k = _
          rw [upd_n c]; exact a2 k (by omega)
      · simp only [f_X_chooseSaws_L10]
        rw [if_neg (by rw [iI_le] <;> omega), q_both n10 hj hc.2.1 hc.2.2.1 (by omega) (by omega), bd_some, q_fewest hc ho hj, bd_some, iI_shl1 (by omega), a4]
        unfold f_Choice_add
        rw [i_10, if_neg (by rw [iI_le] <;> omega), iI_ck (by omega) (by omega), iI_ck (by omega) (by omega), iI_ck (by omega) (by omega), iI_cl (by omega)]
        simp only [lt, bd_some, i_1, iI_add]
        rfl) (fun f st hst => by
      refine ⟨(st.1, st.2.1, st.2.2.1, st.2.2.2), hst, ?_⟩
      simp only [f_X_chooseSaws_L10]
      rw [if_pos (by rw [iI_le] <;> omega)]) fu 0 (bo, co, bi, (0 : Int32)) (by omega) (by have := fu_big; omega) ⟨fun j hj => by omega, fun j hj => by omega, fun j hj => by omega, rfl⟩
  obtain ⟨st, ⟨a1, a2, a3, a4⟩, he⟩ := key
  have he2 : f_X_chooseSaws_L10 (iI sl) so on ot ki ye sa (iI n) fu (0 : Int32) bo co bi (0 : Int32) = some st := he
  obtain ⟨cl', cnt, e3⟩ := q_decide (cl := cl) (need := p / 2) n10 a1 a2 a3 (fun k hk => by have := ho.2.1.1 k hk; exact mxs_in _ (by omega) _ (by omega) this.2.2) ho.2.1.2 (fun k hk c hcc => by have := inP_lt ho hk hcc; omega) (fun k hk => p_lt (by omega)) (by omega)
  unfold f_X_chooseSaws
  rw [he2, bd_some, ho_half p5, a4, e3, bd_some]
  exact ⟨_, rfl, a2, rfl, rfl⟩
/-! as the reference tries them -/
def sB (o : Option (Nat × Nat)) : Int32 := match o with
  | some q => iI (q.2 : Nat)
  | none => iI (-2)
def lsN (o : Option (Nat × Nat)) : Int32 := match o with
  | some q => iI (q.1 : Nat)
  | none => iI 0
theorem r_triesSaw {o : Option (Nat × Nat)} {c b : Nat} (hc : c < 99999) (hb : b < 1024) (ho : ∀ q, o = some q → q.1 < 99999 ∧ q.2 < 1024) : f_M_triesSaw (iI b) (iI c) (sB o) (lsN o) = some (sB (chF o (c, b)), lsN (chF o (c, b))) := by
  unfold f_M_triesSaw
  rw [i_99999, if_neg (by rw [iI_le] <;> omega), i_m2]
  cases o with
  | none => rfl
  | some q =>
    obtain ⟨h1, h2⟩ := ho q rfl
    rw [show sB (some q) = iI (q.2 : Nat) from rfl, show lsN (some q) = iI (q.1 : Nat) from rfl, show chF (some q) (c, b) = (if c < q.1 ∨ (c = q.1 ∧ b < q.2) then some (c, b) else some q) from rfl]
    have n0 : ¬ iI (q.2 : Nat) = iI (-2) := by rw [iI_eq] <;> omega
    rw [if_neg n0]
    simp (disch := omega) only [iI_lt, iI_eq, iI_le]
    by_cases c1 : q.1 < c
    · simp only [if_pos (show (q.1 : Int) < (c : Int) by omega), if_neg (show ¬ (c < q.1 ∨ (c = q.1 ∧ b < q.2)) by omega), bd_some, if_true]; rfl
    · simp only [if_neg (show ¬ (q.1 : Int) < (c : Int) by omega)]
      by_cases c2 : c = q.1
      · simp only [if_pos (show (c : Int) = (q.1 : Int) by omega)]
        by_cases c3 : b < q.2
        · simp only [if_pos (show (b : Int) < (q.2 : Int) by omega), if_pos (show (c < q.1 ∨ (c = q.1 ∧ b < q.2)) by omega), bd_some, Bool.false_eq_true, if_false]; rfl
        · simp only [if_neg (show ¬ (b : Int) < (q.2 : Int) by omega), if_neg (show ¬ (c < q.1 ∨ (c = q.1 ∧ b < q.2)) by omega), bd_some, if_true]; rfl
      · simp only [if_neg (show ¬ (c : Int) = (q.1 : Int) by omega), if_pos (show (c < q.1 ∨ (c = q.1 ∧ b < q.2)) by omega), bd_some, Bool.false_eq_true, if_false]; rfl
theorem r_triesSaw0 {a b : Int32} {c : Nat} (hc : 99999 ≤ c) (hc2 : c < 1000000) {l : Int32} : f_M_triesSaw l (iI c) a b = some (a, b) := by
  unfold f_M_triesSaw
  rw [i_99999, if_pos (by rw [iI_le] <;> omega)]
  rfl
end
