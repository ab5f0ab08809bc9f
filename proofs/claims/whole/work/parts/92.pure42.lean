/-! the seater's tables -/
theorem i_m5 (a b : Nat) : iI (a : Nat) * 5 + iI (b : Nat) = iI ((a * 5 + b : Nat) : Int) := by rw [i_5, iI_mul, iI_add]; congr 1
theorem i_m10 (a b : Nat) : iI (a : Nat) * 10 + iI (b : Nat) = iI ((a * 10 + b : Nat) : Int) := by rw [i_10, iI_mul, iI_add]; congr 1
def fbP (K H : Nat → Nat) (sl k d : Nat) : Bool := decide (1 ≤ d) && rch (K k) (H k) d sl
def fbN (K H : Nat → Nat) (sl ns k : Nat) : Nat := bitsN (fbP K H sl k) ns
theorem sm1 (j : Nat) : iI (j : Int) + 1 = iI ((j + 1 : Nat) : Int) := by rw [i_1, iI_add]; rfl
section
variable {so on ot ki ye sa pa fbs sps : Nat → Int32} {S O T K Y Z : Nat → Nat} {p n fb ns sl k : Nat}
theorem q_reaches1 (hc : cv so on ot ki ye sa S O T K Y Z p n) (ho : nok S O T K Y Z p n fb ns sl) (hns : 1 ≤ ns) (hk : k < n) (f0 : Nat → Int32) (h0 : f0 k = iI ((0 : Nat) : Int)) : ∃ f1, f_Seater_setReaches_L22 (iI k) (iI ns) (iI sl) ki ye sa fu (1 : Int32) f0 = some f1 ∧ f1 k = iI (fbN K (H0 K Y Z) sl ns k : Nat) ∧ ∀ i, i ≠ k → f1 i = f0 i := by
  obtain ⟨c0, c1, c2, c3, c4, c5⟩ := hc
  obtain ⟨⟨p5, n10, ns10, f1', t1, b⟩, ho2, hzy, hsl, hp0⟩ := ho
  obtain ⟨b1, b2, b3, b4, b5, b6⟩ := b k hk
  have hq := q_handle n10 hk c3 c4 c5 b4 (by omega) (by omega)
  change f_Now_handle (iI k) ki ye sa = some (iI (H0 K Y Z k : Nat)) at hq
  have hH : H0 K Y Z k < 100000 := H0_lt b5
  have key := lp (L := fun fz jz (sz : (Nat → Int32)) => f_Seater_setReaches_L22 (iI k) (iI ns) (iI sl) ki ye sa fz (iI (jz : Int)) sz) (n := ns) (I := fun j st => 1 ≤ j ∧ st k = iI (bitsN (fbP K (H0 K Y Z) sl k) j : Nat) ∧ ∀ i, i ≠ k → st i = f0 i) (Post := fun st => st k = iI (fbN K (H0 K Y Z) sl ns k : Nat) ∧ ∀ i, i ≠ k → st i = f0 i) ?_ ?_ fu 1 f0 hns (by have := fu_big; omega) ⟨by omega, by rw [h0]; simp [bitsN, fbP], fun i _ => rfl⟩
  · obtain ⟨r, hr, he⟩ := key
    exact ⟨r, he, hr⟩
  · intro f j st hj hst
    obtain ⟨i1, i2, i3⟩ := hst
    left
    simp only [f_Seater_setReaches_L22]
    simp (disch := omega) only [iI_ck, iI_cl, c3 k hk, i2]
    rw [if_neg (by rw [iI_le] <;> omega), hq, bd_some, q_reaches b4 hH (by omega) (by omega), bd_some]
    simp only [b01_eq0, lt]
    rw [iI_shl1 (by omega), iI_or, sm1]
    have hP : fbP K (H0 K Y Z) sl k j = rch (K k) (H0 K Y Z k) j sl := by unfold fbP; simp [i1]
    cases hrch : rch (K k) (H0 K Y Z k) j sl
    · refine ⟨st, ⟨by omega, ?_, i3⟩, by simp only [if_true]⟩
      rw [bitsN, hP, hrch]; simpa using i2
    · refine ⟨upd st k (iI ((bitsN (fbP K (H0 K Y Z) sl k) j ||| 2 ^ j : Nat) : Int)), ⟨by omega, ?_, fun i hi => ?_⟩, by simp only [Bool.true_eq_false, if_false]⟩
      · rw [upd_s, bitsN, hP, hrch]; simp
      · rw [upd_n hi]; exact i3 i hi
  · intro f st hst
    refine ⟨st, ⟨hst.2.1, hst.2.2⟩, ?_⟩
    simp only [f_Seater_setReaches_L22]
    rw [if_pos (by rw [iI_le] <;> omega)]
/-- the pairs' table, the distances', the slops' -/
def tbl (O T K H : Nat → Nat) (p n fb ns sl : Nat) (pa fbs sps : Nat → Int32) : Prop := (∀ q c, q < c → c < p → pa (q * 5 + c) = iI (on2 (fst0 (isP O T q c) n))) ∧ (∀ k, k < n → fbs k = iI (fbN K H sl ns k : Nat)) ∧ ∀ a b, a < ns → b < ns → sps (a * 10 + b) = iI (slp fb a b : Nat)
theorem q_setReaches (hc : cv so on ot ki ye sa S O T K Y Z p n) (ho : nok S O T K Y Z p n fb ns sl) (hns : 1 ≤ ns) : ∃ pa' fbs', f_Seater_setReaches (iI ns) (iI sl) (iI p) on ot ki ye sa (iI n) pa fbs = some (pa', fbs') ∧ (∀ q c, q < c → c < p → pa' (q * 5 + c) = iI (on2 (fst0 (isP O T q c) n))) ∧ ∀ k, k < n → fbs' k = iI (fbN K (H0 K Y Z) sl ns k : Nat) := by
  have p5 := ho.1.1
  have n10 := ho.1.2.1
  have k1 := lp (L := fun fz jz (sz : (Nat → Int32)) => f_Seater_setReaches_L2 (iI ns) (iI sl) ki ye sa (iI n) fz (iI (jz : Int)) sz) (n := n) (I := fun j st => ∀ k, k < j → st k = iI (fbN K (H0 K Y Z) sl ns k : Nat)) (Post := fun st => ∀ k, k < n → st k = iI (fbN K (H0 K Y Z) sl ns k : Nat)) (fun f j st hj hst => by
      obtain ⟨f1, g1, g2, g3⟩ := q_reaches1 hc ho hns hj (upd st j 0) (by rw [upd_s]; rfl)
      left
      refine ⟨f1, fun k hk => ?_, ?_⟩
      · by_cases c : k = j
        · subst c; exact g2
        · rw [g3 k c, upd_n c]; exact hst k (by omega)
      · simp only [f_Seater_setReaches_L2]
        rw [if_neg (by rw [iI_le] <;> omega), iI_ck (by omega) (by omega), iI_cl (by omega), g1, bd_some]
        simp only [lt]
        rw [sm1]) (fun f st hst => by
      refine ⟨st, hst, ?_⟩
      simp only [f_Seater_setReaches_L2]
      rw [if_pos (by rw [iI_le] <;> omega)]) fu 0 fbs (by omega) (by have := fu_big; omega) (fun k hk => by omega)
  obtain ⟨fbs', h1, e1⟩ := k1
  have e1 : f_Seater_setReaches_L2 (iI ns) (iI sl) ki ye sa (iI n) fu (0 : Int32) fbs = some fbs' := e1
  have k2 := lp (L := fun fz jz (sz : (Nat → Int32)) => f_Seater_setReaches_L90 (iI p) on ot (iI n) fz (iI (jz : Int)) sz) (n := p) (I := fun j st => ∀ q c, q < c → c < j → st (q * 5 + c) = iI (on2 (fst0 (isP O T q c) n))) (Post := fun st => ∀ q c, q < c → c < p → st (q * 5 + c) = iI (on2 (fst0 (isP O T q c) n))) (fun f j st hj hst => by
      have k3 := lp (L := fun fz jz (sz : (Nat → Int32)) => f_Seater_setReaches_L103 (iI j) on ot (iI n) fz (iI (jz : Int)) sz) (n := j) (I := fun q st' => (∀ a, a < q → st' (a * 5 + j) = iI (on2 (fst0 (isP O T a j) n))) ∧ ∀ a c, c < j → st' (a * 5 + c) = st (a * 5 + c)) (Post := fun st' => (∀ a, a < j → st' (a * 5 + j) = iI (on2 (fst0 (isP O T a j) n))) ∧ ∀ a c, c < j → st' (a * 5 + c) = st (a * 5 + c)) (fun f q st' hq hst' => by
          left
          refine ⟨upd st' (q * 5 + j) (iI (on2 (fst0 (isP O T q j) n))), ⟨fun a ha => ?_, fun a c hc' => ?_⟩, ?_⟩
          · by_cases e : a = q
            · subst e; exact upd_s _ _ _
            · rw [upd_n (by omega)]; exact hst'.1 a (by omega)
          · rw [upd_n (by omega)]; exact hst'.2 a c hc'
          · have hqf := q_find n10 hc.2.1 hc.2.2.1 (fun k hk => by have := ho.1.2.2.2.2.2 k hk; omega) (show q < 5 by omega) (show j < 5 by omega) (show q ≠ j by omega)
            simp only [f_Seater_setReaches_L103]
            rw [if_neg (by rw [iI_le] <;> omega), hqf, bd_some, i_m5, iI_ck (by omega) (by omega), iI_cl (by omega)]
            simp only [lt]
            rw [sm1]) (fun f st' hst' => by
          refine ⟨st', hst', ?_⟩
          simp only [f_Seater_setReaches_L103]
          rw [if_pos (by rw [iI_le] <;> omega)]) fu 0 st (by omega) (by have := fu_big; omega) ⟨fun a ha => by omega, fun a c _ => rfl⟩
      obtain ⟨st', ⟨g1, g2⟩, g3⟩ := k3
      have g3 : f_Seater_setReaches_L103 (iI j) on ot (iI n) fu (0 : Int32) st = some st' := g3
      left
      refine ⟨st', fun q c hq hc' => ?_, ?_⟩
      · by_cases e : c = j
        · subst e; exact g1 q hq
        · rw [g2 q c (by omega)]; exact hst q c hq (by omega)
      · simp only [f_Seater_setReaches_L90]
        rw [if_neg (by rw [iI_le] <;> omega), g3, bd_some]
        simp only [lt]
        rw [sm1]) (fun f st hst => by
      refine ⟨st, hst, ?_⟩
      simp only [f_Seater_setReaches_L90]
      rw [if_pos (by rw [iI_le] <;> omega)]) fu 0 pa (by omega) (by have := fu_big; omega) (fun q c _ hc' => by omega)
  obtain ⟨pa', h2, e2⟩ := k2
  have e2 : f_Seater_setReaches_L90 (iI p) on ot (iI n) fu (0 : Int32) pa = some pa' := e2
  refine ⟨pa', fbs', ?_, h2, h1⟩
  unfold f_Seater_setReaches
  rw [e1, bd_some, e2, bd_some]
theorem q_setSlops (ns10 : ns ≤ 10) (hf : fb < 1024) : ∃ sps', f_Seater_setSlops (iI ns) (iI fb) sps = some sps' ∧ ∀ a b, a < ns → b < ns → sps' (a * 10 + b) = iI (slp fb a b : Nat) := by
  have k2 := lp (L := fun fz jz (sz : (Nat → Int32)) => f_Seater_setSlops_L2 (iI ns) (iI fb) fz (iI (jz : Int)) sz) (n := ns) (I := fun j st => ∀ a b, a < j → b < ns → st (a * 10 + b) = iI (slp fb a b : Nat)) (Post := fun st => ∀ a b, a < ns → b < ns → st (a * 10 + b) = iI (slp fb a b : Nat)) (fun f j st hj hst => by
      have k3 := lp (L := fun fz jz (sz : (Nat → Int32)) => f_Seater_setSlops_L15 (iI j) (iI ns) (iI fb) fz (iI (jz : Int)) sz) (n := ns) (I := fun q st' => (∀ b, b < q → st' (j * 10 + b) = iI (slp fb j b : Nat)) ∧ ∀ a b, a < j → b < ns → st' (a * 10 + b) = st (a * 10 + b)) (Post := fun st' => (∀ b, b < ns → st' (j * 10 + b) = iI (slp fb j b : Nat)) ∧ ∀ a b, a < j → b < ns → st' (a * 10 + b) = st (a * 10 + b)) (fun f q st' hq hst' => by
          left
          refine ⟨upd st' (j * 10 + q) (iI (slp fb j q : Nat)), ⟨fun b hb => ?_, fun a b ha hb => ?_⟩, ?_⟩
          · by_cases e : b = q
            · subst e; exact upd_s _ _ _
            · rw [upd_n (by omega)]; exact hst'.1 b (by omega)
          · rw [upd_n (by omega)]; exact hst'.2 a b ha hb
          · simp only [f_Seater_setSlops_L15]
            rw [if_neg (by rw [iI_le] <;> omega), q_slopped (by omega) (by omega) hf, bd_some, i_m10, iI_ck (by omega) (by omega), iI_cl (by omega)]
            simp only [lt]
            rw [sm1]) (fun f st' hst' => by
          refine ⟨st', hst', ?_⟩
          simp only [f_Seater_setSlops_L15]
          rw [if_pos (by rw [iI_le] <;> omega)]) fu 0 st (by omega) (by have := fu_big; omega) ⟨fun a ha => by omega, fun a c _ _ => rfl⟩
      obtain ⟨st', ⟨g1, g2⟩, g3⟩ := k3
      have g3 : f_Seater_setSlops_L15 (iI j) (iI ns) (iI fb) fu (0 : Int32) st = some st' := g3
      left
      refine ⟨st', fun a b ha hb => ?_, ?_⟩
      · by_cases e : a = j
        · subst e; exact g1 b hb
        · rw [g2 a b (by omega) hb]; exact hst a b (by omega) hb
      · simp only [f_Seater_setSlops_L2]
        rw [if_neg (by rw [iI_le] <;> omega), g3, bd_some]
        simp only [lt]
        rw [sm1]) (fun f st hst => by
      refine ⟨st, hst, ?_⟩
      simp only [f_Seater_setSlops_L2]
      rw [if_pos (by rw [iI_le] <;> omega)]) fu 0 sps (by omega) (by have := fu_big; omega) (fun a b ha _ => by omega)
  obtain ⟨sps', h2, e2⟩ := k2
  have e2 : f_Seater_setSlops_L2 (iI ns) (iI fb) fu (0 : Int32) sps = some sps' := e2
  refine ⟨sps', ?_, h2⟩
  unfold f_Seater_setSlops
  rw [e2, bd_some]
theorem slp_le {a b : Nat} (ha : a < 10) (hb : b < 10) : slp fb a b < 10 := by
  have := dst_lt ha hb
  unfold slp
  omega
theorem gnV_le {H : Nat → Nat} {q c a b : Nat} : gnV O T K H fb sl n q c a b ≤ 1000 := by
  unfold gnV
  split
  · omega
  · split <;> omega
theorem q_gainOf {H : Nat → Nat} (ht : tbl O T K H p n fb ns sl pa fbs sps) (hp : p ≤ 5) (hn : n ≤ 10) (ns10 : ns ≤ 10) {q c a b : Nat} (hq : q < c) (hc : c < p) (ha : a < ns) (hb : b < ns) (hab : a ≠ b) : f_Seater_gainOf (iI q) (iI c) (iI a) (iI b) pa sps fbs = some (iI (gnV O T K H fb sl n q c a b : Nat)) := by
  obtain ⟨t1, t2, t3⟩ := ht
  have hd : dst a b < ns ∧ 1 ≤ dst a b := by unfold dst; split <;> omega
  have hs := slp_le (fb := fb) (show a < 10 by omega) (show b < 10 by omega)
  unfold f_Seater_gainOf
  rw [i_m5, iI_ck (by omega) (by omega), iI_cl (by omega), t1 q c hq hc]
  simp only [lt]
  rw [iI_abs (by omega) (by omega), i_m10, iI_ck (by omega) (by omega), iI_cl (by omega), t3 a b ha hb, show (1000 : Int32) = iI 1000 from rfl, iI_sub]
  unfold gnV
  cases hf : fst0 (isP O T q c) n with
  | none =>
    rw [if_pos (show iI (on2 none) < 0 by decide)]
    rfl
  | some k =>
    have hk := (fst_lt _ _ _ hf).1
    have hbn : fbN K H sl ns k < 1024 := bitsN_1024 _ ns10
    rw [if_neg (show ¬ iI (on2 (some k)) < 0 by show ¬ iI (k : Int) < 0; rw [i_0, iI_lt] <;> omega), show on2 (some k) = (k : Int) from rfl, iI_ck (by omega) (by omega), iI_cl (by omega), t2 k hk, q_has (by omega) (by omega), bd_some]
    have htb : (fbN K H sl ns k).testBit (dst a b) = rch (K k) (H k) (dst a b) sl := by
      unfold fbN
      rw [bitsN_tb]
      unfold fbP
      simp [hd.1, hd.2]
    rw [htb]
    simp only [b01_eq0]
    cases rch (K k) (H k) (dst a b) sl
    · rfl
    · simp only [Bool.true_eq_false, if_false, bd_some, Bool.false_eq_true, if_true]
      congr 2
      omega
end
