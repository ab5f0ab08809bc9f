/-! the tape -/
def byt (w s : Int32) : Int32 := vp_nar .byte ((w >>> (s &&& 31)).toInt8.toInt32)
def up4 (t : Nat → Int32) (n : Nat) (w : Int32) : Nat → Int32 := upd (upd (upd (upd t n (byt w 24)) (n + 1) (byt w 16)) (n + 2) (byt w 8)) (n + 3) (byt w 0)
section
variable {w l1 l2 l3 l4 l5 : Int32} {t : Nat → Int32} {len f : Nat}
theorem ap_step {s : Int} (h0 : 0 ≤ s) (h1 : s ≤ 24) (hl : len < 800) : f_Reader_append_L3 w (f + 1) (iI s) t (iI (len : Nat)) = f_Reader_append_L3 w f (iI (s - 8)) (upd t len (byt w (iI s))) (iI ((len + 1 : Nat) : Int)) := by
  simp only [f_Reader_append_L3]
  rw [if_neg (show ¬ iI s < 0 by rw [i_0, iI_lt] <;> omega), if_neg (show ¬ (800 : Int32) ≤ iI (len : Nat) by rw [show (800 : Int32) = iI 800 from rfl, iI_le] <;> omega), iI_ck hl (by omega), lt_eq, lt_eq, sm1, iI_cl (by omega), show (-8 : Int32) = iI (-8) from rfl, iI_add]
  rfl
theorem q_append (hl : len + 4 ≤ 800) : f_Reader_append w t (iI (len : Nat)) = some (up4 t len w, iI ((len + 4 : Nat) : Int)) := by
  obtain ⟨k, hk⟩ : ∃ k, fu = k + 5 := ⟨fu - 5, by have := fu_big; omega⟩
  unfold f_Reader_append
  rw [hk, show (24 : Int32) = iI 24 from rfl, ap_step (by omega) (by omega) (by omega), ap_step (by omega) (by omega) (by omega), ap_step (by omega) (by omega) (by omega), ap_step (by omega) (by omega) (by omega)]
  have e : ∀ t n, f_Reader_append_L3 w (k + 1) (iI (24 - 8 - 8 - 8 - 8)) t n = some (t, n) := fun t n => by
    simp only [f_Reader_append_L3]
    exact if_pos (by decide)
  rw [e, bd_some]
  rfl
theorem fd_step {j : Nat} {s : Int32} (hj : j < 20) (hl : len < 800) (hw : (if (4 : Int32) ≤ iI (j : Nat) then if (8 : Int32) ≤ iI (j : Nat) then if (12 : Int32) ≤ iI (j : Nat) then if (16 : Int32) ≤ iI (j : Nat) then some l5 else some l4 else some l3 else some l2 else some l1 : Option Int32) = some w) (hs : (24 : Int32) - 8 * (iI (j : Nat) - iI (j : Nat) / 4 * 4) = s) : f_M_feed_L23 l1 l2 l3 l4 l5 (f + 1) (iI (j : Nat)) t (iI (len : Nat)) = f_M_feed_L23 l1 l2 l3 l4 l5 f (iI ((j + 1 : Nat) : Int)) (upd t len (byt w s)) (iI ((len + 1 : Nat) : Int)) := by
  simp only [f_M_feed_L23]
  rw [if_neg (show ¬ (20 : Int32) ≤ iI (j : Nat) by rw [show (20 : Int32) = iI 20 from rfl, iI_le] <;> omega), hw, bd_some, hs, iI_ck hl (by omega), lt_eq, lt_eq, sm1, sm1, iI_cl (by omega)]
  rfl
theorem r_feedL (hl : len + 20 ≤ 800) : f_M_feed_L23 l1 l2 l3 l4 l5 fu (0 : Int32) t (iI (len : Nat)) = some (up4 (up4 (up4 (up4 (up4 t len l1) (len + 4) l2) (len + 8) l3) (len + 12) l4) (len + 16) l5, iI ((len + 20 : Nat) : Int)) := by
  obtain ⟨k, hk⟩ : ∃ k, fu = k + 21 := ⟨fu - 21, by have := fu_big; omega⟩
  rw [hk, show (0 : Int32) = iI ((0 : Nat) : Int) from rfl]
  rw [fd_step (j := 0) (w := l1) (s := 24) (by omega) (by omega) rfl (by decide)]
  rw [fd_step (j := 1) (w := l1) (s := 16) (by omega) (by omega) rfl (by decide)]
  rw [fd_step (j := 2) (w := l1) (s := 8) (by omega) (by omega) rfl (by decide)]
  rw [fd_step (j := 3) (w := l1) (s := 0) (by omega) (by omega) rfl (by decide)]
  rw [fd_step (j := 4) (w := l2) (s := 24) (by omega) (by omega) rfl (by decide)]
  rw [fd_step (j := 5) (w := l2) (s := 16) (by omega) (by omega) rfl (by decide)]
  rw [fd_step (j := 6) (w := l2) (s := 8) (by omega) (by omega) rfl (by decide)]
  rw [fd_step (j := 7) (w := l2) (s := 0) (by omega) (by omega) rfl (by decide)]
  rw [fd_step (j := 8) (w := l3) (s := 24) (by omega) (by omega) rfl (by decide)]
  rw [fd_step (j := 9) (w := l3) (s := 16) (by omega) (by omega) rfl (by decide)]
  rw [fd_step (j := 10) (w := l3) (s := 8) (by omega) (by omega) rfl (by decide)]
  rw [fd_step (j := 11) (w := l3) (s := 0) (by omega) (by omega) rfl (by decide)]
  rw [fd_step (j := 12) (w := l4) (s := 24) (by omega) (by omega) rfl (by decide)]
  rw [fd_step (j := 13) (w := l4) (s := 16) (by omega) (by omega) rfl (by decide)]
  rw [fd_step (j := 14) (w := l4) (s := 8) (by omega) (by omega) rfl (by decide)]
  rw [fd_step (j := 15) (w := l4) (s := 0) (by omega) (by omega) rfl (by decide)]
  rw [fd_step (j := 16) (w := l5) (s := 24) (by omega) (by omega) rfl (by decide)]
  rw [fd_step (j := 17) (w := l5) (s := 16) (by omega) (by omega) rfl (by decide)]
  rw [fd_step (j := 18) (w := l5) (s := 8) (by omega) (by omega) rfl (by decide)]
  rw [fd_step (j := 19) (w := l5) (s := 0) (by omega) (by omega) rfl (by decide)]
  have e : ∀ t n, f_M_feed_L23 l1 l2 l3 l4 l5 (k + 1) (iI ((19 + 1 : Nat) : Int)) t n = some (t, n) := fun t n => by
    simp only [f_M_feed_L23]
    exact if_pos (by decide)
  rw [e]
  rfl
theorem e_feed (hl : len ≤ 800) : ∃ t' len', len' ≤ 800 ∧ ∃ a, f_X_feed l1 l2 l3 l4 l5 t (iI (len : Nat)) = some (a, t', iI (len' : Nat)) ∧ f_M_feed l1 l2 l3 l4 l5 t (iI (len : Nat)) = some (a, 0, t', iI (len' : Nat)) := by
  unfold f_X_feed f_M_feed
  have e20 : iI (len : Nat) + 20 = iI ((len + 20 : Nat) : Int) := by rw [show (20 : Int32) = iI 20 from rfl, iI_add]; rfl
  rw [e20]
  by_cases c : len + 20 ≤ 800
  · rw [if_pos (show iI (len : Nat) ≤ 780 by rw [show (780 : Int32) = iI 780 from rfl, iI_le] <;> omega), if_pos (show iI ((len + 20 : Nat) : Int) ≤ 800 by rw [show (800 : Int32) = iI 800 from rfl, iI_le] <;> omega), q_append (by omega), bd_some, q_append (by omega), bd_some, q_append (by omega), bd_some, q_append (by omega), bd_some, q_append (by omega), bd_some, r_feedL c, bd_some]
    exact ⟨_, len + 20, c, _, rfl, rfl⟩
  · rw [if_neg (show ¬ iI (len : Nat) ≤ 780 by rw [show (780 : Int32) = iI 780 from rfl, iI_le] <;> omega), if_neg (show ¬ iI ((len + 20 : Nat) : Int) ≤ 800 by rw [show (800 : Int32) = iI 800 from rfl, iI_le] <;> omega)]
    exact ⟨_, len, hl, _, rfl, rfl⟩
end
