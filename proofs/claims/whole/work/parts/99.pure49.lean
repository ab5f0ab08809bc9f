/-! rows kept and brought back -/
theorem i_58 (a j : Nat) : (58 : Int32) * iI (a : Nat) + iI (j : Nat) = iI ((58 * a + j : Nat) : Int) := by
  rw [show (58 : Int32) = iI 58 from rfl, iI_mul, iI_add]; exact congrArg iI (by omega)
theorem i58 : (58 : Int32) = iI 58 := rfl
section
variable {v x past kept : Nat → Int32}
theorem r_remains : ∃ v', f_M_remains v x = some v' ∧ ∀ j, j < 58 → v' j = x j := by
  have key := lp (L := fun fz jz (sz : (Nat → Int32)) => f_M_remains_L2 x fz (iI (jz : Int)) sz) (n := 58) (I := fun j st => ∀ k, k < j → st k = x k) (Post := fun r => ∀ k, k < 58 → r k = x k) (fun f j st hj hst => ?_) (fun f st hst => ?_) fu 0 v (by omega) (by have := fu_big; omega) (fun j hj => by omega)
  · obtain ⟨r, hr, he⟩ := key
    have he2 : f_M_remains_L2 x fu (0 : Int32) v = some r := he
    refine ⟨r, ?_, hr⟩
    unfold f_M_remains
    rw [he2, bd_some]
  · refine Or.inl ⟨upd st j (x j), fun k hk => ?_, ?_⟩
    · by_cases c : k = j
      · subst c; exact upd_s _ _ _
      · rw [upd_n c]; exact hst k (by omega)
    · simp only [f_M_remains_L2]
      rw [i58, if_neg (by rw [iI_le] <;> omega), iI_ck (by omega) (by omega), iI_ck (by omega) (by omega), iI_cl (by omega), lt_eq, sm1]
  · refine ⟨st, hst, ?_⟩
    simp only [f_M_remains_L2]
    rw [i58, if_pos (by rw [iI_le] <;> omega)]
theorem r_undoL {a : Nat} (ha : a < 16) : ∃ v', f_M_undo_L38 past (iI a) fu (0 : Int32) v = some v' ∧ ∀ j, j < 58 → v' j = past (58 * a + j) := by
  have key := lp (L := fun fz jz (sz : (Nat → Int32)) => f_M_undo_L38 past (iI a) fz (iI (jz : Int)) sz) (n := 58) (I := fun j st => ∀ k, k < j → st k = past (58 * a + k)) (Post := fun r => ∀ k, k < 58 → r k = past (58 * a + k)) (fun f j st hj hst => ?_) (fun f st hst => ?_) fu 0 v (by omega) (by have := fu_big; omega) (fun j hj => by omega)
  · obtain ⟨r, hr, he⟩ := key
    exact ⟨r, he, hr⟩
  · refine Or.inl ⟨upd st j (past (58 * a + j)), fun k hk => ?_, ?_⟩
    · by_cases c : k = j
      · subst c; exact upd_s _ _ _
      · rw [upd_n c]; exact hst k (by omega)
    · simp only [f_M_undo_L38]
      rw [i_58, i58, if_neg (by rw [iI_le] <;> omega), iI_ck (by omega) (by omega), iI_ck (by omega) (by omega), iI_cl (by omega), iI_cl (by omega), lt_eq, sm1]
  · refine ⟨st, hst, ?_⟩
    simp only [f_M_undo_L38]
    rw [i_58, i58, if_pos (by rw [iI_le] <;> omega)]
theorem r_backL {a : Nat} (ha : a < 3) : ∃ v', f_M_back_L32 (iI a) kept fu (0 : Int32) v = some v' ∧ ∀ j, j < 58 → v' j = kept (58 * a + j) := by
  have key := lp (L := fun fz jz (sz : (Nat → Int32)) => f_M_back_L32 (iI a) kept fz (iI (jz : Int)) sz) (n := 58) (I := fun j st => ∀ k, k < j → st k = kept (58 * a + k)) (Post := fun r => ∀ k, k < 58 → r k = kept (58 * a + k)) (fun f j st hj hst => ?_) (fun f st hst => ?_) fu 0 v (by omega) (by have := fu_big; omega) (fun j hj => by omega)
  · obtain ⟨r, hr, he⟩ := key
    exact ⟨r, he, hr⟩
  · refine Or.inl ⟨upd st j (kept (58 * a + j)), fun k hk => ?_, ?_⟩
    · by_cases c : k = j
      · subst c; exact upd_s _ _ _
      · rw [upd_n c]; exact hst k (by omega)
    · simp only [f_M_back_L32]
      rw [i_58, i58, if_neg (by rw [iI_le] <;> omega), iI_ck (by omega) (by omega), iI_ck (by omega) (by omega), iI_cl (by omega), iI_cl (by omega), lt_eq, sm1]
  · refine ⟨st, hst, ?_⟩
    simp only [f_M_back_L32]
    rw [i_58, i58, if_pos (by rw [iI_le] <;> omega)]
theorem r_imageL {a : Nat} (ha : a < 3) : ∃ k', f_M_image_L34 v (iI a) fu (0 : Int32) kept = some k' ∧ (∀ j, j < 58 → k' (58 * a + j) = v j) ∧ ∀ i, ¬ (58 * a ≤ i ∧ i < 58 * a + 58) → k' i = kept i := by
  have key := lp (L := fun fz jz (sz : (Nat → Int32)) => f_M_image_L34 v (iI a) fz (iI (jz : Int)) sz) (n := 58) (I := fun j st => (∀ k, k < j → st (58 * a + k) = v k) ∧ ∀ i, ¬ (58 * a ≤ i ∧ i < 58 * a + 58) → st i = kept i) (Post := fun st => (∀ k, k < 58 → st (58 * a + k) = v k) ∧ ∀ i, ¬ (58 * a ≤ i ∧ i < 58 * a + 58) → st i = kept i) (fun f j st hj hst => ?_) (fun f st hst => ?_) fu 0 kept (by omega) (by have := fu_big; omega) ⟨fun j hj => by omega, fun _ _ => rfl⟩
  · obtain ⟨r, hr, he⟩ := key
    exact ⟨r, he, hr⟩
  · refine Or.inl ⟨upd st (58 * a + j) (v j), ⟨fun k hk => ?_, fun i hi => ?_⟩, ?_⟩
    · by_cases c : k = j
      · subst c; exact upd_s _ _ _
      · rw [upd_n (by omega)]; exact hst.1 k (by omega)
    · rw [upd_n (by omega)]; exact hst.2 i hi
    · simp only [f_M_image_L34]
      rw [i_58, i58, if_neg (by rw [iI_le] <;> omega), iI_ck (by omega) (by omega), iI_ck (by omega) (by omega), iI_cl (by omega), iI_cl (by omega), lt_eq, sm1]
  · refine ⟨st, hst, ?_⟩
    simp only [f_M_image_L34]
    rw [i_58, i58, if_pos (by rw [iI_le] <;> omega)]
theorem r_remL {a : Nat} (ha : a < 16) : ∃ k', f_M_remembers_L51 v (iI a) fu (0 : Int32) past = some k' ∧ (∀ j, j < 58 → k' (58 * a + j) = v j) ∧ ∀ i, ¬ (58 * a ≤ i ∧ i < 58 * a + 58) → k' i = past i := by
  have key := lp (L := fun fz jz (sz : (Nat → Int32)) => f_M_remembers_L51 v (iI a) fz (iI (jz : Int)) sz) (n := 58) (I := fun j st => (∀ k, k < j → st (58 * a + k) = v k) ∧ ∀ i, ¬ (58 * a ≤ i ∧ i < 58 * a + 58) → st i = past i) (Post := fun st => (∀ k, k < 58 → st (58 * a + k) = v k) ∧ ∀ i, ¬ (58 * a ≤ i ∧ i < 58 * a + 58) → st i = past i) (fun f j st hj hst => ?_) (fun f st hst => ?_) fu 0 past (by omega) (by have := fu_big; omega) ⟨fun j hj => by omega, fun _ _ => rfl⟩
  · obtain ⟨r, hr, he⟩ := key
    exact ⟨r, he, hr⟩
  · refine Or.inl ⟨upd st (58 * a + j) (v j), ⟨fun k hk => ?_, fun i hi => ?_⟩, ?_⟩
    · by_cases c : k = j
      · subst c; exact upd_s _ _ _
      · rw [upd_n (by omega)]; exact hst.1 k (by omega)
    · rw [upd_n (by omega)]; exact hst.2 i hi
    · simp only [f_M_remembers_L51]
      rw [i_58, i58, if_neg (by rw [iI_le] <;> omega), iI_ck (by omega) (by omega), iI_ck (by omega) (by omega), iI_cl (by omega), iI_cl (by omega), lt_eq, sm1]
  · refine ⟨st, hst, ?_⟩
    simp only [f_M_remembers_L51]
    rw [i_58, i58, if_pos (by rw [iI_le] <;> omega)]
theorem r_remS : ∃ k', f_M_remembers_L11 fu (0 : Int32) past = some k' ∧ (∀ i, i < 870 → k' i = past (i + 58)) := by
  have i870 : (870 : Int32) = iI 870 := rfl
  have key := lp (L := fun fz jz (sz : (Nat → Int32)) => f_M_remembers_L11  fz (iI (jz : Int)) sz) (n := 870) (I := fun j st => (∀ i, i < j → st i = past (i + 58)) ∧ ∀ i, j ≤ i → st i = past i) (Post := fun st => ∀ i, i < 870 → st i = past (i + 58)) (fun f j st hj hst => ?_) (fun f st hst => ?_) fu 0 past (by omega) (by have := fu_big; omega) ⟨fun j hj => by omega, fun _ _ => rfl⟩
  · obtain ⟨r, hr, he⟩ := key
    exact ⟨r, he, hr⟩
  · refine Or.inl ⟨upd st j (past (j + 58)), ⟨fun i hi => ?_, fun i hi => ?_⟩, ?_⟩
    · by_cases c : i = j
      · subst c; exact upd_s _ _ _
      · rw [upd_n c]; exact hst.1 i (by omega)
    · rw [upd_n (by omega)]; exact hst.2 i (by omega)
    · have e : iI (j : Int) + (58 : Int32) = iI ((j + 58 : Nat) : Int) := by rw [i58, iI_add]; exact congrArg iI (by omega)
      simp only [f_M_remembers_L11]
      rw [e, i870, if_neg (by rw [iI_le] <;> omega), iI_ck (by omega) (by omega), iI_ck (by omega) (by omega), iI_cl (by omega), iI_cl (by omega), hst.2 (j + 58) (by omega), lt_eq, sm1]
  · refine ⟨st, hst.1, ?_⟩
    simp only [f_M_remembers_L11]
    rw [i870, if_pos (by rw [iI_le] <;> omega)]
/-- the row is remembered; of sixteen the eldest goes -/
theorem r_remembers {c : Nat} (hc : c ≤ 16) : ∃ past', f_M_remembers v past (iI c) = some (past', iI ((min (c + 1) 16 : Nat) : Int)) ∧ (∀ j, j < 58 → past' (58 * (min (c + 1) 16 - 1) + j) = v j) ∧ ∀ a j, a + 1 < min (c + 1) 16 → j < 58 → past' (58 * a + j) = past (58 * (a + (c + 1 - min (c + 1) 16)) + j) := by
  unfold f_M_remembers
  by_cases h : c = 16
  · subst h
    obtain ⟨k1, e1, h1⟩ := r_remS (past := past)
    obtain ⟨k2, e2, h2, h3⟩ := r_remL (v := v) (past := k1) (a := 15) (by omega)
    have e2 : f_M_remembers_L51 v (iI ((16 : Nat) : Int) - 1) fu (0 : Int32) k1 = some k2 := e2
    rw [if_pos (show iI ((16 : Nat) : Int) = 16 from rfl), e1, bd_some, lt_eq, bd_some, e2, bd_some, lt_eq]
    refine ⟨k2, rfl, h2, fun a j ha hj => ?_⟩
    rw [h3 _ (by omega), h1 _ (by omega)]
    exact congrArg past (by omega)
  · obtain ⟨k2, e2, h2, h3⟩ := r_remL (v := v) (past := past) (a := c) (by omega)
    rw [i_16, if_neg (by rw [iI_eq] <;> omega), bd_some, e2, bd_some, lt_eq, sm1]
    have hm : min (c + 1) 16 = c + 1 := by omega
    rw [hm]
    refine ⟨k2, rfl, h2, fun a j ha hj => ?_⟩
    rw [h3 _ (by omega)]
    exact congrArg past (by omega)
end
