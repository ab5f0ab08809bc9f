/-! pictures, and what is past -/
/-- seats, the two of a pair, kinds, years, inches sawn; how many pairs; years gone -/
abbrev Pic : Type := (Nat → Nat) × (Nat → Nat) × (Nat → Nat) × (Nat → Nat) × (Nat → Nat) × (Nat → Nat) × Nat × Nat
def xP (x : Nat → Int32) (P : Pic) (p fb : Nat) : Prop := xv x P.1 P.2.1 P.2.2.1 P.2.2.2.1 P.2.2.2.2.1 P.2.2.2.2.2.1 p P.2.2.2.2.2.2.1 fb ∧ x 57 = iI (P.2.2.2.2.2.2.2 : Nat)
def cP (so on ot ki ye sa : Nat → Int32) (pr go : Int32) (P : Pic) (p : Nat) : Prop := cv so on ot ki ye sa P.1 P.2.1 P.2.2.1 P.2.2.2.1 P.2.2.2.2.1 P.2.2.2.2.2.1 p P.2.2.2.2.2.2.1 ∧ pr = iI (P.2.2.2.2.2.2.1 : Nat) ∧ go = iI (P.2.2.2.2.2.2.2 : Nat)
def okP (P : Pic) (p fb ns sl : Nat) : Prop := nok P.1 P.2.1 P.2.2.1 P.2.2.2.1 P.2.2.2.2.1 P.2.2.2.2.2.1 p P.2.2.2.2.2.2.1 fb ns sl ∧ P.2.2.2.2.2.2.2 ≤ 999 ∧ ∀ k, k < P.2.2.2.2.2.2.1 → P.2.2.2.2.1 k ≤ 99 + P.2.2.2.2.2.2.2
/-- what act a, with w and m, undoes: from (S ..) to (S' ..) -/
def unD (a w m : Int32) (P P' : Pic) (p : Nat) : Prop :=
  (a = 0 ∧ P'.2.2.2.2.2.2.1 = P.2.2.2.2.2.2.1 ∧ P'.2.2.2.2.2.2.2 + 1 = P.2.2.2.2.2.2.2 ∧ (∀ q, q < p → P'.1 q = P.1 q) ∧ ∀ k, k < P.2.2.2.2.2.2.1 → P'.2.1 k = P.2.1 k ∧ P'.2.2.1 k = P.2.2.1 k ∧ P'.2.2.2.1 k = P.2.2.2.1 k ∧ P'.2.2.2.2.1 k + 1 = P.2.2.2.2.1 k ∧ P'.2.2.2.2.2.1 k = P.2.2.2.2.2.1 k) ∨
  (a = 1 ∧ ∃ i c : Nat, i < P.2.2.2.2.2.2.1 ∧ w = iI i ∧ m = iI c ∧ P'.2.2.2.2.2.2.1 = P.2.2.2.2.2.2.1 ∧ P'.2.2.2.2.2.2.2 = P.2.2.2.2.2.2.2 ∧ (∀ q, q < p → P'.1 q = P.1 q) ∧ ∀ k, k < P.2.2.2.2.2.2.1 → P'.2.1 k = P.2.1 k ∧ P'.2.2.1 k = P.2.2.1 k ∧ P'.2.2.2.1 k = P.2.2.2.1 k ∧ P'.2.2.2.2.1 k = P.2.2.2.2.1 k ∧ P.2.2.2.2.2.1 k = (if k = i then P'.2.2.2.2.2.1 k + c else P'.2.2.2.2.2.1 k)) ∨
  (a = 2 ∧ ∃ i s : Nat, i < p ∧ w = iI i ∧ m = iI s ∧ P'.2.2.2.2.2.2.1 = P.2.2.2.2.2.2.1 ∧ P'.2.2.2.2.2.2.2 = P.2.2.2.2.2.2.2 ∧ P'.1 i = s ∧ (∀ q, q < p → q ≠ i → P'.1 q = P.1 q) ∧ ∀ k, k < P.2.2.2.2.2.2.1 → P'.2.1 k = P.2.1 k ∧ P'.2.2.1 k = P.2.2.1 k ∧ P'.2.2.2.1 k = P.2.2.2.1 k ∧ P'.2.2.2.2.1 k = P.2.2.2.2.1 k ∧ P'.2.2.2.2.2.1 k = P.2.2.2.2.2.1 k) ∨
  (a = 3 ∧ P'.2.2.2.2.2.2.1 + 1 = P.2.2.2.2.2.2.1 ∧ P'.2.2.2.2.2.2.2 = P.2.2.2.2.2.2.2 ∧ (∀ q, q < p → P'.1 q = P.1 q) ∧ ∀ k, k < P'.2.2.2.2.2.2.1 → P'.2.1 k = P.2.1 k ∧ P'.2.2.1 k = P.2.2.1 k ∧ P'.2.2.2.1 k = P.2.2.2.1 k ∧ P'.2.2.2.2.1 k = P.2.2.2.2.1 k ∧ P'.2.2.2.2.2.1 k = P.2.2.2.2.2.1 k)
/-- the past: h 0 as it is, h 1 as it was before the last act, and so on; c acts -/
def pstOK (p fb ns sl : Nat) (h : Nat → Pic) (c : Nat) (acts : Int32) (past pa pw pm : Nat → Int32) (pn pc : Int32) : Prop := c ≤ 16 ∧ acts = iI (c : Nat) ∧ pc = iI (c : Nat) ∧ ∃ nx, nx < 16 ∧ pn = iI (nx : Nat) ∧ ∀ i, i < c → okP (h (i + 1)) p fb ns sl ∧ xP (fun j => past (58 * (c - 1 - i) + j)) (h (i + 1)) p fb ∧ unD (pa ((nx + 15 - i) % 16)) (pw ((nx + 15 - i) % 16)) (pm ((nx + 15 - i) % 16)) (h i) (h (i + 1)) p
theorem xP_cp {v x : Nat → Int32} {P : Pic} {p fb ns sl : Nat} (ho : okP P p fb ns sl) (h : xP v P p fb) (e : ∀ j, j < 58 → x j = v j) : xP x P p fb := ⟨xv_cp ho.1.1.1 ho.1.1.2.1 h.1 e, by rw [e 57 (by omega)]; exact h.2⟩
def hcons (P : Pic) (h : Nat → Pic) : Nat → Pic
  | 0 => P
  | i + 1 => h i
section
variable {v x past pa pw pm so on ot ki ye sa : Nat → Int32} {acts pn pc pr go a w m : Int32} {p fb ns sl c : Nat} {h : Nat → Pic} {P : Pic}
theorem q_acted {nx : Nat} (hn : nx < 16) (hc : c ≤ 16) : f_X_acted a w m pa pw pm (iI (nx : Nat)) (iI (c : Nat)) = some (0, upd pa nx a, upd pw nx w, upd pm nx m, iI (((nx + 1) % 16 : Nat) : Int), iI ((min (c + 1) 16 : Nat) : Int)) := by
  unfold f_X_acted f_Past_keep
  have e1 : (if (16 : Int32) < iI ((c + 1 : Nat) : Int) then (16 : Int32) else iI ((c + 1 : Nat) : Int)) = iI ((min (c + 1) 16 : Nat) : Int) := by
    rw [i_16]
    by_cases e : c = 16
    · rw [if_pos (by rw [iI_lt] <;> omega)]; exact congrArg iI (by omega)
    · rw [if_neg (by rw [iI_lt] <;> omega)]; exact congrArg iI (by omega)
  have e2 : iI ((nx + 1 : Nat) : Int) - iI ((nx + 1 : Nat) : Int) / 16 * 16 = iI (((nx + 1) % 16 : Nat) : Int) := iI_mod (b := 16) (by omega) (by omega) (by omega)
  rw [iI_ck (by omega) (by omega), iI_ck (by omega) (by omega), iI_ck (by omega) (by omega), sm1, sm1, e2, e1, lt_eq, lt_eq, iI_cl (by omega), bd_some]
/-- an act more -/
theorem pst_push (hp : pstOK p fb ns sl h c acts past pa pw pm pn pc) (ho : okP (h 0) p fb ns sl) (hv : xP v (h 0) p fb) (hu : unD a w m P (h 0) p) : ∃ past' acts' R, f_M_remembers v past acts = some (past', acts') ∧ f_X_acted a w m pa pw pm pn pc = some R ∧ R.1 = 0 ∧ pstOK p fb ns sl (hcons P h) (min (c + 1) 16) acts' past' R.2.1 R.2.2.1 R.2.2.2.1 R.2.2.2.2.1 R.2.2.2.2.2 := by
  obtain ⟨c16, rfl, rfl, nx, hnx, rfl, hi⟩ := hp
  obtain ⟨past', e1, e2, e3⟩ := r_remembers (v := v) (past := past) c16
  refine ⟨past', _, _, e1, q_acted hnx c16, rfl, by omega, rfl, rfl, (nx + 1) % 16, by omega, rfl, fun i hi2 => ?_⟩
  show okP (hcons P h (i + 1)) p fb ns sl ∧ xP (fun j => past' (58 * (min (c + 1) 16 - 1 - i) + j)) (hcons P h (i + 1)) p fb ∧ unD (upd pa nx a (((nx + 1) % 16 + 15 - i) % 16)) (upd pw nx w (((nx + 1) % 16 + 15 - i) % 16)) (upd pm nx m (((nx + 1) % 16 + 15 - i) % 16)) (hcons P h i) (hcons P h (i + 1)) p
  cases i with
  | zero =>
    have hs : ((nx + 1) % 16 + 15 - 0) % 16 = nx := by omega
    rw [hs, upd_s, upd_s, upd_s]
    refine ⟨ho, ?_, hu⟩
    exact xP_cp ho hv (fun j hj => by rw [Nat.sub_zero]; exact e2 j hj)
  | succ i =>
    have hs : ((nx + 1) % 16 + 15 - (i + 1)) % 16 = (nx + 15 - i) % 16 := by omega
    have hne : (nx + 15 - i) % 16 ≠ nx := by omega
    obtain ⟨q1, q2, q3⟩ := hi i (by omega)
    rw [hs, upd_n hne, upd_n hne, upd_n hne]
    refine ⟨q1, ?_, q3⟩
    refine xP_cp q1 q2 (fun j hj => ?_)
    show past' (58 * (min (c + 1) 16 - 1 - (i + 1)) + j) = past (58 * (c - 1 - i) + j)
    rw [e3 _ _ (by omega) hj]
    exact congrArg past (by omega)
end
