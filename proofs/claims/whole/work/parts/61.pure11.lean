/-- the reference's list of matches, but for the empty one -/
def lmS (S O T K H : Nat → Nat) (sl n : Nat) : List Nat := lm (canP S O T K H sl) (djP (bothP O T)) n n
theorem slopP_lt {S O T : Nat → Nat} {fb k : Nat} (h1 : S (O k) < 10) (h2 : S (T k) < 10) : slopP S O T fb k < 1000 := by
  have d := dst_lt h1 h2
  unfold slopP slp
  omega
theorem r_matching {x sp : Nat → Int32} {S O T K Y Z : Nat → Nat} {p n fb ns sl : Nat} (hx : xv x S O T K Y Z p n fb) (ho : xok S O T K Y Z p n fb ns) (hs : sl < 10) :
    ∃ sp', f_M_matching x sp (iI (ns : Nat)) (iI (sl : Nat)) = some (iI ((2 * pc10 (Fm (slopP S O T fb) (lmS S O T K (H0 K Y Z) sl n)).1 : Nat) : Int), iI ((Fm (slopP S O T fb) (lmS S O T K (H0 K Y Z) sl n)).1 : Nat), iI ((Fm (slopP S O T fb) (lmS S O T K (H0 K Y Z) sl n)).2 : Nat), iI ((1 + (lmS S O T K (H0 K Y Z) sl n).length : Nat) : Int), sp') := by
  obtain ⟨sp', e1, h1⟩ := r_mL17 (sp := sp) hx ho hs
  have hS : ∀ i, i < n → slopP S O T fb i < 1000 := fun i hi => by
    obtain ⟨p5, n10, ns10, f1, s1, b⟩ := ho
    obtain ⟨b1, b2, -⟩ := b i hi
    exact slopP_lt (by have := s1 _ b1; omega) (by have := s1 _ b2; omega)
  have e2 := r_mL59 hx ho hs hS h1
  obtain ⟨l1, l2⟩ := lm_ok (can := canP S O T K (H0 K Y Z) sl) (dj := djP (bothP O T)) ho.2.1 hS n (by omega)
  obtain ⟨F1, F2⟩ := Fm_ok _ l1
  refine ⟨sp', ?_⟩
  unfold f_M_matching
  rw [e1]
  simp only [bd]
  rw [e2]
  simp only
  rw [r_bits _ F1]
  have p1 := pc10_le _ F1
  simp only [i_2, iI_mul]
  rfl
