/-! without a table -/
theorem n_noTable : f_X_noTable (0 : Int32) = some (1, 1) := rfl
theorem n_noPerson (l : Int32) : f_X_noPerson l (0 : Int32) = some (1, 1) := by
  unfold f_X_noPerson
  by_cases c : l < 0
  · rw [if_pos c]; rfl
  · rw [if_neg c, if_pos (Int32.not_lt.mp c)]; rfl
theorem n_noPair (l : Int32) : f_X_noPair l (0 : Int32) = some (1, 1) := by
  unfold f_X_noPair
  by_cases c : l < 0
  · rw [if_pos c]; rfl
  · rw [if_neg c, if_pos (Int32.not_lt.mp c)]; rfl
theorem n_noTwo (l l' : Int32) : f_X_noTwo l l' (0 : Int32) = some (1, 1) := by
  unfold f_X_noTwo
  by_cases c : l < 0
  · rw [if_pos c]; rfl
  · rw [if_neg c, if_pos (Int32.not_lt.mp c)]; rfl
theorem n_seat {l1 : Int32} {nw_seatOf : Nat → Int32} {m_v : Nat → Int32} : f_X_seat l1 0 nw_seatOf = some (-1, 1) ∧ f_M_seat_N l1 m_v = some (-1, 0, 1, -1) := by
  unfold f_X_seat
  rw [n_noPerson]
  exact ⟨rfl, rfl⟩
theorem n_pair {l1 : Int32} {l2 : Int32} {bd_slack : Int32} {bd_forkBits : Int32} {nw_seatOf : Nat → Int32} {nw_one : Nat → Int32} {nw_other : Nat → Int32} {nw_kind : Nat → Int32} {nw_years : Nat → Int32} {nw_sawn : Nat → Int32} : f_X_pair l1 l2 bd_slack bd_forkBits nw_seatOf nw_one nw_other nw_kind nw_years nw_sawn 0 = some (-1, 1) ∧ f_M_pair_N l1 l2 = some (-1, 0, 1, -1) := by
  unfold f_X_pair
  rw [n_noPair]
  exact ⟨rfl, rfl⟩
theorem n_pairOf {l1 : Int32} {l2 : Int32} {nw_one : Nat → Int32} {nw_other : Nat → Int32} : f_X_pairOf l1 l2 0 nw_one nw_other 0 = some (-1, 1) ∧ f_M_pairOf_N l1 l2 = some (-1, 0, 1, -1) := by
  unfold f_X_pairOf
  rw [n_noTwo]
  exact ⟨rfl, rfl⟩
theorem n_feeders {l1 : Int32} {bd_slack : Int32} {nw_seatOf : Nat → Int32} {nw_one : Nat → Int32} {nw_other : Nat → Int32} {nw_kind : Nat → Int32} {nw_years : Nat → Int32} {nw_sawn : Nat → Int32} : f_X_feeders l1 bd_slack 0 nw_seatOf nw_one nw_other nw_kind nw_years nw_sawn 0 = some (-1, 1) ∧ f_M_feeders_N l1 = some (-1, 0, 1, -1) := by
  unfold f_X_feeders
  rw [n_noPerson]
  exact ⟨rfl, rfl⟩
theorem n_forks {l1 : Int32} {l2 : Int32} {bd_forkBits : Int32} {nw_seatOf : Nat → Int32} : f_X_forks l1 l2 0 bd_forkBits nw_seatOf = some (-1, 1) ∧ f_M_forks_N l1 l2 = some (-1, 0, 1, -1) := by
  unfold f_X_forks
  rw [n_noTwo]
  exact ⟨rfl, rfl⟩
theorem n_fed {bd_slack : Int32} {bd_forkBits : Int32} {nw_seatOf : Nat → Int32} {nw_one : Nat → Int32} {nw_other : Nat → Int32} {nw_kind : Nat → Int32} {nw_years : Nat → Int32} {nw_sawn : Nat → Int32} {sc_seatOf : Nat → Int32} {sc_handle : Nat → Int32} {sc_both : Nat → Int32} {sc_slopOf : Nat → Int32} {sc_forkBits : Int32} {sc_canBits : Int32} {sc_bestBits : Int32} {sc_bestSlops : Int32} {sl_bits : Nat → Int32} {sl_count : Int32} : f_X_fed bd_slack 0 bd_forkBits nw_seatOf nw_one nw_other nw_kind nw_years nw_sawn 0 sc_seatOf sc_handle sc_both sc_slopOf sc_forkBits sc_canBits sc_bestBits sc_bestSlops sl_bits sl_count = some (-1, 1, sc_seatOf, sc_handle, sc_both, sc_slopOf, sc_forkBits, sc_canBits, sc_bestBits, sc_bestSlops, sl_bits, sl_count) ∧ f_M_fed_N  = some (-1, 0, 1, -1) := by
  unfold f_X_fed
  rw [n_noTable]
  exact ⟨rfl, rfl⟩
theorem n_match {bd_slack : Int32} {bd_forkBits : Int32} {nw_seatOf : Nat → Int32} {nw_one : Nat → Int32} {nw_other : Nat → Int32} {nw_kind : Nat → Int32} {nw_years : Nat → Int32} {nw_sawn : Nat → Int32} {sc_seatOf : Nat → Int32} {sc_handle : Nat → Int32} {sc_both : Nat → Int32} {sc_slopOf : Nat → Int32} {sc_forkBits : Int32} {sc_canBits : Int32} {sc_bestBits : Int32} {sc_bestSlops : Int32} {sl_bits : Nat → Int32} {sl_count : Int32} : f_X_match bd_slack 0 bd_forkBits nw_seatOf nw_one nw_other nw_kind nw_years nw_sawn 0 sc_seatOf sc_handle sc_both sc_slopOf sc_forkBits sc_canBits sc_bestBits sc_bestSlops sl_bits sl_count = some (-1, 1, sc_seatOf, sc_handle, sc_both, sc_slopOf, sc_forkBits, sc_canBits, sc_bestBits, sc_bestSlops, sl_bits, sl_count) ∧ f_M_match_N  = some (-1, 0, 1, -1) := by
  unfold f_X_match
  rw [n_noTable]
  exact ⟨rfl, rfl⟩
theorem n_slops {bd_slack : Int32} {bd_forkBits : Int32} {nw_seatOf : Nat → Int32} {nw_one : Nat → Int32} {nw_other : Nat → Int32} {nw_kind : Nat → Int32} {nw_years : Nat → Int32} {nw_sawn : Nat → Int32} {sc_seatOf : Nat → Int32} {sc_handle : Nat → Int32} {sc_both : Nat → Int32} {sc_slopOf : Nat → Int32} {sc_forkBits : Int32} {sc_canBits : Int32} {sc_bestBits : Int32} {sc_bestSlops : Int32} {sl_bits : Nat → Int32} {sl_count : Int32} : f_X_slops bd_slack 0 bd_forkBits nw_seatOf nw_one nw_other nw_kind nw_years nw_sawn 0 sc_seatOf sc_handle sc_both sc_slopOf sc_forkBits sc_canBits sc_bestBits sc_bestSlops sl_bits sl_count = some (-1, 1, sc_seatOf, sc_handle, sc_both, sc_slopOf, sc_forkBits, sc_canBits, sc_bestBits, sc_bestSlops, sl_bits, sl_count) ∧ f_M_slops_N  = some (-1, 0, 1, -1) := by
  unfold f_X_slops
  rw [n_noTable]
  exact ⟨rfl, rfl⟩
theorem n_mate {l1 : Int32} {bd_slack : Int32} {bd_forkBits : Int32} {nw_seatOf : Nat → Int32} {nw_one : Nat → Int32} {nw_other : Nat → Int32} {nw_kind : Nat → Int32} {nw_years : Nat → Int32} {nw_sawn : Nat → Int32} {sc_seatOf : Nat → Int32} {sc_handle : Nat → Int32} {sc_both : Nat → Int32} {sc_slopOf : Nat → Int32} {sc_forkBits : Int32} {sc_canBits : Int32} {sc_bestBits : Int32} {sc_bestSlops : Int32} {sl_bits : Nat → Int32} {sl_count : Int32} : f_X_mate l1 bd_slack 0 bd_forkBits nw_seatOf nw_one nw_other nw_kind nw_years nw_sawn 0 sc_seatOf sc_handle sc_both sc_slopOf sc_forkBits sc_canBits sc_bestBits sc_bestSlops sl_bits sl_count = some (-1, 1, sc_seatOf, sc_handle, sc_both, sc_slopOf, sc_forkBits, sc_canBits, sc_bestBits, sc_bestSlops, sl_bits, sl_count) ∧ f_M_mate_N l1 = some (-1, 0, 1, -1) := by
  unfold f_X_mate
  rw [n_noPerson]
  exact ⟨rfl, rfl⟩
theorem n_starving {bd_slack : Int32} {bd_forkBits : Int32} {nw_seatOf : Nat → Int32} {nw_one : Nat → Int32} {nw_other : Nat → Int32} {nw_kind : Nat → Int32} {nw_years : Nat → Int32} {nw_sawn : Nat → Int32} {sc_seatOf : Nat → Int32} {sc_handle : Nat → Int32} {sc_both : Nat → Int32} {sc_slopOf : Nat → Int32} {sc_forkBits : Int32} {sc_canBits : Int32} {sc_bestBits : Int32} {sc_bestSlops : Int32} {sl_bits : Nat → Int32} {sl_count : Int32} : f_X_starving bd_slack 0 bd_forkBits nw_seatOf nw_one nw_other nw_kind nw_years nw_sawn 0 sc_seatOf sc_handle sc_both sc_slopOf sc_forkBits sc_canBits sc_bestBits sc_bestSlops sl_bits sl_count = some (-1, 1, sc_seatOf, sc_handle, sc_both, sc_slopOf, sc_forkBits, sc_canBits, sc_bestBits, sc_bestSlops, sl_bits, sl_count) ∧ f_M_starving_N  = some (-1, 0, 1, -1) := by
  unfold f_X_starving
  rw [n_noTable]
  exact ⟨rfl, rfl⟩
theorem n_matches {bd_slack : Int32} {bd_forkBits : Int32} {nw_seatOf : Nat → Int32} {nw_one : Nat → Int32} {nw_other : Nat → Int32} {nw_kind : Nat → Int32} {nw_years : Nat → Int32} {nw_sawn : Nat → Int32} {sc_seatOf : Nat → Int32} {sc_handle : Nat → Int32} {sc_both : Nat → Int32} {sc_slopOf : Nat → Int32} {sc_forkBits : Int32} {sc_canBits : Int32} {sc_bestBits : Int32} {sc_bestSlops : Int32} {sl_bits : Nat → Int32} {sl_count : Int32} : f_X_matches bd_slack 0 bd_forkBits nw_seatOf nw_one nw_other nw_kind nw_years nw_sawn 0 sc_seatOf sc_handle sc_both sc_slopOf sc_forkBits sc_canBits sc_bestBits sc_bestSlops sl_bits sl_count = some (-1, 1, sc_seatOf, sc_handle, sc_both, sc_slopOf, sc_forkBits, sc_canBits, sc_bestBits, sc_bestSlops, sl_bits, sl_count) ∧ f_M_matches_N  = some (-1, 0, 1, -1) := by
  unfold f_X_matches
  rw [n_noTable]
  exact ⟨rfl, rfl⟩
theorem n_handleIn {l1 : Int32} {l2 : Int32} {nw_kind : Nat → Int32} {nw_years : Nat → Int32} {nw_sawn : Nat → Int32} : f_X_handleIn l1 l2 nw_kind nw_years nw_sawn 0 = some (-1, 1) ∧ f_M_handleIn_N l1 l2 = some (-1, 0, 1, -1) := by
  unfold f_X_handleIn
  rw [n_noPair]
  exact ⟨rfl, rfl⟩
theorem n_feedsIn {l1 : Int32} {bd_slack : Int32} {nw_seatOf : Nat → Int32} {nw_one : Nat → Int32} {nw_other : Nat → Int32} {nw_kind : Nat → Int32} {nw_years : Nat → Int32} {nw_sawn : Nat → Int32} : f_X_feedsIn l1 bd_slack nw_seatOf nw_one nw_other nw_kind nw_years nw_sawn 0 = some (-1, 1) ∧ f_M_feedsIn_N l1 = some (-1, 0, 1, -1) := by
  unfold f_X_feedsIn
  rw [n_noPair]
  exact ⟨rfl, rfl⟩
theorem n_feedsOften {l1 : Int32} {bd_slack : Int32} {nw_seatOf : Nat → Int32} {nw_one : Nat → Int32} {nw_other : Nat → Int32} {nw_kind : Nat → Int32} {nw_years : Nat → Int32} {nw_sawn : Nat → Int32} : f_X_feedsOften l1 bd_slack nw_seatOf nw_one nw_other nw_kind nw_years nw_sawn 0 = some (-1, 1) ∧ f_M_feedsOften_N l1 = some (-1, 0, 1, -1) := by
  unfold f_X_feedsOften
  rw [n_noPair]
  exact ⟨rfl, rfl⟩
theorem n_fedIn {l1 : Int32} {bd_slack : Int32} {bd_forkBits : Int32} {nw_seatOf : Nat → Int32} {nw_one : Nat → Int32} {nw_other : Nat → Int32} {nw_kind : Nat → Int32} {nw_years : Nat → Int32} {nw_sawn : Nat → Int32} {sc_seatOf : Nat → Int32} {sc_handle : Nat → Int32} {sc_both : Nat → Int32} {sc_slopOf : Nat → Int32} {sc_forkBits : Int32} {sc_canBits : Int32} {sc_bestBits : Int32} {sc_bestSlops : Int32} {sl_bits : Nat → Int32} {sl_count : Int32} : f_X_fedIn l1 bd_slack 0 bd_forkBits nw_seatOf nw_one nw_other nw_kind nw_years nw_sawn 0 sc_seatOf sc_handle sc_both sc_slopOf sc_forkBits sc_canBits sc_bestBits sc_bestSlops sl_bits sl_count = some (-1, 1, sc_seatOf, sc_handle, sc_both, sc_slopOf, sc_forkBits, sc_canBits, sc_bestBits, sc_bestSlops, sl_bits, sl_count) ∧ f_M_fedIn_N l1 = some (-1, 0, 1, -1) := by
  unfold f_X_fedIn
  rw [n_noTable]
  exact ⟨rfl, rfl⟩
theorem n_bestYear {bd_slack : Int32} {bd_forkBits : Int32} {nw_seatOf : Nat → Int32} {nw_one : Nat → Int32} {nw_other : Nat → Int32} {nw_kind : Nat → Int32} {nw_years : Nat → Int32} {nw_sawn : Nat → Int32} {sc_seatOf : Nat → Int32} {sc_handle : Nat → Int32} {sc_both : Nat → Int32} {sc_slopOf : Nat → Int32} {sc_forkBits : Int32} {sc_canBits : Int32} {sc_bestBits : Int32} {sc_bestSlops : Int32} {sl_bits : Nat → Int32} {sl_count : Int32} : f_X_bestYear bd_slack 0 bd_forkBits nw_seatOf nw_one nw_other nw_kind nw_years nw_sawn 0 sc_seatOf sc_handle sc_both sc_slopOf sc_forkBits sc_canBits sc_bestBits sc_bestSlops sl_bits sl_count = some (-1, 1, sc_seatOf, sc_handle, sc_both, sc_slopOf, sc_forkBits, sc_canBits, sc_bestBits, sc_bestSlops, sl_bits, sl_count) ∧ f_M_bestYear_N  = some (-1, 0, 1, -1) := by
  unfold f_X_bestYear
  rw [n_noTable]
  exact ⟨rfl, rfl⟩
theorem n_allIn {bd_slack : Int32} {bd_forkBits : Int32} {nw_seatOf : Nat → Int32} {nw_one : Nat → Int32} {nw_other : Nat → Int32} {nw_kind : Nat → Int32} {nw_years : Nat → Int32} {nw_sawn : Nat → Int32} {sc_seatOf : Nat → Int32} {sc_handle : Nat → Int32} {sc_both : Nat → Int32} {sc_slopOf : Nat → Int32} {sc_forkBits : Int32} {sc_canBits : Int32} {sc_bestBits : Int32} {sc_bestSlops : Int32} {sl_bits : Nat → Int32} {sl_count : Int32} : f_X_allIn bd_slack 0 bd_forkBits nw_seatOf nw_one nw_other nw_kind nw_years nw_sawn 0 sc_seatOf sc_handle sc_both sc_slopOf sc_forkBits sc_canBits sc_bestBits sc_bestSlops sl_bits sl_count = some (-1, 1, sc_seatOf, sc_handle, sc_both, sc_slopOf, sc_forkBits, sc_canBits, sc_bestBits, sc_bestSlops, sl_bits, sl_count) ∧ f_M_allIn_N  = some (-1, 0, 1, -1) := by
  unfold f_X_allIn
  rw [n_noTable]
  exact ⟨rfl, rfl⟩
theorem n_seating {bd_seats : Int32} {bd_slack : Int32} {bd_forkBits : Int32} {nw_one : Nat → Int32} {nw_other : Nat → Int32} {nw_kind : Nat → Int32} {nw_years : Nat → Int32} {nw_sawn : Nat → Int32} {se_bestRow : Nat → Int32} {se_row : Nat → Int32} {se_pairAt : Nat → Int32} {se_hope : Nat → Int32} {se_hopeAt : Nat → Int32} {se_slopAt : Nat → Int32} {se_farBits : Nat → Int32} {se_gain : Nat → Int32} {se_worth : Nat → Int32} {se_bestWorth : Int32} {se_fresh : Int32} : f_X_seating bd_seats bd_slack 0 bd_forkBits nw_one nw_other nw_kind nw_years nw_sawn 0 se_bestRow se_row se_pairAt se_hope se_hopeAt se_slopAt se_farBits se_gain se_worth se_bestWorth se_fresh = some (-1, 1, se_bestRow, se_row, se_pairAt, se_hope, se_hopeAt, se_slopAt, se_farBits, se_gain, se_worth, se_bestWorth, se_fresh) ∧ f_M_seating_N  = some (-1, 0, 1, -1) := by
  unfold f_X_seating
  rw [n_noTable]
  exact ⟨rfl, rfl⟩
theorem n_seatAt {l1 : Int32} {bd_seats : Int32} {bd_slack : Int32} {bd_forkBits : Int32} {nw_one : Nat → Int32} {nw_other : Nat → Int32} {nw_kind : Nat → Int32} {nw_years : Nat → Int32} {nw_sawn : Nat → Int32} {se_bestRow : Nat → Int32} {se_row : Nat → Int32} {se_pairAt : Nat → Int32} {se_hope : Nat → Int32} {se_hopeAt : Nat → Int32} {se_slopAt : Nat → Int32} {se_farBits : Nat → Int32} {se_gain : Nat → Int32} {se_worth : Nat → Int32} {se_bestWorth : Int32} {se_fresh : Int32} : f_X_seatAt l1 bd_seats bd_slack 0 bd_forkBits nw_one nw_other nw_kind nw_years nw_sawn 0 se_bestRow se_row se_pairAt se_hope se_hopeAt se_slopAt se_farBits se_gain se_worth se_bestWorth se_fresh = some (-1, 1, se_bestRow, se_row, se_pairAt, se_hope, se_hopeAt, se_slopAt, se_farBits, se_gain, se_worth, se_bestWorth, se_fresh) ∧ f_M_seatAt_N l1 = some (-1, 0, 1, -1) := by
  unfold f_X_seatAt
  rw [n_noPerson]
  exact ⟨rfl, rfl⟩
theorem n_seatSlops {bd_seats : Int32} {bd_slack : Int32} {bd_forkBits : Int32} {nw_one : Nat → Int32} {nw_other : Nat → Int32} {nw_kind : Nat → Int32} {nw_years : Nat → Int32} {nw_sawn : Nat → Int32} {se_bestRow : Nat → Int32} {se_row : Nat → Int32} {se_pairAt : Nat → Int32} {se_hope : Nat → Int32} {se_hopeAt : Nat → Int32} {se_slopAt : Nat → Int32} {se_farBits : Nat → Int32} {se_gain : Nat → Int32} {se_worth : Nat → Int32} {se_bestWorth : Int32} {se_fresh : Int32} : f_X_seatSlops bd_seats bd_slack 0 bd_forkBits nw_one nw_other nw_kind nw_years nw_sawn 0 se_bestRow se_row se_pairAt se_hope se_hopeAt se_slopAt se_farBits se_gain se_worth se_bestWorth se_fresh = some (-1, 1, se_bestRow, se_row, se_pairAt, se_hope, se_hopeAt, se_slopAt, se_farBits, se_gain, se_worth, se_bestWorth, se_fresh) ∧ f_M_seatSlops_N  = some (-1, 0, 1, -1) := by
  unfold f_X_seatSlops
  rw [n_noTable]
  exact ⟨rfl, rfl⟩
theorem n_swapped {l1 : Int32} {l2 : Int32} {bd_slack : Int32} {bd_forkBits : Int32} {nw_seatOf : Nat → Int32} {nw_one : Nat → Int32} {nw_other : Nat → Int32} {nw_kind : Nat → Int32} {nw_years : Nat → Int32} {nw_sawn : Nat → Int32} {sc_seatOf : Nat → Int32} {sc_handle : Nat → Int32} {sc_both : Nat → Int32} {sc_slopOf : Nat → Int32} {sc_forkBits : Int32} {sc_canBits : Int32} {sc_bestBits : Int32} {sc_bestSlops : Int32} {sl_bits : Nat → Int32} {sl_count : Int32} : f_X_swapped l1 l2 bd_slack 0 bd_forkBits nw_seatOf nw_one nw_other nw_kind nw_years nw_sawn 0 sc_seatOf sc_handle sc_both sc_slopOf sc_forkBits sc_canBits sc_bestBits sc_bestSlops sl_bits sl_count = some (-1, 1, sc_seatOf, sc_handle, sc_both, sc_slopOf, sc_forkBits, sc_canBits, sc_bestBits, sc_bestSlops, sl_bits, sl_count) ∧ f_M_swapped_N l1 l2 = some (-1, 0, 1, -1) := by
  unfold f_X_swapped
  rw [n_noTwo]
  exact ⟨rfl, rfl⟩
theorem n_bestSwap {bd_slack : Int32} {bd_forkBits : Int32} {nw_seatOf : Nat → Int32} {nw_one : Nat → Int32} {nw_other : Nat → Int32} {nw_kind : Nat → Int32} {nw_years : Nat → Int32} {nw_sawn : Nat → Int32} {sc_seatOf : Nat → Int32} {sc_handle : Nat → Int32} {sc_both : Nat → Int32} {sc_slopOf : Nat → Int32} {sc_forkBits : Int32} {sc_canBits : Int32} {sc_bestBits : Int32} {sc_bestSlops : Int32} {sl_bits : Nat → Int32} {sl_count : Int32} : f_X_bestSwap bd_slack 0 bd_forkBits nw_seatOf nw_one nw_other nw_kind nw_years nw_sawn 0 sc_seatOf sc_handle sc_both sc_slopOf sc_forkBits sc_canBits sc_bestBits sc_bestSlops sl_bits sl_count = some (-1, 1, sc_seatOf, sc_handle, sc_both, sc_slopOf, sc_forkBits, sc_canBits, sc_bestBits, sc_bestSlops, sl_bits, sl_count) ∧ f_M_bestSwap_N  = some (-1, 0, 1, -1) := by
  unfold f_X_bestSwap
  rw [n_noTable]
  exact ⟨rfl, rfl⟩
theorem n_better {l1 : Int32} {bd_seats : Int32} {bd_slack : Int32} {bd_forkBits : Int32} {nw_seatOf : Nat → Int32} {nw_one : Nat → Int32} {nw_other : Nat → Int32} {nw_kind : Nat → Int32} {nw_years : Nat → Int32} {nw_sawn : Nat → Int32} {sc_seatOf : Nat → Int32} {sc_handle : Nat → Int32} {sc_both : Nat → Int32} {sc_slopOf : Nat → Int32} {sc_forkBits : Int32} {sc_canBits : Int32} {sc_bestBits : Int32} {sc_bestSlops : Int32} {sl_bits : Nat → Int32} {sl_count : Int32} : f_X_better l1 bd_seats bd_slack 0 bd_forkBits nw_seatOf nw_one nw_other nw_kind nw_years nw_sawn 0 sc_seatOf sc_handle sc_both sc_slopOf sc_forkBits sc_canBits sc_bestBits sc_bestSlops sl_bits sl_count = some (-1, 1, sc_seatOf, sc_handle, sc_both, sc_slopOf, sc_forkBits, sc_canBits, sc_bestBits, sc_bestSlops, sl_bits, sl_count) ∧ f_M_better_N l1 = some (-1, 0, 1, -1) := by
  unfold f_X_better
  rw [n_noPerson]
  exact ⟨rfl, rfl⟩
theorem n_forkAt {bd_seats : Int32} {bd_slack : Int32} {bd_forkBits : Int32} {nw_seatOf : Nat → Int32} {nw_one : Nat → Int32} {nw_other : Nat → Int32} {nw_kind : Nat → Int32} {nw_years : Nat → Int32} {nw_sawn : Nat → Int32} {sc_seatOf : Nat → Int32} {sc_handle : Nat → Int32} {sc_both : Nat → Int32} {sc_slopOf : Nat → Int32} {sc_forkBits : Int32} {sc_canBits : Int32} {sc_bestBits : Int32} {sc_bestSlops : Int32} {sl_bits : Nat → Int32} {sl_count : Int32} : f_X_forkAt bd_seats bd_slack 0 bd_forkBits nw_seatOf nw_one nw_other nw_kind nw_years nw_sawn 0 sc_seatOf sc_handle sc_both sc_slopOf sc_forkBits sc_canBits sc_bestBits sc_bestSlops sl_bits sl_count = some (-1, 1, sc_seatOf, sc_handle, sc_both, sc_slopOf, sc_forkBits, sc_canBits, sc_bestBits, sc_bestSlops, sl_bits, sl_count) ∧ f_M_forkAt_N  = some (-1, 0, 1, -1) := by
  unfold f_X_forkAt
  rw [n_noTable]
  exact ⟨rfl, rfl⟩
theorem n_saws {bd_slack : Int32} {nw_seatOf : Nat → Int32} {nw_one : Nat → Int32} {nw_other : Nat → Int32} {nw_kind : Nat → Int32} {nw_years : Nat → Int32} {nw_sawn : Nat → Int32} {ch_both : Nat → Int32} {ch_cost : Nat → Int32} {ch_bit : Nat → Int32} {ch_items : Int32} {ch_leastCost : Int32} {ch_leastBits : Int32} {cl_bits : Nat → Int32} {cl_count : Int32} : f_X_saws bd_slack 0 nw_seatOf nw_one nw_other nw_kind nw_years nw_sawn 0 ch_both ch_cost ch_bit ch_items ch_leastCost ch_leastBits cl_bits cl_count = some (-1, 1, ch_both, ch_cost, ch_bit, ch_items, ch_leastCost, ch_leastBits, cl_bits, cl_count) ∧ f_M_saws_N  = some (-1, 0, 1, -1) := by
  unfold f_X_saws
  rw [n_noTable]
  exact ⟨rfl, rfl⟩
theorem n_sawsOf {l1 : Int32} {bd_slack : Int32} {nw_seatOf : Nat → Int32} {nw_one : Nat → Int32} {nw_other : Nat → Int32} {nw_kind : Nat → Int32} {nw_years : Nat → Int32} {nw_sawn : Nat → Int32} {ch_both : Nat → Int32} {ch_cost : Nat → Int32} {ch_bit : Nat → Int32} {ch_items : Int32} {ch_leastCost : Int32} {ch_leastBits : Int32} {cl_bits : Nat → Int32} {cl_count : Int32} : f_X_sawsOf l1 bd_slack 0 nw_seatOf nw_one nw_other nw_kind nw_years nw_sawn 0 ch_both ch_cost ch_bit ch_items ch_leastCost ch_leastBits cl_bits cl_count = some (-1, 1, ch_both, ch_cost, ch_bit, ch_items, ch_leastCost, ch_leastBits, cl_bits, cl_count) ∧ f_M_sawsOf_N l1 = some (-1, 0, 1, -1) := by
  unfold f_X_sawsOf
  rw [n_noPair]
  exact ⟨rfl, rfl⟩
theorem n_meet {l1 : Int32} {bd_slack : Int32} {nw_seatOf : Nat → Int32} {nw_one : Nat → Int32} {nw_other : Nat → Int32} {nw_kind : Nat → Int32} {nw_years : Nat → Int32} {nw_sawn : Nat → Int32} {ch_both : Nat → Int32} {ch_cost : Nat → Int32} {ch_bit : Nat → Int32} {ch_items : Int32} {ch_leastCost : Int32} {ch_leastBits : Int32} {cl_bits : Nat → Int32} {cl_count : Int32} : f_X_meet l1 bd_slack 0 nw_seatOf nw_one nw_other nw_kind nw_years nw_sawn 0 ch_both ch_cost ch_bit ch_items ch_leastCost ch_leastBits cl_bits cl_count = some (-1, 1, ch_both, ch_cost, ch_bit, ch_items, ch_leastCost, ch_leastBits, cl_bits, cl_count) ∧ f_M_meet_N l1 = some (-1, 0, 1, -1) := by
  unfold f_X_meet
  rw [n_noTable]
  exact ⟨rfl, rfl⟩
theorem n_meetAt {l1 : Int32} {bd_slack : Int32} {nw_seatOf : Nat → Int32} {nw_one : Nat → Int32} {nw_other : Nat → Int32} {nw_kind : Nat → Int32} {nw_years : Nat → Int32} {nw_sawn : Nat → Int32} {ch_both : Nat → Int32} {ch_cost : Nat → Int32} {ch_bit : Nat → Int32} {ch_items : Int32} {ch_leastCost : Int32} {ch_leastBits : Int32} {cl_bits : Nat → Int32} {cl_count : Int32} : f_X_meetAt l1 bd_slack 0 nw_seatOf nw_one nw_other nw_kind nw_years nw_sawn 0 ch_both ch_cost ch_bit ch_items ch_leastCost ch_leastBits cl_bits cl_count = some (-1, 1, ch_both, ch_cost, ch_bit, ch_items, ch_leastCost, ch_leastBits, cl_bits, cl_count) ∧ f_M_meetAt_N l1 = some (-1, 0, 1, -1) := by
  unfold f_X_meetAt
  rw [n_noTable]
  exact ⟨rfl, rfl⟩
theorem n_stable {bd_slack : Int32} {bd_forkBits : Int32} {nw_seatOf : Nat → Int32} {nw_one : Nat → Int32} {nw_other : Nat → Int32} {nw_kind : Nat → Int32} {nw_years : Nat → Int32} {nw_sawn : Nat → Int32} {sc_seatOf : Nat → Int32} {sc_handle : Nat → Int32} {sc_both : Nat → Int32} {sc_slopOf : Nat → Int32} {sc_forkBits : Int32} {sc_canBits : Int32} {sc_bestBits : Int32} {sc_bestSlops : Int32} {sl_bits : Nat → Int32} {sl_count : Int32} : f_X_stable bd_slack 0 bd_forkBits nw_seatOf nw_one nw_other nw_kind nw_years nw_sawn 0 sc_seatOf sc_handle sc_both sc_slopOf sc_forkBits sc_canBits sc_bestBits sc_bestSlops sl_bits sl_count = some (-1, 1, sc_seatOf, sc_handle, sc_both, sc_slopOf, sc_forkBits, sc_canBits, sc_bestBits, sc_bestSlops, sl_bits, sl_count) ∧ f_M_stable_N  = some (-1, 0, 1, -1) := by
  unfold f_X_stable
  rw [n_noTable]
  exact ⟨rfl, rfl⟩
theorem n_stableAt {l1 : Int32} {bd_slack : Int32} {bd_forkBits : Int32} {nw_seatOf : Nat → Int32} {nw_one : Nat → Int32} {nw_other : Nat → Int32} {nw_kind : Nat → Int32} {nw_years : Nat → Int32} {nw_sawn : Nat → Int32} {sc_seatOf : Nat → Int32} {sc_handle : Nat → Int32} {sc_both : Nat → Int32} {sc_slopOf : Nat → Int32} {sc_forkBits : Int32} {sc_canBits : Int32} {sc_bestBits : Int32} {sc_bestSlops : Int32} {sl_bits : Nat → Int32} {sl_count : Int32} : f_X_stableAt l1 bd_slack 0 bd_forkBits nw_seatOf nw_one nw_other nw_kind nw_years nw_sawn 0 sc_seatOf sc_handle sc_both sc_slopOf sc_forkBits sc_canBits sc_bestBits sc_bestSlops sl_bits sl_count = some (-1, 1, sc_seatOf, sc_handle, sc_both, sc_slopOf, sc_forkBits, sc_canBits, sc_bestBits, sc_bestSlops, sl_bits, sl_count) ∧ f_M_stableAt_N l1 = some (-1, 0, 1, -1) := by
  unfold f_X_stableAt
  rw [n_noTable]
  exact ⟨rfl, rfl⟩
theorem n_leaves {bd_slack : Int32} {bd_forkBits : Int32} {nw_seatOf : Nat → Int32} {nw_one : Nat → Int32} {nw_other : Nat → Int32} {nw_kind : Nat → Int32} {nw_years : Nat → Int32} {nw_sawn : Nat → Int32} {sc_seatOf : Nat → Int32} {sc_handle : Nat → Int32} {sc_both : Nat → Int32} {sc_slopOf : Nat → Int32} {sc_forkBits : Int32} {sc_canBits : Int32} {sc_bestBits : Int32} {sc_bestSlops : Int32} {sl_bits : Nat → Int32} {sl_count : Int32} : f_X_leaves bd_slack 0 bd_forkBits nw_seatOf nw_one nw_other nw_kind nw_years nw_sawn 0 sc_seatOf sc_handle sc_both sc_slopOf sc_forkBits sc_canBits sc_bestBits sc_bestSlops sl_bits sl_count = some (-1, 1, sc_seatOf, sc_handle, sc_both, sc_slopOf, sc_forkBits, sc_canBits, sc_bestBits, sc_bestSlops, sl_bits, sl_count) ∧ f_M_leaves_N  = some (-1, 0, 1, -1) := by
  unfold f_X_leaves
  rw [n_noTable]
  exact ⟨rfl, rfl⟩
theorem n_fits {bd_unsurePair : Nat → Int32} {bd_unsureYears : Nat → Int32} {bd_triedPair : Nat → Int32} {bd_slack : Int32} {bd_unsure : Int32} {bd_tried : Int32} {bd_triedFedBits : Int32} {bf_seatOf : Nat → Int32} {bf_one : Nat → Int32} {bf_other : Nat → Int32} {bf_kind : Nat → Int32} {bf_years : Nat → Int32} {bf_sawn : Nat → Int32} {fi_sets : Nat → Int32} {fi_count : Int32} : f_X_fits bd_unsurePair bd_unsureYears bd_triedPair bd_slack 0 bd_unsure bd_tried bd_triedFedBits bf_seatOf bf_one bf_other bf_kind bf_years bf_sawn fi_sets fi_count = some (-1, 1, fi_sets, fi_count) ∧ f_M_fits_N  = some (-1, 0, 1, -1) := by
  unfold f_X_fits
  rw [n_noTable]
  exact ⟨rfl, rfl⟩
theorem n_fitAt {l1 : Int32} {bd_unsurePair : Nat → Int32} {bd_unsureYears : Nat → Int32} {bd_triedPair : Nat → Int32} {bd_slack : Int32} {bd_unsure : Int32} {bd_tried : Int32} {bd_triedFedBits : Int32} {bf_seatOf : Nat → Int32} {bf_one : Nat → Int32} {bf_other : Nat → Int32} {bf_kind : Nat → Int32} {bf_years : Nat → Int32} {bf_sawn : Nat → Int32} {fi_sets : Nat → Int32} {fi_count : Int32} : f_X_fitAt l1 bd_unsurePair bd_unsureYears bd_triedPair bd_slack 0 bd_unsure bd_tried bd_triedFedBits bf_seatOf bf_one bf_other bf_kind bf_years bf_sawn fi_sets fi_count = some (-1, 1, fi_sets, fi_count) ∧ f_M_fitAt_N l1 = some (-1, 0, 1, -1) := by
  unfold f_X_fitAt
  rw [n_noTable]
  exact ⟨rfl, rfl⟩
theorem n_could {bd_unsurePair : Nat → Int32} {bd_unsureYears : Nat → Int32} {bd_triedPair : Nat → Int32} {bd_slack : Int32} {bd_unsure : Int32} {bd_tried : Int32} {bd_triedFedBits : Int32} {bf_seatOf : Nat → Int32} {bf_one : Nat → Int32} {bf_other : Nat → Int32} {bf_kind : Nat → Int32} {bf_years : Nat → Int32} {bf_sawn : Nat → Int32} {fi_sets : Nat → Int32} {fi_count : Int32} : f_X_could bd_unsurePair bd_unsureYears bd_triedPair bd_slack 0 bd_unsure bd_tried bd_triedFedBits bf_seatOf bf_one bf_other bf_kind bf_years bf_sawn fi_sets fi_count = some (-1, 1, fi_sets, fi_count) ∧ f_M_could_N  = some (-1, 0, 1, -1) := by
  unfold f_X_could
  rw [n_noTable]
  exact ⟨rfl, rfl⟩
theorem n_surely {bd_unsurePair : Nat → Int32} {bd_unsureYears : Nat → Int32} {bd_triedPair : Nat → Int32} {bd_slack : Int32} {bd_unsure : Int32} {bd_tried : Int32} {bd_triedFedBits : Int32} {bf_seatOf : Nat → Int32} {bf_one : Nat → Int32} {bf_other : Nat → Int32} {bf_kind : Nat → Int32} {bf_years : Nat → Int32} {bf_sawn : Nat → Int32} {fi_sets : Nat → Int32} {fi_count : Int32} : f_X_surely bd_unsurePair bd_unsureYears bd_triedPair bd_slack 0 bd_unsure bd_tried bd_triedFedBits bf_seatOf bf_one bf_other bf_kind bf_years bf_sawn fi_sets fi_count = some (-1, 1, fi_sets, fi_count) ∧ f_M_surely_N  = some (-1, 0, 1, -1) := by
  unfold f_X_surely
  rw [n_noTable]
  exact ⟨rfl, rfl⟩
theorem n_ask {bd_unsurePair : Nat → Int32} {bd_unsureYears : Nat → Int32} {bd_triedPair : Nat → Int32} {bd_slack : Int32} {bd_unsure : Int32} {bd_tried : Int32} {bd_triedFedBits : Int32} {bf_seatOf : Nat → Int32} {bf_one : Nat → Int32} {bf_other : Nat → Int32} {bf_kind : Nat → Int32} {bf_years : Nat → Int32} {bf_sawn : Nat → Int32} {fi_sets : Nat → Int32} {fi_count : Int32} : f_X_ask bd_unsurePair bd_unsureYears bd_triedPair bd_slack 0 bd_unsure bd_tried bd_triedFedBits bf_seatOf bf_one bf_other bf_kind bf_years bf_sawn fi_sets fi_count = some (-1, 1, fi_sets, fi_count) ∧ f_M_ask_N  = some (-1, 0, 1, -1) := by
  unfold f_X_ask
  rw [n_noTable]
  exact ⟨rfl, rfl⟩
theorem n_askLeaves {bd_unsurePair : Nat → Int32} {bd_unsureYears : Nat → Int32} {bd_triedPair : Nat → Int32} {bd_slack : Int32} {bd_unsure : Int32} {bd_tried : Int32} {bd_triedFedBits : Int32} {bf_seatOf : Nat → Int32} {bf_one : Nat → Int32} {bf_other : Nat → Int32} {bf_kind : Nat → Int32} {bf_years : Nat → Int32} {bf_sawn : Nat → Int32} {fi_sets : Nat → Int32} {fi_count : Int32} : f_X_askLeaves bd_unsurePair bd_unsureYears bd_triedPair bd_slack 0 bd_unsure bd_tried bd_triedFedBits bf_seatOf bf_one bf_other bf_kind bf_years bf_sawn fi_sets fi_count = some (-1, 1, fi_sets, fi_count) ∧ f_M_askLeaves_N  = some (-1, 0, 1, -1) := by
  unfold f_X_askLeaves
  rw [n_noTable]
  exact ⟨rfl, rfl⟩
theorem n_judge {bd_unsurePair : Nat → Int32} {bd_unsureYears : Nat → Int32} {bd_triedPair : Nat → Int32} {bd_slack : Int32} {bd_unsure : Int32} {bd_tried : Int32} {bd_triedFedBits : Int32} {bf_seatOf : Nat → Int32} {bf_one : Nat → Int32} {bf_other : Nat → Int32} {bf_kind : Nat → Int32} {bf_years : Nat → Int32} {bf_sawn : Nat → Int32} : f_X_judge bd_unsurePair bd_unsureYears bd_triedPair bd_slack 0 bd_unsure bd_tried bd_triedFedBits bf_seatOf bf_one bf_other bf_kind bf_years bf_sawn = some (-1, 1) ∧ f_M_judge_N  = some (-1, 0, 1, -1) := by
  unfold f_X_judge
  rw [n_noTable]
  exact ⟨rfl, rfl⟩
theorem n_saw {l1 : Int32} {l2 : Int32} {l3 : Int32} {l4 : Int32} : f_X_saw l1 l2 l3 l4 0 = some (-100, 1) ∧ f_M_saw_N l1 l2 l3 l4 = some (-100, 0, 1, -1) := by
  unfold f_X_saw
  rw [n_noTable]
  exact ⟨rfl, rfl⟩
theorem n_rests {l1 : Int32} : f_X_rests l1 0 = some (-1, 1) ∧ f_M_rests_N l1 = some (-1, 0, 1, -1) := by
  unfold f_X_rests
  rw [n_noTable]
  exact ⟨rfl, rfl⟩
theorem n_rest {l1 : Int32} : f_X_rest l1 0 = some (-1, 1) ∧ f_M_rest_N l1 = some (-1, 0, 1, -1) := by
  unfold f_X_rest
  rw [n_noTable]
  exact ⟨rfl, rfl⟩
theorem n_odds {l1 : Int32} {l2 : Int32} {l3 : Int32} {bd_slack : Int32} {bd_sawInches : Int32} {bd_quarrelChance : Int32} {nw_seatOf : Nat → Int32} {nw_one : Nat → Int32} {nw_other : Nat → Int32} {nw_kind : Nat → Int32} {nw_years : Nat → Int32} {nw_sawn : Nat → Int32} : f_X_odds l1 l2 l3 bd_slack bd_sawInches bd_quarrelChance nw_seatOf nw_one nw_other nw_kind nw_years nw_sawn 0 = some (-1, 1) ∧ f_M_odds_N l1 l2 l3 = some (-1, 0, 1, -1) := by
  unfold f_X_odds
  rw [n_noPair]
  exact ⟨rfl, rfl⟩
theorem n_mean {l1 : Int32} {l2 : Int32} {l3 : Int32} {bd_slack : Int32} {bd_sawInches : Int32} {bd_quarrelChance : Int32} {nw_seatOf : Nat → Int32} {nw_one : Nat → Int32} {nw_other : Nat → Int32} {nw_kind : Nat → Int32} {nw_years : Nat → Int32} {nw_sawn : Nat → Int32} : f_X_mean l1 l2 l3 bd_slack bd_sawInches bd_quarrelChance nw_seatOf nw_one nw_other nw_kind nw_years nw_sawn 0 = some (-1, 1) ∧ f_M_mean_N l1 l2 l3 = some (-1, 0, 1, -1) := by
  unfold f_X_mean
  rw [n_noPair]
  exact ⟨rfl, rfl⟩
theorem n_drawnHandle {l1 : Int32} {l2 : Int32} {l3 : Int32} {bd_sawInches : Int32} {bd_quarrelChance : Int32} {bd_forkBits : Int32} {nw_seatOf : Nat → Int32} {nw_kind : Nat → Int32} {nw_years : Nat → Int32} {nw_sawn : Nat → Int32} {sc_seatOf : Nat → Int32} {sc_handle : Nat → Int32} {sc_forkBits : Int32} : f_X_drawnHandle l1 l2 l3 bd_sawInches bd_quarrelChance bd_forkBits nw_seatOf nw_kind nw_years nw_sawn 0 sc_seatOf sc_handle sc_forkBits = some (-1, 1, sc_seatOf, sc_handle, sc_forkBits) ∧ f_M_drawnHandle_N l1 l2 l3 = some (-1, 0, 1, -1) := by
  unfold f_X_drawnHandle
  rw [n_noPair]
  exact ⟨rfl, rfl⟩
theorem n_drawnFed {l1 : Int32} {l2 : Int32} {bd_slack : Int32} {bd_sawInches : Int32} {bd_quarrelChance : Int32} {bd_forkBits : Int32} {nw_seatOf : Nat → Int32} {nw_one : Nat → Int32} {nw_other : Nat → Int32} {nw_kind : Nat → Int32} {nw_years : Nat → Int32} {nw_sawn : Nat → Int32} {sc_seatOf : Nat → Int32} {sc_handle : Nat → Int32} {sc_both : Nat → Int32} {sc_slopOf : Nat → Int32} {sc_forkBits : Int32} {sc_canBits : Int32} {sc_bestBits : Int32} {sc_bestSlops : Int32} {sl_bits : Nat → Int32} {sl_count : Int32} : f_X_drawnFed l1 l2 bd_slack bd_sawInches bd_quarrelChance 0 bd_forkBits nw_seatOf nw_one nw_other nw_kind nw_years nw_sawn 0 sc_seatOf sc_handle sc_both sc_slopOf sc_forkBits sc_canBits sc_bestBits sc_bestSlops sl_bits sl_count = some (-1, 1, sc_seatOf, sc_handle, sc_both, sc_slopOf, sc_forkBits, sc_canBits, sc_bestBits, sc_bestSlops, sl_bits, sl_count) ∧ f_M_drawnFed_N l1 l2 = some (-1, 0, 1, -1) := by
  unfold f_X_drawnFed
  rw [n_noTable]
  exact ⟨rfl, rfl⟩
theorem n_year {bd_slack : Int32} {bd_forkBits : Int32} {nw_seatOf : Nat → Int32} {nw_one : Nat → Int32} {nw_other : Nat → Int32} {nw_kind : Nat → Int32} {nw_years : Nat → Int32} {nw_sawn : Nat → Int32} {nw_gone : Int32} {sc_seatOf : Nat → Int32} {sc_handle : Nat → Int32} {sc_both : Nat → Int32} {sc_slopOf : Nat → Int32} {sc_forkBits : Int32} {sc_canBits : Int32} {sc_bestBits : Int32} {sc_bestSlops : Int32} {sl_bits : Nat → Int32} {sl_count : Int32} {se_fresh : Int32} {ps_act : Nat → Int32} {ps_whom : Nat → Int32} {ps_amount : Nat → Int32} {ps_next : Int32} {ps_count : Int32} : f_X_year bd_slack 0 bd_forkBits nw_seatOf nw_one nw_other nw_kind nw_years nw_sawn 0 nw_gone sc_seatOf sc_handle sc_both sc_slopOf sc_forkBits sc_canBits sc_bestBits sc_bestSlops sl_bits sl_count se_fresh ps_act ps_whom ps_amount ps_next ps_count = some (-1, 1, nw_years, nw_gone, sc_seatOf, sc_handle, sc_both, sc_slopOf, sc_forkBits, sc_canBits, sc_bestBits, sc_bestSlops, sl_bits, sl_count, se_fresh, ps_act, ps_whom, ps_amount, ps_next, ps_count) ∧ f_M_year_N  = some (-1, 0, 1, -1) := by
  unfold f_X_year
  rw [n_noTable]
  exact ⟨rfl, rfl⟩
theorem n_quarrel {l1 : Int32} {bd_sawInches : Int32} {nw_kind : Nat → Int32} {nw_years : Nat → Int32} {nw_sawn : Nat → Int32} {se_fresh : Int32} {ps_act : Nat → Int32} {ps_whom : Nat → Int32} {ps_amount : Nat → Int32} {ps_next : Int32} {ps_count : Int32} : f_X_quarrel l1 bd_sawInches nw_kind nw_years nw_sawn 0 se_fresh ps_act ps_whom ps_amount ps_next ps_count = some (-1, 1, nw_sawn, se_fresh, ps_act, ps_whom, ps_amount, ps_next, ps_count) ∧ f_M_quarrel_N l1 = some (-1, 0, 1, -1) := by
  unfold f_X_quarrel
  rw [n_noPair]
  exact ⟨rfl, rfl⟩
theorem n_sit {l1 : Int32} {l2 : Int32} {bd_seats : Int32} {nw_seatOf : Nat → Int32} {se_fresh : Int32} {ps_act : Nat → Int32} {ps_whom : Nat → Int32} {ps_amount : Nat → Int32} {ps_next : Int32} {ps_count : Int32} : f_X_sit l1 l2 bd_seats 0 nw_seatOf se_fresh ps_act ps_whom ps_amount ps_next ps_count = some (-1, 1, nw_seatOf, se_fresh, ps_act, ps_whom, ps_amount, ps_next, ps_count) ∧ f_M_sit_N l1 l2 = some (-1, 0, 1, -1) := by
  unfold f_X_sit
  rw [n_noPerson]
  exact ⟨rfl, rfl⟩
theorem n_know {l1 : Int32} {l2 : Int32} {nw_one : Nat → Int32} {nw_other : Nat → Int32} {nw_kind : Nat → Int32} {nw_years : Nat → Int32} {nw_sawn : Nat → Int32} {se_fresh : Int32} {ps_act : Nat → Int32} {ps_whom : Nat → Int32} {ps_amount : Nat → Int32} {ps_next : Int32} {ps_count : Int32} : f_X_know l1 l2 0 nw_one nw_other nw_kind nw_years nw_sawn 0 se_fresh ps_act ps_whom ps_amount ps_next ps_count = some (-1, 1, nw_one, nw_other, nw_kind, nw_years, nw_sawn, 0, se_fresh, ps_act, ps_whom, ps_amount, ps_next, ps_count) ∧ f_M_know_N l1 l2 = some (-1, 0, 1, -1) := by
  unfold f_X_know
  rw [n_noTwo]
  exact ⟨rfl, rfl⟩
theorem n_image {x_imageCount : Int32} {nw_seatOf : Nat → Int32} {nw_one : Nat → Int32} {nw_other : Nat → Int32} {nw_kind : Nat → Int32} {nw_years : Nat → Int32} {nw_sawn : Nat → Int32} {nw_gone : Int32} {i0_seatOf : Nat → Int32} {i0_one : Nat → Int32} {i0_other : Nat → Int32} {i0_kind : Nat → Int32} {i0_years : Nat → Int32} {i0_sawn : Nat → Int32} {i0_pairs : Int32} {i0_gone : Int32} {i1_seatOf : Nat → Int32} {i1_one : Nat → Int32} {i1_other : Nat → Int32} {i1_kind : Nat → Int32} {i1_years : Nat → Int32} {i1_sawn : Nat → Int32} {i1_pairs : Int32} {i1_gone : Int32} {i2_seatOf : Nat → Int32} {i2_one : Nat → Int32} {i2_other : Nat → Int32} {i2_kind : Nat → Int32} {i2_years : Nat → Int32} {i2_sawn : Nat → Int32} {i2_pairs : Int32} {i2_gone : Int32} : f_X_image x_imageCount 0 nw_seatOf nw_one nw_other nw_kind nw_years nw_sawn 0 nw_gone i0_seatOf i0_one i0_other i0_kind i0_years i0_sawn i0_pairs i0_gone i1_seatOf i1_one i1_other i1_kind i1_years i1_sawn i1_pairs i1_gone i2_seatOf i2_one i2_other i2_kind i2_years i2_sawn i2_pairs i2_gone = some (-1, x_imageCount, 1, i0_seatOf, i0_one, i0_other, i0_kind, i0_years, i0_sawn, i0_pairs, i0_gone, i1_seatOf, i1_one, i1_other, i1_kind, i1_years, i1_sawn, i1_pairs, i1_gone, i2_seatOf, i2_one, i2_other, i2_kind, i2_years, i2_sawn, i2_pairs, i2_gone) ∧ f_M_image_N  = some (-1, 0, 1, -1) := by
  unfold f_X_image
  rw [n_noTable]
  exact ⟨rfl, rfl⟩
theorem n_undo {nw_seatOf : Nat → Int32} {nw_years : Nat → Int32} {nw_sawn : Nat → Int32} {nw_pairs : Int32} {nw_gone : Int32} {se_fresh : Int32} {ps_act : Nat → Int32} {ps_whom : Nat → Int32} {ps_amount : Nat → Int32} {ps_next : Int32} : f_X_undo nw_seatOf nw_years nw_sawn nw_pairs nw_gone se_fresh ps_act ps_whom ps_amount ps_next 0 = some (0, 6, nw_seatOf, nw_years, nw_sawn, nw_pairs, nw_gone, se_fresh, ps_next, 0) ∧ f_M_undo_N = some (0, 0, 6, -1) := by
  unfold f_X_undo
  rw [if_pos rfl]
  exact ⟨rfl, rfl⟩
theorem n_back {l1 : Int32} {nw_seatOf : Nat → Int32} {nw_one : Nat → Int32} {nw_other : Nat → Int32} {nw_kind : Nat → Int32} {nw_years : Nat → Int32} {nw_sawn : Nat → Int32} {nw_pairs : Int32} {nw_gone : Int32} {se_fresh : Int32} {ps_count : Int32} {i0_seatOf : Nat → Int32} {i0_one : Nat → Int32} {i0_other : Nat → Int32} {i0_kind : Nat → Int32} {i0_years : Nat → Int32} {i0_sawn : Nat → Int32} {i0_pairs : Int32} {i0_gone : Int32} {i1_seatOf : Nat → Int32} {i1_one : Nat → Int32} {i1_other : Nat → Int32} {i1_kind : Nat → Int32} {i1_years : Nat → Int32} {i1_sawn : Nat → Int32} {i1_pairs : Int32} {i1_gone : Int32} {i2_seatOf : Nat → Int32} {i2_one : Nat → Int32} {i2_other : Nat → Int32} {i2_kind : Nat → Int32} {i2_years : Nat → Int32} {i2_sawn : Nat → Int32} {i2_pairs : Int32} {i2_gone : Int32} : f_X_back l1 0 nw_seatOf nw_one nw_other nw_kind nw_years nw_sawn nw_pairs nw_gone se_fresh ps_count i0_seatOf i0_one i0_other i0_kind i0_years i0_sawn i0_pairs i0_gone i1_seatOf i1_one i1_other i1_kind i1_years i1_sawn i1_pairs i1_gone i2_seatOf i2_one i2_other i2_kind i2_years i2_sawn i2_pairs i2_gone = some (0, 1, nw_seatOf, nw_one, nw_other, nw_kind, nw_years, nw_sawn, nw_pairs, nw_gone, se_fresh, ps_count) ∧ f_M_back_N l1 = some (0, 0, 1, -1) := by
  unfold f_X_back
  have hb : (if l1 < 0 then some true else if l1 < (0 : Int32) then some false else some true : Option Bool) = some true := by
    by_cases c : l1 < 0
    · rw [if_pos c]
    · rw [if_neg c, if_neg c]
  rw [hb]
  exact ⟨rfl, rfl⟩
