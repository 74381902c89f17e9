theorem b_X4_letter_0 (x1 : Int) (σ : St) : Rx k_X4_letter 0 [.inr (.inl (0, 0)), .inl x1] [] σ = if x1 < 0 then Rx k_X4_letter 4 [.inr (.inl (0, 0)), .inl x1] [] σ else Rx k_X4_letter 10 [.inr (.inl (0, 0)), .inl x1] [] σ := by
  exact Rx_ge0 (k := 2) rfl
theorem b_X4_letter_4 (x1 : Int) (σ : St) : Rx k_X4_letter 4 [.inr (.inl (0, 0)), .inl x1] [] σ = (Rx k_X4_refuse 0 [.inr (.inl (0, 0)), .inl 4] [] σ).bind fun q => Rx k_X4_letter 9 [.inr (.inl (0, 0)), .inl x1] (q.1.toList ++ []) q.2 := by
  refine (Rx_N (k := 2) (pc' := 6) (ls' := [.inr (.inl (0, 0)), .inl x1]) (st' := [.inl 4, .inr (.inl (0, 0))]) (σ' := σ) rfl).trans ?_
  exact Rx_call (n := 3) (y' := k_X4_refuse) (as := [.inr (.inl (0, 0)), .inl 4]) (rest := []) rfl rfl rfl
theorem b_X4_letter_9 (x1 : Int) (s0 : Int) (σ : St) : Rx k_X4_letter 9 [.inr (.inl (0, 0)), .inl x1] [.inl s0] σ = some (some (.inl s0), σ) := by
  exact Rx_ret rfl rfl
theorem b_X4_letter_10 (x1 : Int) (σ : St) : Rx k_X4_letter 10 [.inr (.inl (0, 0)), .inl x1] [] σ = if 255 < x1 then Rx k_X4_letter 29 [.inr (.inl (0, 0)), .inl x1] [] σ else Rx k_X4_letter 17 [.inr (.inl (0, 0)), .inl x1] [] σ := by
  exact Rx_gt0 (k := 3) rfl
theorem b_X4_letter_17 (x1 : Int) (σ : St) : Rx k_X4_letter 17 [.inr (.inl (0, 0)), .inl x1] [] σ = if (σ 3 0 1) < 96 then Rx k_X4_letter 36 [.inr (.inl (0, 0)), .inl x1] [] σ else Rx k_X4_letter 29 [.inr (.inl (0, 0)), .inl x1] [] σ := by
  exact Rx_lt0 (k := 5) rfl
theorem b_X4_letter_29 (x1 : Int) (σ : St) : Rx k_X4_letter 29 [.inr (.inl (0, 0)), .inl x1] [] σ = (Rx k_X4_refuse 0 [.inr (.inl (0, 0)), .inl 6] [] σ).bind fun q => Rx k_X4_letter 35 [.inr (.inl (0, 0)), .inl x1] (q.1.toList ++ []) q.2 := by
  refine (Rx_N (k := 2) (pc' := 32) (ls' := [.inr (.inl (0, 0)), .inl x1]) (st' := [.inl 6, .inr (.inl (0, 0))]) (σ' := σ) rfl).trans ?_
  exact Rx_call (n := 3) (y' := k_X4_refuse) (as := [.inr (.inl (0, 0)), .inl 6]) (rest := []) rfl rfl rfl
theorem b_X4_letter_35 (x1 : Int) (s0 : Int) (σ : St) : Rx k_X4_letter 35 [.inr (.inl (0, 0)), .inl x1] [.inl s0] σ = some (some (.inl s0), σ) := by
  exact Rx_ret rfl rfl
theorem b_X4_letter_36 (x1 : Int) (σ : St) : Rx k_X4_letter 36 [.inr (.inl (0, 0)), .inl x1] [] σ = (Rx k_X0_add 0 [.inr (.inl (3, 0)), .inl x1] [] σ).bind fun q => Rx k_X4_letter 44 [.inr (.inl (0, 0)), .inl x1] (q.1.toList ++ []) q.2 := by
  refine (Rx_N (k := 3) (pc' := 41) (ls' := [.inr (.inl (0, 0)), .inl x1]) (st' := [.inl x1, .inr (.inl (3, 0))]) (σ' := σ) rfl).trans ?_
  exact Rx_call (n := 3) (y' := k_X0_add) (as := [.inr (.inl (3, 0)), .inl x1]) (rest := []) rfl rfl rfl
theorem b_X4_letter_44 (x1 : Int) (σ : St) : Rx k_X4_letter 44 [.inr (.inl (0, 0)), .inl x1] [] σ = some (some (.inl (σ 3 0 1)), σ) := by
  refine (Rx_N (k := 3) (pc' := 51) (ls' := [.inr (.inl (0, 0)), .inl x1]) (st' := [.inl (σ 3 0 1)]) (σ' := σ) rfl).trans ?_
  exact Rx_ret rfl rfl
theorem b_X4_rack_0 (u1 : AV) (u2 : AV) (σ : St) : Rx k_X4_rack 0 [.inr (.inl (0, 0)), u1, u2] [] σ = (Rx k_X0_firstWrong 0 [.inr (.inl (3, 0)), uns, uns, uns] [] σ).bind fun q => Rx k_X4_rack 7 [.inr (.inl (0, 0)), u1, u2] (q.1.toList ++ []) q.2 := by
  refine (Rx_N (k := 2) (pc' := 4) (ls' := [.inr (.inl (0, 0)), u1, u2]) (st' := [.inr (.inl (3, 0))]) (σ' := σ) rfl).trans ?_
  exact Rx_call (n := 3) (y' := k_X0_firstWrong) (as := [.inr (.inl (3, 0))]) (rest := []) rfl rfl rfl
theorem b_X4_rack_7 (u1 : AV) (u2 : AV) (s0 : Int) (σ : St) : Rx k_X4_rack 7 [.inr (.inl (0, 0)), u1, u2] [.inl s0] σ = if s0 = (-9) then Rx k_X4_rack 14 [.inr (.inl (0, 0)), .inl s0, u2] [] σ else Rx k_X4_rack 28 [.inr (.inl (0, 0)), .inl s0, u2] [] σ := by
  exact Rx_ne0 (k := 4) rfl
theorem b_X4_rack_14 (x1 : Int) (u2 : AV) (σ : St) : Rx k_X4_rack 14 [.inr (.inl (0, 0)), .inl x1, u2] [] σ = (Rx k_X1_hear 0 [.inr (.inl (1, 0)), .inr (.inl (3, 0)), uns, uns, uns] [] σ).bind fun q => Rx k_X4_rack 25 [.inr (.inl (0, 0)), .inl x1, u2] (q.1.toList ++ []) q.2 := by
  refine (Rx_N (k := 4) (pc' := 22) (ls' := [.inr (.inl (0, 0)), .inl x1, u2]) (st' := [.inr (.inl (3, 0)), .inr (.inl (1, 0))]) (σ' := σ) rfl).trans ?_
  exact Rx_call (n := 3) (y' := k_X1_hear) (as := [.inr (.inl (1, 0)), .inr (.inl (3, 0))]) (rest := []) rfl rfl rfl
theorem b_X4_rack_25 (x1 : Int) (u2 : AV) (s0 : Int) (σ : St) : Rx k_X4_rack 25 [.inr (.inl (0, 0)), .inl x1, u2] [.inl s0] σ = some (some (.inl s0), (up σ 3 0 1 0)) := by
  refine (Rx_N (k := 7) (pc' := 43) (ls' := [.inr (.inl (0, 0)), .inl x1, .inl s0]) (st' := [.inl s0]) (σ' := (up σ 3 0 1 0)) rfl).trans ?_
  exact Rx_ret rfl rfl
theorem r_X4_rack_28 (x1 : Int) (u2 : AV) (σ : St) : Rx k_X4_rack 28 [.inr (.inl (0, 0)), .inl x1, u2] [] σ = some (some (.inl (wr ((-1000) - x1))), (up σ 3 0 1 0)) := by
  refine (Rx_N (k := 9) (pc' := 43) (ls' := [.inr (.inl (0, 0)), .inl x1, .inl (wr ((-1000) - x1))]) (st' := [.inl (wr ((-1000) - x1))]) (σ' := (up σ 3 0 1 0)) rfl).trans ?_
  exact Rx_ret rfl rfl
theorem b_X4_rack_28 (x1 : Int) (u2 : AV) (σ : St) (g0a : -2147483648 ≤ ((-1000) - x1)) (g0b : ((-1000) - x1) < 2147483648) : Rx k_X4_rack 28 [.inr (.inl (0, 0)), .inl x1, u2] [] σ = some (some (.inl ((-1000) - x1)), (up σ 3 0 1 0)) := by
  have e0 := wr_id (x := ((-1000) - x1)) g0a g0b
  have raw := r_X4_rack_28 x1 u2 σ 
  simp only [e0] at raw
  exact raw
theorem b_X4_purpose_0 (x1 : Int) (x2 : Int) (σ : St) : Rx k_X4_purpose 0 [.inr (.inl (0, 0)), .inl x1, .inl x2] [] σ = (Rx k_X2_isPurpose 0 [.inr (.inl (7, 0)), .inl x1] [] σ).bind fun q => Rx k_X4_purpose 8 [.inr (.inl (0, 0)), .inl x1, .inl x2] (q.1.toList ++ []) q.2 := by
  refine (Rx_N (k := 3) (pc' := 5) (ls' := [.inr (.inl (0, 0)), .inl x1, .inl x2]) (st' := [.inl x1, .inr (.inl (7, 0))]) (σ' := σ) rfl).trans ?_
  exact Rx_call (n := 3) (y' := k_X2_isPurpose) (as := [.inr (.inl (7, 0)), .inl x1]) (rest := []) rfl rfl rfl
theorem b_X4_purpose_8 (x1 : Int) (x2 : Int) (s0 : Int) (σ : St) : Rx k_X4_purpose 8 [.inr (.inl (0, 0)), .inl x1, .inl x2] [.inl s0] σ = if s0 = 0 then Rx k_X4_purpose 11 [.inr (.inl (0, 0)), .inl x1, .inl x2] [] σ else Rx k_X4_purpose 17 [.inr (.inl (0, 0)), .inl x1, .inl x2] [] σ := by
  exact Rx_ne0 (k := 1) rfl
theorem b_X4_purpose_11 (x1 : Int) (x2 : Int) (σ : St) : Rx k_X4_purpose 11 [.inr (.inl (0, 0)), .inl x1, .inl x2] [] σ = (Rx k_X4_refuse 0 [.inr (.inl (0, 0)), .inl 1] [] σ).bind fun q => Rx k_X4_purpose 16 [.inr (.inl (0, 0)), .inl x1, .inl x2] (q.1.toList ++ []) q.2 := by
  refine (Rx_N (k := 2) (pc' := 13) (ls' := [.inr (.inl (0, 0)), .inl x1, .inl x2]) (st' := [.inl 1, .inr (.inl (0, 0))]) (σ' := σ) rfl).trans ?_
  exact Rx_call (n := 3) (y' := k_X4_refuse) (as := [.inr (.inl (0, 0)), .inl 1]) (rest := []) rfl rfl rfl
theorem b_X4_purpose_16 (x1 : Int) (x2 : Int) (s0 : Int) (σ : St) : Rx k_X4_purpose 16 [.inr (.inl (0, 0)), .inl x1, .inl x2] [.inl s0] σ = some (some (.inl s0), σ) := by
  exact Rx_ret rfl rfl
theorem b_X4_purpose_17 (x1 : Int) (x2 : Int) (σ : St) : Rx k_X4_purpose 17 [.inr (.inl (0, 0)), .inl x1, .inl x2] [] σ = if x2 = 0 then Rx k_X4_purpose 52 [.inr (.inl (0, 0)), .inl x1, .inl x2] [] σ else if x2 = 1 then Rx k_X4_purpose 62 [.inr (.inl (0, 0)), .inl x1, .inl x2] [] σ else if x2 = 2 then Rx k_X4_purpose 72 [.inr (.inl (0, 0)), .inl x1, .inl x2] [] σ else if x2 = 3 then Rx k_X4_purpose 82 [.inr (.inl (0, 0)), .inl x1, .inl x2] [] σ else if x2 = 4 then Rx k_X4_purpose 92 [.inr (.inl (0, 0)), .inl x1, .inl x2] [] σ else Rx k_X4_purpose 98 [.inr (.inl (0, 0)), .inl x1, .inl x2] [] σ := by
  refine (Rx_N (k := 1) (pc' := 18) (ls' := [.inr (.inl (0, 0)), .inl x1, .inl x2]) (st' := [.inl x2]) (σ' := σ) rfl).trans ?_
  generalize x2 = z9
  by_cases e9 : z9 = 0
  · subst e9; exact Rx_N (k := 1) rfl
  by_cases e9 : z9 = 1
  · subst e9; exact Rx_N (k := 1) rfl
  by_cases e9 : z9 = 2
  · subst e9; exact Rx_N (k := 1) rfl
  by_cases e9 : z9 = 3
  · subst e9; exact Rx_N (k := 1) rfl
  by_cases e9 : z9 = 4
  · subst e9; exact Rx_N (k := 1) rfl
  rw [if_neg (by omega)]; rw [if_neg (by omega)]; rw [if_neg (by omega)]; rw [if_neg (by omega)]; rw [if_neg (by omega)]; exact Rx_tout rfl (by omega) rfl
theorem b_X4_purpose_52 (x1 : Int) (x2 : Int) (σ : St) (h0 : 0 ≤ x1) (h1 : x1 < 5) : Rx k_X4_purpose 52 [.inr (.inl (0, 0)), .inl x1, .inl x2] [] σ = some (some (.inl (σ 8 0 x1.toNat)), σ) := by
  refine (Rx_N (k := 4) (pc' := 60) (ls' := [.inr (.inl (0, 0)), .inl x1, .inl x2]) (st' := [.inl x1, .inr (.inl (8, 0))]) (σ' := σ) rfl).trans ?_
  refine (Rx_ild 5 rfl rfl rfl h0 h1).trans ?_
  exact Rx_ret rfl rfl
theorem b_X4_purpose_62 (x1 : Int) (x2 : Int) (σ : St) (h0 : 0 ≤ x1) (h1 : x1 < 5) : Rx k_X4_purpose 62 [.inr (.inl (0, 0)), .inl x1, .inl x2] [] σ = some (some (.inl (σ 9 0 x1.toNat)), σ) := by
  refine (Rx_N (k := 4) (pc' := 70) (ls' := [.inr (.inl (0, 0)), .inl x1, .inl x2]) (st' := [.inl x1, .inr (.inl (9, 0))]) (σ' := σ) rfl).trans ?_
  refine (Rx_ild 5 rfl rfl rfl h0 h1).trans ?_
  exact Rx_ret rfl rfl
theorem b_X4_purpose_72 (x1 : Int) (x2 : Int) (σ : St) (h0 : 0 ≤ x1) (h1 : x1 < 5) : Rx k_X4_purpose 72 [.inr (.inl (0, 0)), .inl x1, .inl x2] [] σ = some (some (.inl (σ 10 0 x1.toNat)), σ) := by
  refine (Rx_N (k := 4) (pc' := 80) (ls' := [.inr (.inl (0, 0)), .inl x1, .inl x2]) (st' := [.inl x1, .inr (.inl (10, 0))]) (σ' := σ) rfl).trans ?_
  refine (Rx_ild 5 rfl rfl rfl h0 h1).trans ?_
  exact Rx_ret rfl rfl
theorem b_X4_purpose_82 (x1 : Int) (x2 : Int) (σ : St) (h0 : 0 ≤ x1) (h1 : x1 < 5) : Rx k_X4_purpose 82 [.inr (.inl (0, 0)), .inl x1, .inl x2] [] σ = some (some (.inl (σ 11 0 x1.toNat)), σ) := by
  refine (Rx_N (k := 4) (pc' := 90) (ls' := [.inr (.inl (0, 0)), .inl x1, .inl x2]) (st' := [.inl x1, .inr (.inl (11, 0))]) (σ' := σ) rfl).trans ?_
  refine (Rx_ild 5 rfl rfl rfl h0 h1).trans ?_
  exact Rx_ret rfl rfl
theorem b_X4_purpose_92 (x1 : Int) (x2 : Int) (σ : St) : Rx k_X4_purpose 92 [.inr (.inl (0, 0)), .inl x1, .inl x2] [] σ = (Rx k_X4_lessNextDay 0 [.inr (.inl (0, 0)), .inl x1, uns] [] σ).bind fun q => Rx k_X4_purpose 97 [.inr (.inl (0, 0)), .inl x1, .inl x2] (q.1.toList ++ []) q.2 := by
  refine (Rx_N (k := 2) (pc' := 94) (ls' := [.inr (.inl (0, 0)), .inl x1, .inl x2]) (st' := [.inl x1, .inr (.inl (0, 0))]) (σ' := σ) rfl).trans ?_
  exact Rx_call (n := 3) (y' := k_X4_lessNextDay) (as := [.inr (.inl (0, 0)), .inl x1]) (rest := []) rfl rfl rfl
theorem b_X4_purpose_97 (x1 : Int) (x2 : Int) (s0 : Int) (σ : St) : Rx k_X4_purpose 97 [.inr (.inl (0, 0)), .inl x1, .inl x2] [.inl s0] σ = some (some (.inl s0), σ) := by
  exact Rx_ret rfl rfl
theorem b_X4_purpose_98 (x1 : Int) (x2 : Int) (σ : St) : Rx k_X4_purpose 98 [.inr (.inl (0, 0)), .inl x1, .inl x2] [] σ = (Rx k_X4_refuse 0 [.inr (.inl (0, 0)), .inl 2] [] σ).bind fun q => Rx k_X4_purpose 103 [.inr (.inl (0, 0)), .inl x1, .inl x2] (q.1.toList ++ []) q.2 := by
  refine (Rx_N (k := 2) (pc' := 100) (ls' := [.inr (.inl (0, 0)), .inl x1, .inl x2]) (st' := [.inl 2, .inr (.inl (0, 0))]) (σ' := σ) rfl).trans ?_
  exact Rx_call (n := 3) (y' := k_X4_refuse) (as := [.inr (.inl (0, 0)), .inl 2]) (rest := []) rfl rfl rfl
theorem b_X4_purpose_103 (x1 : Int) (x2 : Int) (s0 : Int) (σ : St) : Rx k_X4_purpose 103 [.inr (.inl (0, 0)), .inl x1, .inl x2] [.inl s0] σ = some (some (.inl s0), σ) := by
  exact Rx_ret rfl rfl
theorem b_X4_lessNextDay_0 (x1 : Int) (u2 : AV) (σ : St) : Rx k_X4_lessNextDay 0 [.inr (.inl (0, 0)), .inl x1, u2] [] σ = (Rx k_X2_isPurpose 0 [.inr (.inl (7, 0)), .inl x1] [] σ).bind fun q => Rx k_X4_lessNextDay 8 [.inr (.inl (0, 0)), .inl x1, u2] (q.1.toList ++ []) q.2 := by
  refine (Rx_N (k := 3) (pc' := 5) (ls' := [.inr (.inl (0, 0)), .inl x1, u2]) (st' := [.inl x1, .inr (.inl (7, 0))]) (σ' := σ) rfl).trans ?_
  exact Rx_call (n := 3) (y' := k_X2_isPurpose) (as := [.inr (.inl (7, 0)), .inl x1]) (rest := []) rfl rfl rfl
theorem b_X4_lessNextDay_8 (x1 : Int) (u2 : AV) (s0 : Int) (σ : St) : Rx k_X4_lessNextDay 8 [.inr (.inl (0, 0)), .inl x1, u2] [.inl s0] σ = if s0 = 0 then Rx k_X4_lessNextDay 11 [.inr (.inl (0, 0)), .inl x1, u2] [] σ else Rx k_X4_lessNextDay 13 [.inr (.inl (0, 0)), .inl x1, u2] [] σ := by
  exact Rx_ne0 (k := 1) rfl
theorem b_X4_lessNextDay_11 (x1 : Int) (u2 : AV) (σ : St) : Rx k_X4_lessNextDay 11 [.inr (.inl (0, 0)), .inl x1, u2] [] σ = some (some (.inl 0), σ) := by
  refine (Rx_N (k := 1) (pc' := 12) (ls' := [.inr (.inl (0, 0)), .inl x1, u2]) (st' := [.inl 0]) (σ' := σ) rfl).trans ?_
  exact Rx_ret rfl rfl
theorem r_X4_lessNextDay_13 (x1 : Int) (u2 : AV) (σ : St) (h0 : 0 ≤ x1) (h1 : x1 < 5) : Rx k_X4_lessNextDay 13 [.inr (.inl (0, 0)), .inl x1, u2] [] σ = (Rx k_X3_by 0 [.inl (σ 8 0 x1.toNat), .inl (σ 9 0 x1.toNat), .inl (σ 10 0 x1.toNat), .inl (σ 11 0 x1.toNat), .inl (wr ((σ 7 0 2) + 1)), uns, uns, uns] [] σ).bind fun q => Rx k_X4_lessNextDay 63 [.inr (.inl (0, 0)), .inl x1, .inl (σ 10 0 x1.toNat)] (q.1.toList ++ []) q.2 := by
  refine (Rx_N (k := 4) (pc' := 21) (ls' := [.inr (.inl (0, 0)), .inl x1, u2]) (st' := [.inl x1, .inr (.inl (10, 0))]) (σ' := σ) rfl).trans ?_
  refine (Rx_ild 5 rfl rfl rfl h0 h1).trans ?_
  refine (Rx_N (k := 5) (pc' := 31) (ls' := [.inr (.inl (0, 0)), .inl x1, .inl (σ 10 0 x1.toNat)]) (st' := [.inl x1, .inr (.inl (8, 0))]) (σ' := σ) rfl).trans ?_
  refine (Rx_ild 5 rfl rfl rfl h0 h1).trans ?_
  refine (Rx_N (k := 4) (pc' := 40) (ls' := [.inr (.inl (0, 0)), .inl x1, .inl (σ 10 0 x1.toNat)]) (st' := [.inl x1, .inr (.inl (9, 0)), .inl (σ 8 0 x1.toNat)]) (σ' := σ) rfl).trans ?_
  refine (Rx_ild 5 rfl rfl rfl h0 h1).trans ?_
  refine (Rx_N (k := 5) (pc' := 50) (ls' := [.inr (.inl (0, 0)), .inl x1, .inl (σ 10 0 x1.toNat)]) (st' := [.inl x1, .inr (.inl (11, 0)), .inl (σ 10 0 x1.toNat), .inl (σ 9 0 x1.toNat), .inl (σ 8 0 x1.toNat)]) (σ' := σ) rfl).trans ?_
  refine (Rx_ild 5 rfl rfl rfl h0 h1).trans ?_
  refine (Rx_N (k := 5) (pc' := 60) (ls' := [.inr (.inl (0, 0)), .inl x1, .inl (σ 10 0 x1.toNat)]) (st' := [.inl (wr ((σ 7 0 2) + 1)), .inl (σ 11 0 x1.toNat), .inl (σ 10 0 x1.toNat), .inl (σ 9 0 x1.toNat), .inl (σ 8 0 x1.toNat)]) (σ' := σ) rfl).trans ?_
  exact Rx_call (n := 3) (y' := k_X3_by) (as := [.inl (σ 8 0 x1.toNat), .inl (σ 9 0 x1.toNat), .inl (σ 10 0 x1.toNat), .inl (σ 11 0 x1.toNat), .inl (wr ((σ 7 0 2) + 1))]) (rest := []) rfl rfl rfl
theorem b_X4_lessNextDay_13 (x1 : Int) (u2 : AV) (σ : St) (h0 : 0 ≤ x1) (h1 : x1 < 5) (g0a : -2147483648 ≤ ((σ 7 0 2) + 1)) (g0b : ((σ 7 0 2) + 1) < 2147483648) : Rx k_X4_lessNextDay 13 [.inr (.inl (0, 0)), .inl x1, u2] [] σ = (Rx k_X3_by 0 [.inl (σ 8 0 x1.toNat), .inl (σ 9 0 x1.toNat), .inl (σ 10 0 x1.toNat), .inl (σ 11 0 x1.toNat), .inl ((σ 7 0 2) + 1), uns, uns, uns] [] σ).bind fun q => Rx k_X4_lessNextDay 63 [.inr (.inl (0, 0)), .inl x1, .inl (σ 10 0 x1.toNat)] (q.1.toList ++ []) q.2 := by
  have e0 := wr_id (x := ((σ 7 0 2) + 1)) g0a g0b
  have raw := r_X4_lessNextDay_13 x1 u2 σ h0 h1
  simp only [e0] at raw
  exact raw
theorem b_X4_lessNextDay_63 (x1 : Int) (x2 : Int) (s0 : Int) (σ : St) : Rx k_X4_lessNextDay 63 [.inr (.inl (0, 0)), .inl x1, .inl x2] [.inl s0] σ = some (some (.inl s0), σ) := by
  exact Rx_ret rfl rfl
theorem b_X4_spare_0 (x1 : Int) (σ : St) : Rx k_X4_spare 0 [.inr (.inl (0, 0)), .inl x1] [] σ = (Rx k_X2_isPurpose 0 [.inr (.inl (7, 0)), .inl x1] [] σ).bind fun q => Rx k_X4_spare 8 [.inr (.inl (0, 0)), .inl x1] (q.1.toList ++ []) q.2 := by
  refine (Rx_N (k := 3) (pc' := 5) (ls' := [.inr (.inl (0, 0)), .inl x1]) (st' := [.inl x1, .inr (.inl (7, 0))]) (σ' := σ) rfl).trans ?_
  exact Rx_call (n := 3) (y' := k_X2_isPurpose) (as := [.inr (.inl (7, 0)), .inl x1]) (rest := []) rfl rfl rfl
theorem b_X4_spare_8 (x1 : Int) (s0 : Int) (σ : St) : Rx k_X4_spare 8 [.inr (.inl (0, 0)), .inl x1] [.inl s0] σ = if s0 = 0 then Rx k_X4_spare 11 [.inr (.inl (0, 0)), .inl x1] [] σ else Rx k_X4_spare 20 [.inr (.inl (0, 0)), .inl x1] [] σ := by
  exact Rx_ne0 (k := 1) rfl
theorem b_X4_spare_11 (x1 : Int) (σ : St) : Rx k_X4_spare 11 [.inr (.inl (0, 0)), .inl x1] [] σ = (Rx k_X4_refuse 0 [.inr (.inl (0, 0)), .inl 1] [] σ).bind fun q => Rx k_X4_spare 18 [.inr (.inl (0, 0)), .inl x1] (q.1.toList ++ [.inl 1000000000]) q.2 := by
  refine (Rx_N (k := 3) (pc' := 15) (ls' := [.inr (.inl (0, 0)), .inl x1]) (st' := [.inl 1, .inr (.inl (0, 0)), .inl 1000000000]) (σ' := σ) rfl).trans ?_
  exact Rx_call (n := 3) (y' := k_X4_refuse) (as := [.inr (.inl (0, 0)), .inl 1]) (rest := [.inl 1000000000]) rfl rfl rfl
theorem r_X4_spare_18 (x1 : Int) (s1 : Int) (s0 : Int) (σ : St) : Rx k_X4_spare 18 [.inr (.inl (0, 0)), .inl x1] [.inl s1, .inl s0] σ = some (some (.inl (wr (s0 - s1))), σ) := by
  refine (Rx_N (k := 1) (pc' := 19) (ls' := [.inr (.inl (0, 0)), .inl x1]) (st' := [.inl (wr (s0 - s1))]) (σ' := σ) rfl).trans ?_
  exact Rx_ret rfl rfl
theorem b_X4_spare_18 (x1 : Int) (s1 : Int) (s0 : Int) (σ : St) (g0a : -2147483648 ≤ (s0 - s1)) (g0b : (s0 - s1) < 2147483648) : Rx k_X4_spare 18 [.inr (.inl (0, 0)), .inl x1] [.inl s1, .inl s0] σ = some (some (.inl (s0 - s1)), σ) := by
  have e0 := wr_id (x := (s0 - s1)) g0a g0b
  have raw := r_X4_spare_18 x1 s1 s0 σ 
  simp only [e0] at raw
  exact raw
theorem b_X4_spare_20 (x1 : Int) (σ : St) : Rx k_X4_spare 20 [.inr (.inl (0, 0)), .inl x1] [] σ = (Rx k_X2_spareOf 0 [.inr (.inl (7, 0)), .inl x1] [] σ).bind fun q => Rx k_X4_spare 28 [.inr (.inl (0, 0)), .inl x1] (q.1.toList ++ []) q.2 := by
  refine (Rx_N (k := 3) (pc' := 25) (ls' := [.inr (.inl (0, 0)), .inl x1]) (st' := [.inl x1, .inr (.inl (7, 0))]) (σ' := σ) rfl).trans ?_
  exact Rx_call (n := 3) (y' := k_X2_spareOf) (as := [.inr (.inl (7, 0)), .inl x1]) (rest := []) rfl rfl rfl
theorem b_X4_spare_28 (x1 : Int) (s0 : Int) (σ : St) : Rx k_X4_spare 28 [.inr (.inl (0, 0)), .inl x1] [.inl s0] σ = some (some (.inl s0), σ) := by
  exact Rx_ret rfl rfl
theorem b_X4_thing_0 (x1 : Int) (x2 : Int) (σ : St) : Rx k_X4_thing 0 [.inr (.inl (0, 0)), .inl x1, .inl x2] [] σ = (Rx k_X2_isThing 0 [.inr (.inl (7, 0)), .inl x1] [] σ).bind fun q => Rx k_X4_thing 8 [.inr (.inl (0, 0)), .inl x1, .inl x2] (q.1.toList ++ []) q.2 := by
  refine (Rx_N (k := 3) (pc' := 5) (ls' := [.inr (.inl (0, 0)), .inl x1, .inl x2]) (st' := [.inl x1, .inr (.inl (7, 0))]) (σ' := σ) rfl).trans ?_
  exact Rx_call (n := 3) (y' := k_X2_isThing) (as := [.inr (.inl (7, 0)), .inl x1]) (rest := []) rfl rfl rfl
theorem b_X4_thing_8 (x1 : Int) (x2 : Int) (s0 : Int) (σ : St) : Rx k_X4_thing 8 [.inr (.inl (0, 0)), .inl x1, .inl x2] [.inl s0] σ = if s0 = 0 then Rx k_X4_thing 11 [.inr (.inl (0, 0)), .inl x1, .inl x2] [] σ else Rx k_X4_thing 17 [.inr (.inl (0, 0)), .inl x1, .inl x2] [] σ := by
  exact Rx_ne0 (k := 1) rfl
theorem b_X4_thing_11 (x1 : Int) (x2 : Int) (σ : St) : Rx k_X4_thing 11 [.inr (.inl (0, 0)), .inl x1, .inl x2] [] σ = (Rx k_X4_refuse 0 [.inr (.inl (0, 0)), .inl 1] [] σ).bind fun q => Rx k_X4_thing 16 [.inr (.inl (0, 0)), .inl x1, .inl x2] (q.1.toList ++ []) q.2 := by
  refine (Rx_N (k := 2) (pc' := 13) (ls' := [.inr (.inl (0, 0)), .inl x1, .inl x2]) (st' := [.inl 1, .inr (.inl (0, 0))]) (σ' := σ) rfl).trans ?_
  exact Rx_call (n := 3) (y' := k_X4_refuse) (as := [.inr (.inl (0, 0)), .inl 1]) (rest := []) rfl rfl rfl
theorem b_X4_thing_16 (x1 : Int) (x2 : Int) (s0 : Int) (σ : St) : Rx k_X4_thing 16 [.inr (.inl (0, 0)), .inl x1, .inl x2] [.inl s0] σ = some (some (.inl s0), σ) := by
  exact Rx_ret rfl rfl
theorem b_X4_thing_17 (x1 : Int) (x2 : Int) (σ : St) : Rx k_X4_thing 17 [.inr (.inl (0, 0)), .inl x1, .inl x2] [] σ = if x2 = 0 then Rx k_X4_thing 48 [.inr (.inl (0, 0)), .inl x1, .inl x2] [] σ else if x2 = 1 then Rx k_X4_thing 58 [.inr (.inl (0, 0)), .inl x1, .inl x2] [] σ else if x2 = 2 then Rx k_X4_thing 68 [.inr (.inl (0, 0)), .inl x1, .inl x2] [] σ else if x2 = 3 then Rx k_X4_thing 78 [.inr (.inl (0, 0)), .inl x1, .inl x2] [] σ else Rx k_X4_thing 95 [.inr (.inl (0, 0)), .inl x1, .inl x2] [] σ := by
  refine (Rx_N (k := 1) (pc' := 18) (ls' := [.inr (.inl (0, 0)), .inl x1, .inl x2]) (st' := [.inl x2]) (σ' := σ) rfl).trans ?_
  generalize x2 = z9
  by_cases e9 : z9 = 0
  · subst e9; exact Rx_N (k := 1) rfl
  by_cases e9 : z9 = 1
  · subst e9; exact Rx_N (k := 1) rfl
  by_cases e9 : z9 = 2
  · subst e9; exact Rx_N (k := 1) rfl
  by_cases e9 : z9 = 3
  · subst e9; exact Rx_N (k := 1) rfl
  rw [if_neg (by omega)]; rw [if_neg (by omega)]; rw [if_neg (by omega)]; rw [if_neg (by omega)]; exact Rx_tout rfl (by omega) rfl
theorem b_X4_thing_48 (x1 : Int) (x2 : Int) (σ : St) (h0 : 0 ≤ x1) (h1 : x1 < 10) : Rx k_X4_thing 48 [.inr (.inl (0, 0)), .inl x1, .inl x2] [] σ = some (some (.inl (σ 12 0 x1.toNat)), σ) := by
  refine (Rx_N (k := 4) (pc' := 56) (ls' := [.inr (.inl (0, 0)), .inl x1, .inl x2]) (st' := [.inl x1, .inr (.inl (12, 0))]) (σ' := σ) rfl).trans ?_
  refine (Rx_ild 10 rfl rfl rfl h0 h1).trans ?_
  exact Rx_ret rfl rfl
theorem b_X4_thing_58 (x1 : Int) (x2 : Int) (σ : St) (h0 : 0 ≤ x1) (h1 : x1 < 10) : Rx k_X4_thing 58 [.inr (.inl (0, 0)), .inl x1, .inl x2] [] σ = some (some (.inl (σ 13 0 x1.toNat)), σ) := by
  refine (Rx_N (k := 4) (pc' := 66) (ls' := [.inr (.inl (0, 0)), .inl x1, .inl x2]) (st' := [.inl x1, .inr (.inl (13, 0))]) (σ' := σ) rfl).trans ?_
  refine (Rx_ild 10 rfl rfl rfl h0 h1).trans ?_
  exact Rx_ret rfl rfl
theorem b_X4_thing_68 (x1 : Int) (x2 : Int) (σ : St) (h0 : 0 ≤ x1) (h1 : x1 < 10) : Rx k_X4_thing 68 [.inr (.inl (0, 0)), .inl x1, .inl x2] [] σ = some (some (.inl (σ 14 0 x1.toNat)), σ) := by
  refine (Rx_N (k := 4) (pc' := 76) (ls' := [.inr (.inl (0, 0)), .inl x1, .inl x2]) (st' := [.inl x1, .inr (.inl (14, 0))]) (σ' := σ) rfl).trans ?_
  refine (Rx_ild 10 rfl rfl rfl h0 h1).trans ?_
  exact Rx_ret rfl rfl
theorem b_X4_thing_78 (x1 : Int) (x2 : Int) (σ : St) : Rx k_X4_thing 78 [.inr (.inl (0, 0)), .inl x1, .inl x2] [] σ = (Rx k_X2_isUp 0 [.inr (.inl (7, 0)), .inl x1] [] σ).bind fun q => Rx k_X4_thing 86 [.inr (.inl (0, 0)), .inl x1, .inl x2] (q.1.toList ++ []) q.2 := by
  refine (Rx_N (k := 3) (pc' := 83) (ls' := [.inr (.inl (0, 0)), .inl x1, .inl x2]) (st' := [.inl x1, .inr (.inl (7, 0))]) (σ' := σ) rfl).trans ?_
  exact Rx_call (n := 3) (y' := k_X2_isUp) (as := [.inr (.inl (7, 0)), .inl x1]) (rest := []) rfl rfl rfl
theorem b_X4_thing_86 (x1 : Int) (x2 : Int) (s0 : Int) (σ : St) : Rx k_X4_thing 86 [.inr (.inl (0, 0)), .inl x1, .inl x2] [.inl s0] σ = if s0 = 0 then Rx k_X4_thing 93 [.inr (.inl (0, 0)), .inl x1, .inl x2] [] σ else Rx k_X4_thing 89 [.inr (.inl (0, 0)), .inl x1, .inl x2] [] σ := by
  exact Rx_eq0 (k := 1) rfl
theorem b_X4_thing_89 (x1 : Int) (x2 : Int) (σ : St) : Rx k_X4_thing 89 [.inr (.inl (0, 0)), .inl x1, .inl x2] [] σ = some (some (.inl 1), σ) := by
  refine (Rx_N (k := 2) (pc' := 94) (ls' := [.inr (.inl (0, 0)), .inl x1, .inl x2]) (st' := [.inl 1]) (σ' := σ) rfl).trans ?_
  exact Rx_ret rfl rfl
theorem b_X4_thing_93 (x1 : Int) (x2 : Int) (σ : St) : Rx k_X4_thing 93 [.inr (.inl (0, 0)), .inl x1, .inl x2] [] σ = some (some (.inl 0), σ) := by
  refine (Rx_N (k := 1) (pc' := 94) (ls' := [.inr (.inl (0, 0)), .inl x1, .inl x2]) (st' := [.inl 0]) (σ' := σ) rfl).trans ?_
  exact Rx_ret rfl rfl
theorem b_X4_thing_95 (x1 : Int) (x2 : Int) (σ : St) : Rx k_X4_thing 95 [.inr (.inl (0, 0)), .inl x1, .inl x2] [] σ = (Rx k_X4_refuse 0 [.inr (.inl (0, 0)), .inl 2] [] σ).bind fun q => Rx k_X4_thing 100 [.inr (.inl (0, 0)), .inl x1, .inl x2] (q.1.toList ++ []) q.2 := by
  refine (Rx_N (k := 2) (pc' := 97) (ls' := [.inr (.inl (0, 0)), .inl x1, .inl x2]) (st' := [.inl 2, .inr (.inl (0, 0))]) (σ' := σ) rfl).trans ?_
  exact Rx_call (n := 3) (y' := k_X4_refuse) (as := [.inr (.inl (0, 0)), .inl 2]) (rest := []) rfl rfl rfl
theorem b_X4_thing_100 (x1 : Int) (x2 : Int) (s0 : Int) (σ : St) : Rx k_X4_thing 100 [.inr (.inl (0, 0)), .inl x1, .inl x2] [.inl s0] σ = some (some (.inl s0), σ) := by
  exact Rx_ret rfl rfl
theorem b_X4_at_0 (x1 : Int) (σ : St) : Rx k_X4_at 0 [.inr (.inl (0, 0)), .inl x1] [] σ = (Rx k_X4_isPlace 0 [.inl x1] [] σ).bind fun q => Rx k_X4_at 4 [.inr (.inl (0, 0)), .inl x1] (q.1.toList ++ []) q.2 := by
  refine (Rx_N (k := 1) (pc' := 1) (ls' := [.inr (.inl (0, 0)), .inl x1]) (st' := [.inl x1]) (σ' := σ) rfl).trans ?_
  exact Rx_call (n := 3) (y' := k_X4_isPlace) (as := [.inl x1]) (rest := []) rfl rfl rfl
theorem b_X4_at_4 (x1 : Int) (s0 : Int) (σ : St) : Rx k_X4_at 4 [.inr (.inl (0, 0)), .inl x1] [.inl s0] σ = if s0 = 0 then Rx k_X4_at 7 [.inr (.inl (0, 0)), .inl x1] [] σ else Rx k_X4_at 13 [.inr (.inl (0, 0)), .inl x1] [] σ := by
  exact Rx_ne0 (k := 1) rfl
theorem b_X4_at_7 (x1 : Int) (σ : St) : Rx k_X4_at 7 [.inr (.inl (0, 0)), .inl x1] [] σ = (Rx k_X4_refuse 0 [.inr (.inl (0, 0)), .inl 1] [] σ).bind fun q => Rx k_X4_at 12 [.inr (.inl (0, 0)), .inl x1] (q.1.toList ++ []) q.2 := by
  refine (Rx_N (k := 2) (pc' := 9) (ls' := [.inr (.inl (0, 0)), .inl x1]) (st' := [.inl 1, .inr (.inl (0, 0))]) (σ' := σ) rfl).trans ?_
  exact Rx_call (n := 3) (y' := k_X4_refuse) (as := [.inr (.inl (0, 0)), .inl 1]) (rest := []) rfl rfl rfl
theorem b_X4_at_12 (x1 : Int) (s0 : Int) (σ : St) : Rx k_X4_at 12 [.inr (.inl (0, 0)), .inl x1] [.inl s0] σ = some (some (.inl s0), σ) := by
  exact Rx_ret rfl rfl
theorem b_X4_at_13 (x1 : Int) (σ : St) (h0 : 0 ≤ x1) (h1 : x1 < 20) : Rx k_X4_at 13 [.inr (.inl (0, 0)), .inl x1] [] σ = some (some (.inl (σ 15 0 x1.toNat)), σ) := by
  refine (Rx_N (k := 4) (pc' := 21) (ls' := [.inr (.inl (0, 0)), .inl x1]) (st' := [.inl x1, .inr (.inl (15, 0))]) (σ' := σ) rfl).trans ?_
  refine (Rx_ild 20 rfl rfl rfl h0 h1).trans ?_
  exact Rx_ret rfl rfl
theorem b_X4_count_0 (x1 : Int) (σ : St) : Rx k_X4_count 0 [.inr (.inl (0, 0)), .inl x1] [] σ = if x1 = 0 then Rx k_X4_count 48 [.inr (.inl (0, 0)), .inl x1] [] σ else if x1 = 1 then Rx k_X4_count 56 [.inr (.inl (0, 0)), .inl x1] [] σ else if x1 = 2 then Rx k_X4_count 64 [.inr (.inl (0, 0)), .inl x1] [] σ else if x1 = 3 then Rx k_X4_count 72 [.inr (.inl (0, 0)), .inl x1] [] σ else if x1 = 4 then Rx k_X4_count 80 [.inr (.inl (0, 0)), .inl x1] [] σ else if x1 = 5 then Rx k_X4_count 88 [.inr (.inl (0, 0)), .inl x1] [] σ else if x1 = 6 then Rx k_X4_count 96 [.inr (.inl (0, 0)), .inl x1] [] σ else if x1 = 7 then Rx k_X4_count 101 [.inr (.inl (0, 0)), .inl x1] [] σ else Rx k_X4_count 109 [.inr (.inl (0, 0)), .inl x1] [] σ := by
  refine (Rx_N (k := 1) (pc' := 1) (ls' := [.inr (.inl (0, 0)), .inl x1]) (st' := [.inl x1]) (σ' := σ) rfl).trans ?_
  generalize x1 = z9
  by_cases e9 : z9 = 0
  · subst e9; exact Rx_N (k := 1) rfl
  by_cases e9 : z9 = 1
  · subst e9; exact Rx_N (k := 1) rfl
  by_cases e9 : z9 = 2
  · subst e9; exact Rx_N (k := 1) rfl
  by_cases e9 : z9 = 3
  · subst e9; exact Rx_N (k := 1) rfl
  by_cases e9 : z9 = 4
  · subst e9; exact Rx_N (k := 1) rfl
  by_cases e9 : z9 = 5
  · subst e9; exact Rx_N (k := 1) rfl
  by_cases e9 : z9 = 6
  · subst e9; exact Rx_N (k := 1) rfl
  by_cases e9 : z9 = 7
  · subst e9; exact Rx_N (k := 1) rfl
  rw [if_neg (by omega)]; rw [if_neg (by omega)]; rw [if_neg (by omega)]; rw [if_neg (by omega)]; rw [if_neg (by omega)]; rw [if_neg (by omega)]; rw [if_neg (by omega)]; rw [if_neg (by omega)]; exact Rx_tout rfl (by omega) rfl
theorem b_X4_count_48 (x1 : Int) (σ : St) : Rx k_X4_count 48 [.inr (.inl (0, 0)), .inl x1] [] σ = some (some (.inl (σ 7 0 0)), σ) := by
  refine (Rx_N (k := 3) (pc' := 55) (ls' := [.inr (.inl (0, 0)), .inl x1]) (st' := [.inl (σ 7 0 0)]) (σ' := σ) rfl).trans ?_
  exact Rx_ret rfl rfl
theorem b_X4_count_56 (x1 : Int) (σ : St) : Rx k_X4_count 56 [.inr (.inl (0, 0)), .inl x1] [] σ = some (some (.inl (σ 7 0 1)), σ) := by
  refine (Rx_N (k := 3) (pc' := 63) (ls' := [.inr (.inl (0, 0)), .inl x1]) (st' := [.inl (σ 7 0 1)]) (σ' := σ) rfl).trans ?_
  exact Rx_ret rfl rfl
theorem b_X4_count_64 (x1 : Int) (σ : St) : Rx k_X4_count 64 [.inr (.inl (0, 0)), .inl x1] [] σ = some (some (.inl (σ 7 0 2)), σ) := by
  refine (Rx_N (k := 3) (pc' := 71) (ls' := [.inr (.inl (0, 0)), .inl x1]) (st' := [.inl (σ 7 0 2)]) (σ' := σ) rfl).trans ?_
  exact Rx_ret rfl rfl
theorem b_X4_count_72 (x1 : Int) (σ : St) : Rx k_X4_count 72 [.inr (.inl (0, 0)), .inl x1] [] σ = some (some (.inl (σ 7 0 3)), σ) := by
  refine (Rx_N (k := 3) (pc' := 79) (ls' := [.inr (.inl (0, 0)), .inl x1]) (st' := [.inl (σ 7 0 3)]) (σ' := σ) rfl).trans ?_
  exact Rx_ret rfl rfl
theorem b_X4_count_80 (x1 : Int) (σ : St) : Rx k_X4_count 80 [.inr (.inl (0, 0)), .inl x1] [] σ = (Rx k_X2_allStrength 0 [.inr (.inl (7, 0)), uns, uns] [] σ).bind fun q => Rx k_X4_count 87 [.inr (.inl (0, 0)), .inl x1] (q.1.toList ++ []) q.2 := by
  refine (Rx_N (k := 2) (pc' := 84) (ls' := [.inr (.inl (0, 0)), .inl x1]) (st' := [.inr (.inl (7, 0))]) (σ' := σ) rfl).trans ?_
  exact Rx_call (n := 3) (y' := k_X2_allStrength) (as := [.inr (.inl (7, 0))]) (rest := []) rfl rfl rfl
theorem b_X4_count_87 (x1 : Int) (s0 : Int) (σ : St) : Rx k_X4_count 87 [.inr (.inl (0, 0)), .inl x1] [.inl s0] σ = some (some (.inl s0), σ) := by
  exact Rx_ret rfl rfl
theorem b_X4_count_88 (x1 : Int) (σ : St) : Rx k_X4_count 88 [.inr (.inl (0, 0)), .inl x1] [] σ = (Rx k_X2_allLoad 0 [.inr (.inl (7, 0)), uns, uns] [] σ).bind fun q => Rx k_X4_count 95 [.inr (.inl (0, 0)), .inl x1] (q.1.toList ++ []) q.2 := by
  refine (Rx_N (k := 2) (pc' := 92) (ls' := [.inr (.inl (0, 0)), .inl x1]) (st' := [.inr (.inl (7, 0))]) (σ' := σ) rfl).trans ?_
  exact Rx_call (n := 3) (y' := k_X2_allLoad) (as := [.inr (.inl (7, 0))]) (rest := []) rfl rfl rfl
theorem b_X4_count_95 (x1 : Int) (s0 : Int) (σ : St) : Rx k_X4_count 95 [.inr (.inl (0, 0)), .inl x1] [.inl s0] σ = some (some (.inl s0), σ) := by
  exact Rx_ret rfl rfl
theorem b_X4_count_96 (x1 : Int) (σ : St) : Rx k_X4_count 96 [.inr (.inl (0, 0)), .inl x1] [] σ = some (some (.inl (σ 0 0 6)), σ) := by
  refine (Rx_N (k := 2) (pc' := 100) (ls' := [.inr (.inl (0, 0)), .inl x1]) (st' := [.inl (σ 0 0 6)]) (σ' := σ) rfl).trans ?_
  exact Rx_ret rfl rfl
theorem b_X4_count_101 (x1 : Int) (σ : St) : Rx k_X4_count 101 [.inr (.inl (0, 0)), .inl x1] [] σ = some (some (.inl (σ 3 0 1)), σ) := by
  refine (Rx_N (k := 3) (pc' := 108) (ls' := [.inr (.inl (0, 0)), .inl x1]) (st' := [.inl (σ 3 0 1)]) (σ' := σ) rfl).trans ?_
  exact Rx_ret rfl rfl
theorem b_X4_count_109 (x1 : Int) (σ : St) : Rx k_X4_count 109 [.inr (.inl (0, 0)), .inl x1] [] σ = if x1 < 11 then Rx k_X4_count 133 [.inr (.inl (0, 0)), .inl x1] [] σ else Rx k_X4_count 115 [.inr (.inl (0, 0)), .inl x1] [] σ := by
  exact Rx_lt0 (k := 3) rfl
theorem b_X4_count_115 (x1 : Int) (σ : St) : Rx k_X4_count 115 [.inr (.inl (0, 0)), .inl x1] [] σ = if 16 < x1 then Rx k_X4_count 133 [.inr (.inl (0, 0)), .inl x1] [] σ else Rx k_X4_count 121 [.inr (.inl (0, 0)), .inl x1] [] σ := by
  exact Rx_gt0 (k := 3) rfl
theorem r_X4_count_121 (x1 : Int) (σ : St) (h0 : 0 ≤ (wr (x1 - 10))) (h1 : (wr (x1 - 10)) < 7) : Rx k_X4_count 121 [.inr (.inl (0, 0)), .inl x1] [] σ = some (some (.inl (σ 6 0 (wr (x1 - 10)).toNat)), σ) := by
  refine (Rx_N (k := 5) (pc' := 129) (ls' := [.inr (.inl (0, 0)), .inl x1]) (st' := [.inl (wr (x1 - 10)), .inr (.inl (6, 0))]) (σ' := σ) rfl).trans ?_
  refine (Rx_ild 7 rfl rfl rfl h0 h1).trans ?_
  refine (Rx_N (k := 1) (pc' := 135) (ls' := [.inr (.inl (0, 0)), .inl x1]) (st' := [.inl (σ 6 0 (wr (x1 - 10)).toNat)]) (σ' := σ) rfl).trans ?_
  exact Rx_ret rfl rfl
theorem b_X4_count_121 (x1 : Int) (σ : St) (h0 : 0 ≤ (x1 - 10)) (h1 : (x1 - 10) < 7) (g0a : -2147483648 ≤ (x1 - 10)) (g0b : (x1 - 10) < 2147483648) : Rx k_X4_count 121 [.inr (.inl (0, 0)), .inl x1] [] σ = some (some (.inl (σ 6 0 (x1 - 10).toNat)), σ) := by
  have e0 := wr_id (x := (x1 - 10)) g0a g0b
  have raw := r_X4_count_121 x1 σ (by simp only [e0]; exact h0) (by simp only [e0]; exact h1)
  simp only [e0] at raw
  exact raw
theorem b_X4_count_133 (x1 : Int) (σ : St) : Rx k_X4_count 133 [.inr (.inl (0, 0)), .inl x1] [] σ = some (some (.inl (-9)), σ) := by
  refine (Rx_N (k := 1) (pc' := 135) (ls' := [.inr (.inl (0, 0)), .inl x1]) (st' := [.inl (-9)]) (σ' := σ) rfl).trans ?_
  exact Rx_ret rfl rfl
theorem b_X4_leans_0 (x1 : Int) (x2 : Int) (u3 : AV) (σ : St) : Rx k_X4_leans 0 [.inr (.inl (0, 0)), .inl x1, .inl x2, u3] [] σ = (Rx k_X2_isThing 0 [.inr (.inl (7, 0)), .inl x1] [] σ).bind fun q => Rx k_X4_leans 8 [.inr (.inl (0, 0)), .inl x1, .inl x2, u3] (q.1.toList ++ []) q.2 := by
  refine (Rx_N (k := 3) (pc' := 5) (ls' := [.inr (.inl (0, 0)), .inl x1, .inl x2, u3]) (st' := [.inl x1, .inr (.inl (7, 0))]) (σ' := σ) rfl).trans ?_
  exact Rx_call (n := 3) (y' := k_X2_isThing) (as := [.inr (.inl (7, 0)), .inl x1]) (rest := []) rfl rfl rfl
theorem b_X4_leans_8 (x1 : Int) (x2 : Int) (u3 : AV) (s0 : Int) (σ : St) : Rx k_X4_leans 8 [.inr (.inl (0, 0)), .inl x1, .inl x2, u3] [.inl s0] σ = if s0 = 0 then Rx k_X4_leans 22 [.inr (.inl (0, 0)), .inl x1, .inl x2, u3] [] σ else Rx k_X4_leans 11 [.inr (.inl (0, 0)), .inl x1, .inl x2, u3] [] σ := by
  exact Rx_eq0 (k := 1) rfl
theorem b_X4_leans_11 (x1 : Int) (x2 : Int) (u3 : AV) (σ : St) : Rx k_X4_leans 11 [.inr (.inl (0, 0)), .inl x1, .inl x2, u3] [] σ = (Rx k_X2_isPurpose 0 [.inr (.inl (7, 0)), .inl x2] [] σ).bind fun q => Rx k_X4_leans 19 [.inr (.inl (0, 0)), .inl x1, .inl x2, u3] (q.1.toList ++ []) q.2 := by
  refine (Rx_N (k := 3) (pc' := 16) (ls' := [.inr (.inl (0, 0)), .inl x1, .inl x2, u3]) (st' := [.inl x2, .inr (.inl (7, 0))]) (σ' := σ) rfl).trans ?_
  exact Rx_call (n := 3) (y' := k_X2_isPurpose) (as := [.inr (.inl (7, 0)), .inl x2]) (rest := []) rfl rfl rfl
theorem b_X4_leans_19 (x1 : Int) (x2 : Int) (u3 : AV) (s0 : Int) (σ : St) : Rx k_X4_leans 19 [.inr (.inl (0, 0)), .inl x1, .inl x2, u3] [.inl s0] σ = if s0 = 0 then Rx k_X4_leans 22 [.inr (.inl (0, 0)), .inl x1, .inl x2, u3] [] σ else Rx k_X4_leans 28 [.inr (.inl (0, 0)), .inl x1, .inl x2, u3] [] σ := by
  exact Rx_ne0 (k := 1) rfl
theorem b_X4_leans_22 (x1 : Int) (x2 : Int) (u3 : AV) (σ : St) : Rx k_X4_leans 22 [.inr (.inl (0, 0)), .inl x1, .inl x2, u3] [] σ = (Rx k_X4_refuse 0 [.inr (.inl (0, 0)), .inl 1] [] σ).bind fun q => Rx k_X4_leans 27 [.inr (.inl (0, 0)), .inl x1, .inl x2, u3] (q.1.toList ++ []) q.2 := by
  refine (Rx_N (k := 2) (pc' := 24) (ls' := [.inr (.inl (0, 0)), .inl x1, .inl x2, u3]) (st' := [.inl 1, .inr (.inl (0, 0))]) (σ' := σ) rfl).trans ?_
  exact Rx_call (n := 3) (y' := k_X4_refuse) (as := [.inr (.inl (0, 0)), .inl 1]) (rest := []) rfl rfl rfl
theorem b_X4_leans_27 (x1 : Int) (x2 : Int) (u3 : AV) (s0 : Int) (σ : St) : Rx k_X4_leans 27 [.inr (.inl (0, 0)), .inl x1, .inl x2, u3] [.inl s0] σ = some (some (.inl s0), σ) := by
  exact Rx_ret rfl rfl
theorem b_X4_leans_28 (x1 : Int) (x2 : Int) (u3 : AV) (σ : St) (h0 : 0 ≤ x1) (h1 : x1 < 10) : Rx k_X4_leans 28 [.inr (.inl (0, 0)), .inl x1, .inl x2, u3] [] σ = (Rx k_X2_leanOn 0 [.inr (.inl (7, 0)), .inl x1, .inl x2] [] σ).bind fun q => Rx k_X4_leans 47 [.inr (.inl (0, 0)), .inl x1, .inl x2, .inl (σ 14 0 x1.toNat)] (q.1.toList ++ []) q.2 := by
  refine (Rx_N (k := 4) (pc' := 36) (ls' := [.inr (.inl (0, 0)), .inl x1, .inl x2, u3]) (st' := [.inl x1, .inr (.inl (14, 0))]) (σ' := σ) rfl).trans ?_
  refine (Rx_ild 10 rfl rfl rfl h0 h1).trans ?_
  refine (Rx_N (k := 5) (pc' := 44) (ls' := [.inr (.inl (0, 0)), .inl x1, .inl x2, .inl (σ 14 0 x1.toNat)]) (st' := [.inl x2, .inl x1, .inr (.inl (7, 0))]) (σ' := σ) rfl).trans ?_
  exact Rx_call (n := 3) (y' := k_X2_leanOn) (as := [.inr (.inl (7, 0)), .inl x1, .inl x2]) (rest := []) rfl rfl rfl
theorem b_X4_leans_47 (x1 : Int) (x2 : Int) (x3 : Int) (s0 : Int) (σ : St) : Rx k_X4_leans 47 [.inr (.inl (0, 0)), .inl x1, .inl x2, .inl x3] [.inl s0] σ = some (some (.inl x3), σ) := by
  refine (Rx_N (k := 2) (pc' := 49) (ls' := [.inr (.inl (0, 0)), .inl x1, .inl x2, .inl x3]) (st' := [.inl x3]) (σ' := σ) rfl).trans ?_
  exact Rx_ret rfl rfl
theorem b_X4_moves_0 (x1 : Int) (x2 : Int) (u3 : AV) (σ : St) : Rx k_X4_moves 0 [.inr (.inl (0, 0)), .inl x1, .inl x2, u3] [] σ = (Rx k_X2_isThing 0 [.inr (.inl (7, 0)), .inl x1] [] σ).bind fun q => Rx k_X4_moves 8 [.inr (.inl (0, 0)), .inl x1, .inl x2, u3] (q.1.toList ++ []) q.2 := by
  refine (Rx_N (k := 3) (pc' := 5) (ls' := [.inr (.inl (0, 0)), .inl x1, .inl x2, u3]) (st' := [.inl x1, .inr (.inl (7, 0))]) (σ' := σ) rfl).trans ?_
  exact Rx_call (n := 3) (y' := k_X2_isThing) (as := [.inr (.inl (7, 0)), .inl x1]) (rest := []) rfl rfl rfl
theorem b_X4_moves_8 (x1 : Int) (x2 : Int) (u3 : AV) (s0 : Int) (σ : St) : Rx k_X4_moves 8 [.inr (.inl (0, 0)), .inl x1, .inl x2, u3] [.inl s0] σ = if s0 = 0 then Rx k_X4_moves 18 [.inr (.inl (0, 0)), .inl x1, .inl x2, u3] [] σ else Rx k_X4_moves 11 [.inr (.inl (0, 0)), .inl x1, .inl x2, u3] [] σ := by
  exact Rx_eq0 (k := 1) rfl
theorem b_X4_moves_11 (x1 : Int) (x2 : Int) (u3 : AV) (σ : St) : Rx k_X4_moves 11 [.inr (.inl (0, 0)), .inl x1, .inl x2, u3] [] σ = (Rx k_X4_isPlace 0 [.inl x2] [] σ).bind fun q => Rx k_X4_moves 15 [.inr (.inl (0, 0)), .inl x1, .inl x2, u3] (q.1.toList ++ []) q.2 := by
  refine (Rx_N (k := 1) (pc' := 12) (ls' := [.inr (.inl (0, 0)), .inl x1, .inl x2, u3]) (st' := [.inl x2]) (σ' := σ) rfl).trans ?_
  exact Rx_call (n := 3) (y' := k_X4_isPlace) (as := [.inl x2]) (rest := []) rfl rfl rfl
theorem b_X4_moves_15 (x1 : Int) (x2 : Int) (u3 : AV) (s0 : Int) (σ : St) : Rx k_X4_moves 15 [.inr (.inl (0, 0)), .inl x1, .inl x2, u3] [.inl s0] σ = if s0 = 0 then Rx k_X4_moves 18 [.inr (.inl (0, 0)), .inl x1, .inl x2, u3] [] σ else Rx k_X4_moves 24 [.inr (.inl (0, 0)), .inl x1, .inl x2, u3] [] σ := by
  exact Rx_ne0 (k := 1) rfl
theorem b_X4_moves_18 (x1 : Int) (x2 : Int) (u3 : AV) (σ : St) : Rx k_X4_moves 18 [.inr (.inl (0, 0)), .inl x1, .inl x2, u3] [] σ = (Rx k_X4_refuse 0 [.inr (.inl (0, 0)), .inl 1] [] σ).bind fun q => Rx k_X4_moves 23 [.inr (.inl (0, 0)), .inl x1, .inl x2, u3] (q.1.toList ++ []) q.2 := by
  refine (Rx_N (k := 2) (pc' := 20) (ls' := [.inr (.inl (0, 0)), .inl x1, .inl x2, u3]) (st' := [.inl 1, .inr (.inl (0, 0))]) (σ' := σ) rfl).trans ?_
  exact Rx_call (n := 3) (y' := k_X4_refuse) (as := [.inr (.inl (0, 0)), .inl 1]) (rest := []) rfl rfl rfl
theorem b_X4_moves_23 (x1 : Int) (x2 : Int) (u3 : AV) (s0 : Int) (σ : St) : Rx k_X4_moves 23 [.inr (.inl (0, 0)), .inl x1, .inl x2, u3] [.inl s0] σ = some (some (.inl s0), σ) := by
  exact Rx_ret rfl rfl
theorem b_X4_moves_24 (x1 : Int) (x2 : Int) (u3 : AV) (σ : St) : Rx k_X4_moves 24 [.inr (.inl (0, 0)), .inl x1, .inl x2, u3] [] σ = (Rx k_X2_isFreeFor 0 [.inr (.inl (7, 0)), .inl x1, .inl x2] [] σ).bind fun q => Rx k_X4_moves 33 [.inr (.inl (0, 0)), .inl x1, .inl x2, u3] (q.1.toList ++ []) q.2 := by
  refine (Rx_N (k := 4) (pc' := 30) (ls' := [.inr (.inl (0, 0)), .inl x1, .inl x2, u3]) (st' := [.inl x2, .inl x1, .inr (.inl (7, 0))]) (σ' := σ) rfl).trans ?_
  exact Rx_call (n := 3) (y' := k_X2_isFreeFor) (as := [.inr (.inl (7, 0)), .inl x1, .inl x2]) (rest := []) rfl rfl rfl
theorem b_X4_moves_33 (x1 : Int) (x2 : Int) (u3 : AV) (s0 : Int) (σ : St) : Rx k_X4_moves 33 [.inr (.inl (0, 0)), .inl x1, .inl x2, u3] [.inl s0] σ = if s0 = 0 then Rx k_X4_moves 36 [.inr (.inl (0, 0)), .inl x1, .inl x2, u3] [] σ else Rx k_X4_moves 42 [.inr (.inl (0, 0)), .inl x1, .inl x2, u3] [] σ := by
  exact Rx_ne0 (k := 1) rfl
theorem b_X4_moves_36 (x1 : Int) (x2 : Int) (u3 : AV) (σ : St) : Rx k_X4_moves 36 [.inr (.inl (0, 0)), .inl x1, .inl x2, u3] [] σ = (Rx k_X4_refuse 0 [.inr (.inl (0, 0)), .inl 3] [] σ).bind fun q => Rx k_X4_moves 41 [.inr (.inl (0, 0)), .inl x1, .inl x2, u3] (q.1.toList ++ []) q.2 := by
  refine (Rx_N (k := 2) (pc' := 38) (ls' := [.inr (.inl (0, 0)), .inl x1, .inl x2, u3]) (st' := [.inl 3, .inr (.inl (0, 0))]) (σ' := σ) rfl).trans ?_
  exact Rx_call (n := 3) (y' := k_X4_refuse) (as := [.inr (.inl (0, 0)), .inl 3]) (rest := []) rfl rfl rfl
theorem b_X4_moves_41 (x1 : Int) (x2 : Int) (u3 : AV) (s0 : Int) (σ : St) : Rx k_X4_moves 41 [.inr (.inl (0, 0)), .inl x1, .inl x2, u3] [.inl s0] σ = some (some (.inl s0), σ) := by
  exact Rx_ret rfl rfl
theorem b_X4_moves_42 (x1 : Int) (x2 : Int) (u3 : AV) (σ : St) (h0 : 0 ≤ x1) (h1 : x1 < 10) : Rx k_X4_moves 42 [.inr (.inl (0, 0)), .inl x1, .inl x2, u3] [] σ = (Rx k_X2_moveTo 0 [.inr (.inl (7, 0)), .inl x1, .inl x2] [] σ).bind fun q => Rx k_X4_moves 61 [.inr (.inl (0, 0)), .inl x1, .inl x2, .inl (σ 13 0 x1.toNat)] (q.1.toList ++ []) q.2 := by
  refine (Rx_N (k := 4) (pc' := 50) (ls' := [.inr (.inl (0, 0)), .inl x1, .inl x2, u3]) (st' := [.inl x1, .inr (.inl (13, 0))]) (σ' := σ) rfl).trans ?_
  refine (Rx_ild 10 rfl rfl rfl h0 h1).trans ?_
  refine (Rx_N (k := 5) (pc' := 58) (ls' := [.inr (.inl (0, 0)), .inl x1, .inl x2, .inl (σ 13 0 x1.toNat)]) (st' := [.inl x2, .inl x1, .inr (.inl (7, 0))]) (σ' := σ) rfl).trans ?_
  exact Rx_call (n := 3) (y' := k_X2_moveTo) (as := [.inr (.inl (7, 0)), .inl x1, .inl x2]) (rest := []) rfl rfl rfl
theorem b_X4_moves_61 (x1 : Int) (x2 : Int) (x3 : Int) (σ : St) : Rx k_X4_moves 61 [.inr (.inl (0, 0)), .inl x1, .inl x2, .inl x3] [] σ = some (some (.inl x3), σ) := by
  refine (Rx_N (k := 1) (pc' := 62) (ls' := [.inr (.inl (0, 0)), .inl x1, .inl x2, .inl x3]) (st' := [.inl x3]) (σ' := σ) rfl).trans ?_
  exact Rx_ret rfl rfl
theorem b_X4_setsUp_0 (x1 : Int) (σ : St) : Rx k_X4_setsUp 0 [.inr (.inl (0, 0)), .inl x1] [] σ = (Rx k_X2_isThing 0 [.inr (.inl (7, 0)), .inl x1] [] σ).bind fun q => Rx k_X4_setsUp 8 [.inr (.inl (0, 0)), .inl x1] (q.1.toList ++ []) q.2 := by
  refine (Rx_N (k := 3) (pc' := 5) (ls' := [.inr (.inl (0, 0)), .inl x1]) (st' := [.inl x1, .inr (.inl (7, 0))]) (σ' := σ) rfl).trans ?_
  exact Rx_call (n := 3) (y' := k_X2_isThing) (as := [.inr (.inl (7, 0)), .inl x1]) (rest := []) rfl rfl rfl
theorem b_X4_setsUp_8 (x1 : Int) (s0 : Int) (σ : St) : Rx k_X4_setsUp 8 [.inr (.inl (0, 0)), .inl x1] [.inl s0] σ = if s0 = 0 then Rx k_X4_setsUp 11 [.inr (.inl (0, 0)), .inl x1] [] σ else Rx k_X4_setsUp 17 [.inr (.inl (0, 0)), .inl x1] [] σ := by
  exact Rx_ne0 (k := 1) rfl
theorem b_X4_setsUp_11 (x1 : Int) (σ : St) : Rx k_X4_setsUp 11 [.inr (.inl (0, 0)), .inl x1] [] σ = (Rx k_X4_refuse 0 [.inr (.inl (0, 0)), .inl 1] [] σ).bind fun q => Rx k_X4_setsUp 16 [.inr (.inl (0, 0)), .inl x1] (q.1.toList ++ []) q.2 := by
  refine (Rx_N (k := 2) (pc' := 13) (ls' := [.inr (.inl (0, 0)), .inl x1]) (st' := [.inl 1, .inr (.inl (0, 0))]) (σ' := σ) rfl).trans ?_
  exact Rx_call (n := 3) (y' := k_X4_refuse) (as := [.inr (.inl (0, 0)), .inl 1]) (rest := []) rfl rfl rfl
theorem b_X4_setsUp_16 (x1 : Int) (s0 : Int) (σ : St) : Rx k_X4_setsUp 16 [.inr (.inl (0, 0)), .inl x1] [.inl s0] σ = some (some (.inl s0), σ) := by
  exact Rx_ret rfl rfl
theorem b_X4_setsUp_17 (x1 : Int) (σ : St) : Rx k_X4_setsUp 17 [.inr (.inl (0, 0)), .inl x1] [] σ = (Rx k_X2_isUp 0 [.inr (.inl (7, 0)), .inl x1] [] σ).bind fun q => Rx k_X4_setsUp 25 [.inr (.inl (0, 0)), .inl x1] (q.1.toList ++ []) q.2 := by
  refine (Rx_N (k := 3) (pc' := 22) (ls' := [.inr (.inl (0, 0)), .inl x1]) (st' := [.inl x1, .inr (.inl (7, 0))]) (σ' := σ) rfl).trans ?_
  exact Rx_call (n := 3) (y' := k_X2_isUp) (as := [.inr (.inl (7, 0)), .inl x1]) (rest := []) rfl rfl rfl
theorem b_X4_setsUp_25 (x1 : Int) (s0 : Int) (σ : St) : Rx k_X4_setsUp 25 [.inr (.inl (0, 0)), .inl x1] [.inl s0] σ = if s0 = 0 then Rx k_X4_setsUp 30 [.inr (.inl (0, 0)), .inl x1] [] σ else Rx k_X4_setsUp 28 [.inr (.inl (0, 0)), .inl x1] [] σ := by
  exact Rx_eq0 (k := 1) rfl
theorem b_X4_setsUp_28 (x1 : Int) (σ : St) : Rx k_X4_setsUp 28 [.inr (.inl (0, 0)), .inl x1] [] σ = some (some (.inl 0), σ) := by
  refine (Rx_N (k := 1) (pc' := 29) (ls' := [.inr (.inl (0, 0)), .inl x1]) (st' := [.inl 0]) (σ' := σ) rfl).trans ?_
  exact Rx_ret rfl rfl
theorem b_X4_setsUp_30 (x1 : Int) (σ : St) : Rx k_X4_setsUp 30 [.inr (.inl (0, 0)), .inl x1] [] σ = (Rx k_X2_raise 0 [.inr (.inl (7, 0)), .inl x1] [] σ).bind fun q => Rx k_X4_setsUp 38 [.inr (.inl (0, 0)), .inl x1] (q.1.toList ++ []) q.2 := by
  refine (Rx_N (k := 3) (pc' := 35) (ls' := [.inr (.inl (0, 0)), .inl x1]) (st' := [.inl x1, .inr (.inl (7, 0))]) (σ' := σ) rfl).trans ?_
  exact Rx_call (n := 3) (y' := k_X2_raise) (as := [.inr (.inl (7, 0)), .inl x1]) (rest := []) rfl rfl rfl
theorem b_X4_setsUp_38 (x1 : Int) (s0 : Int) (σ : St) : Rx k_X4_setsUp 38 [.inr (.inl (0, 0)), .inl x1] [.inl s0] σ = some (some (.inl 1), σ) := by
  refine (Rx_N (k := 2) (pc' := 40) (ls' := [.inr (.inl (0, 0)), .inl x1]) (st' := [.inl 1]) (σ' := σ) rfl).trans ?_
  exact Rx_ret rfl rfl
theorem b_X4_pushes_0 (x1 : Int) (u2 : AV) (σ : St) : Rx k_X4_pushes 0 [.inr (.inl (0, 0)), .inl x1, u2] [] σ = (Rx k_X4_offUpThing 0 [.inr (.inl (0, 0)), .inl x1] [] σ).bind fun q => Rx k_X4_pushes 5 [.inr (.inl (0, 0)), .inl x1, u2] (q.1.toList ++ []) q.2 := by
  refine (Rx_N (k := 2) (pc' := 2) (ls' := [.inr (.inl (0, 0)), .inl x1, u2]) (st' := [.inl x1, .inr (.inl (0, 0))]) (σ' := σ) rfl).trans ?_
  exact Rx_call (n := 3) (y' := k_X4_offUpThing) (as := [.inr (.inl (0, 0)), .inl x1]) (rest := []) rfl rfl rfl
theorem b_X4_pushes_5 (x1 : Int) (u2 : AV) (s0 : Int) (σ : St) : Rx k_X4_pushes 5 [.inr (.inl (0, 0)), .inl x1, u2] [.inl s0] σ = if s0 = 0 then Rx k_X4_pushes 18 [.inr (.inl (0, 0)), .inl x1, .inl s0] [] σ else Rx k_X4_pushes 10 [.inr (.inl (0, 0)), .inl x1, .inl s0] [] σ := by
  exact Rx_eq0 (k := 3) rfl
theorem b_X4_pushes_10 (x1 : Int) (x2 : Int) (σ : St) : Rx k_X4_pushes 10 [.inr (.inl (0, 0)), .inl x1, .inl x2] [] σ = (Rx k_X4_refuse 0 [.inr (.inl (0, 0)), .inl x2] [] σ).bind fun q => Rx k_X4_pushes 15 [.inr (.inl (0, 0)), .inl x1, .inl x2] (q.1.toList ++ []) q.2 := by
  refine (Rx_N (k := 2) (pc' := 12) (ls' := [.inr (.inl (0, 0)), .inl x1, .inl x2]) (st' := [.inl x2, .inr (.inl (0, 0))]) (σ' := σ) rfl).trans ?_
  exact Rx_call (n := 3) (y' := k_X4_refuse) (as := [.inr (.inl (0, 0)), .inl x2]) (rest := []) rfl rfl rfl
theorem b_X4_pushes_15 (x1 : Int) (x2 : Int) (s0 : Int) (σ : St) : Rx k_X4_pushes 15 [.inr (.inl (0, 0)), .inl x1, .inl x2] [.inl s0] σ = some (some (.inl s0), σ) := by
  refine (Rx_N (k := 1) (pc' := 26) (ls' := [.inr (.inl (0, 0)), .inl x1, .inl x2]) (st' := [.inl s0]) (σ' := σ) rfl).trans ?_
  exact Rx_ret rfl rfl
theorem b_X4_pushes_18 (x1 : Int) (x2 : Int) (σ : St) : Rx k_X4_pushes 18 [.inr (.inl (0, 0)), .inl x1, .inl x2] [] σ = (Rx k_X2_topple 0 [.inr (.inl (7, 0)), .inl x1, uns, uns] [] σ).bind fun q => Rx k_X4_pushes 26 [.inr (.inl (0, 0)), .inl x1, .inl x2] (q.1.toList ++ []) q.2 := by
  refine (Rx_N (k := 3) (pc' := 23) (ls' := [.inr (.inl (0, 0)), .inl x1, .inl x2]) (st' := [.inl x1, .inr (.inl (7, 0))]) (σ' := σ) rfl).trans ?_
  exact Rx_call (n := 3) (y' := k_X2_topple) (as := [.inr (.inl (7, 0)), .inl x1]) (rest := []) rfl rfl rfl
theorem b_X4_pushes_26 (x1 : Int) (x2 : Int) (s0 : Int) (σ : St) : Rx k_X4_pushes 26 [.inr (.inl (0, 0)), .inl x1, .inl x2] [.inl s0] σ = some (some (.inl s0), σ) := by
  exact Rx_ret rfl rfl
theorem b_X4_strong_0 (x1 : Int) (x2 : Int) (u3 : AV) (u4 : AV) (σ : St) : Rx k_X4_strong 0 [.inr (.inl (0, 0)), .inl x1, .inl x2, u3, u4] [] σ = (Rx k_X2_isPurpose 0 [.inr (.inl (7, 0)), .inl x1] [] σ).bind fun q => Rx k_X4_strong 8 [.inr (.inl (0, 0)), .inl x1, .inl x2, u3, u4] (q.1.toList ++ []) q.2 := by
  refine (Rx_N (k := 3) (pc' := 5) (ls' := [.inr (.inl (0, 0)), .inl x1, .inl x2, u3, u4]) (st' := [.inl x1, .inr (.inl (7, 0))]) (σ' := σ) rfl).trans ?_
  exact Rx_call (n := 3) (y' := k_X2_isPurpose) (as := [.inr (.inl (7, 0)), .inl x1]) (rest := []) rfl rfl rfl
theorem b_X4_strong_8 (x1 : Int) (x2 : Int) (u3 : AV) (u4 : AV) (s0 : Int) (σ : St) : Rx k_X4_strong 8 [.inr (.inl (0, 0)), .inl x1, .inl x2, u3, u4] [.inl s0] σ = if s0 = 0 then Rx k_X4_strong 21 [.inr (.inl (0, 0)), .inl x1, .inl x2, u3, u4] [] σ else Rx k_X4_strong 11 [.inr (.inl (0, 0)), .inl x1, .inl x2, u3, u4] [] σ := by
  exact Rx_eq0 (k := 1) rfl
theorem b_X4_strong_11 (x1 : Int) (x2 : Int) (u3 : AV) (u4 : AV) (σ : St) : Rx k_X4_strong 11 [.inr (.inl (0, 0)), .inl x1, .inl x2, u3, u4] [] σ = (Rx k_X4_outside 0 [.inl x2, .inl 0, .inl 99] [] σ).bind fun q => Rx k_X4_strong 18 [.inr (.inl (0, 0)), .inl x1, .inl x2, u3, u4] (q.1.toList ++ []) q.2 := by
  refine (Rx_N (k := 3) (pc' := 15) (ls' := [.inr (.inl (0, 0)), .inl x1, .inl x2, u3, u4]) (st' := [.inl 99, .inl 0, .inl x2]) (σ' := σ) rfl).trans ?_
  exact Rx_call (n := 3) (y' := k_X4_outside) (as := [.inl x2, .inl 0, .inl 99]) (rest := []) rfl rfl rfl
theorem b_X4_strong_18 (x1 : Int) (x2 : Int) (u3 : AV) (u4 : AV) (s0 : Int) (σ : St) : Rx k_X4_strong 18 [.inr (.inl (0, 0)), .inl x1, .inl x2, u3, u4] [.inl s0] σ = if s0 = 0 then Rx k_X4_strong 33 [.inr (.inl (0, 0)), .inl x1, .inl x2, .inl s0, u4] [] σ else Rx k_X4_strong 27 [.inr (.inl (0, 0)), .inl x1, .inl x2, .inl s0, u4] [] σ := by
  exact Rx_eq0 (k := 4) rfl
theorem b_X4_strong_21 (x1 : Int) (x2 : Int) (u3 : AV) (u4 : AV) (σ : St) : Rx k_X4_strong 21 [.inr (.inl (0, 0)), .inl x1, .inl x2, u3, u4] [] σ = if (1 : Int) = (0 : Int) then Rx k_X4_strong 33 [.inr (.inl (0, 0)), .inl x1, .inl x2, .inl 1, u4] [] σ else Rx k_X4_strong 27 [.inr (.inl (0, 0)), .inl x1, .inl x2, .inl 1, u4] [] σ := by
  exact Rx_eq0 (k := 4) rfl
theorem b_X4_strong_27 (x1 : Int) (x2 : Int) (x3 : Int) (u4 : AV) (σ : St) : Rx k_X4_strong 27 [.inr (.inl (0, 0)), .inl x1, .inl x2, .inl x3, u4] [] σ = (Rx k_X4_refuse 0 [.inr (.inl (0, 0)), .inl x3] [] σ).bind fun q => Rx k_X4_strong 32 [.inr (.inl (0, 0)), .inl x1, .inl x2, .inl x3, u4] (q.1.toList ++ []) q.2 := by
  refine (Rx_N (k := 2) (pc' := 29) (ls' := [.inr (.inl (0, 0)), .inl x1, .inl x2, .inl x3, u4]) (st' := [.inl x3, .inr (.inl (0, 0))]) (σ' := σ) rfl).trans ?_
  exact Rx_call (n := 3) (y' := k_X4_refuse) (as := [.inr (.inl (0, 0)), .inl x3]) (rest := []) rfl rfl rfl
theorem b_X4_strong_32 (x1 : Int) (x2 : Int) (x3 : Int) (u4 : AV) (s0 : Int) (σ : St) : Rx k_X4_strong 32 [.inr (.inl (0, 0)), .inl x1, .inl x2, .inl x3, u4] [.inl s0] σ = some (some (.inl s0), σ) := by
  exact Rx_ret rfl rfl
theorem b_X4_strong_33 (x1 : Int) (x2 : Int) (x3 : Int) (u4 : AV) (σ : St) (h0 : 0 ≤ x1) (h1 : x1 < 5) : Rx k_X4_strong 33 [.inr (.inl (0, 0)), .inl x1, .inl x2, .inl x3, u4] [] σ = some (some (.inl (σ 10 0 x1.toNat)), (up σ 10 0 x1.toNat x2)) := by
  refine (Rx_N (k := 4) (pc' := 41) (ls' := [.inr (.inl (0, 0)), .inl x1, .inl x2, .inl x3, u4]) (st' := [.inl x1, .inr (.inl (10, 0))]) (σ' := σ) rfl).trans ?_
  refine (Rx_ild 5 rfl rfl rfl h0 h1).trans ?_
  refine (Rx_N (k := 6) (pc' := 53) (ls' := [.inr (.inl (0, 0)), .inl x1, .inl x2, .inl x3, .inl (σ 10 0 x1.toNat)]) (st' := [.inl x2, .inl x1, .inr (.inl (10, 0))]) (σ' := σ) rfl).trans ?_
  refine (Rx_ist 5 rfl rfl h0 h1).trans ?_
  refine (Rx_N (k := 1) (pc' := 56) (ls' := [.inr (.inl (0, 0)), .inl x1, .inl x2, .inl x3, .inl (σ 10 0 x1.toNat)]) (st' := [.inl (σ 10 0 x1.toNat)]) (σ' := (up σ 10 0 x1.toNat x2)) rfl).trans ?_
  exact Rx_ret rfl rfl
theorem b_X4_turn_0 (x1 : Int) (x2 : Int) (x3 : Int) (u4 : AV) (u5 : AV) (σ : St) : Rx k_X4_turn 0 [.inr (.inl (0, 0)), .inl x1, .inl x2, .inl x3, u4, u5] [] σ = (Rx k_X2_isPurpose 0 [.inr (.inl (7, 0)), .inl x1] [] σ).bind fun q => Rx k_X4_turn 8 [.inr (.inl (0, 0)), .inl x1, .inl x2, .inl x3, u4, u5] (q.1.toList ++ []) q.2 := by
  refine (Rx_N (k := 3) (pc' := 5) (ls' := [.inr (.inl (0, 0)), .inl x1, .inl x2, .inl x3, u4, u5]) (st' := [.inl x1, .inr (.inl (7, 0))]) (σ' := σ) rfl).trans ?_
  exact Rx_call (n := 3) (y' := k_X2_isPurpose) (as := [.inr (.inl (7, 0)), .inl x1]) (rest := []) rfl rfl rfl
theorem b_X4_turn_8 (x1 : Int) (x2 : Int) (x3 : Int) (u4 : AV) (u5 : AV) (s0 : Int) (σ : St) : Rx k_X4_turn 8 [.inr (.inl (0, 0)), .inl x1, .inl x2, .inl x3, u4, u5] [.inl s0] σ = if s0 = 0 then Rx k_X4_turn 11 [.inr (.inl (0, 0)), .inl x1, .inl x2, .inl x3, u4, u5] [] σ else Rx k_X4_turn 17 [.inr (.inl (0, 0)), .inl x1, .inl x2, .inl x3, u4, u5] [] σ := by
  exact Rx_ne0 (k := 1) rfl
theorem b_X4_turn_11 (x1 : Int) (x2 : Int) (x3 : Int) (u4 : AV) (u5 : AV) (σ : St) : Rx k_X4_turn 11 [.inr (.inl (0, 0)), .inl x1, .inl x2, .inl x3, u4, u5] [] σ = (Rx k_X4_refuse 0 [.inr (.inl (0, 0)), .inl 1] [] σ).bind fun q => Rx k_X4_turn 16 [.inr (.inl (0, 0)), .inl x1, .inl x2, .inl x3, u4, u5] (q.1.toList ++ []) q.2 := by
  refine (Rx_N (k := 2) (pc' := 13) (ls' := [.inr (.inl (0, 0)), .inl x1, .inl x2, .inl x3, u4, u5]) (st' := [.inl 1, .inr (.inl (0, 0))]) (σ' := σ) rfl).trans ?_
  exact Rx_call (n := 3) (y' := k_X4_refuse) (as := [.inr (.inl (0, 0)), .inl 1]) (rest := []) rfl rfl rfl
theorem b_X4_turn_16 (x1 : Int) (x2 : Int) (x3 : Int) (u4 : AV) (u5 : AV) (s0 : Int) (σ : St) : Rx k_X4_turn 16 [.inr (.inl (0, 0)), .inl x1, .inl x2, .inl x3, u4, u5] [.inl s0] σ = some (some (.inl s0), σ) := by
  exact Rx_ret rfl rfl
theorem b_X4_turn_17 (x1 : Int) (x2 : Int) (x3 : Int) (u4 : AV) (u5 : AV) (σ : St) : Rx k_X4_turn 17 [.inr (.inl (0, 0)), .inl x1, .inl x2, .inl x3, u4, u5] [] σ = if x2 < 0 then Rx k_X4_turn 27 [.inr (.inl (0, 0)), .inl x1, .inl x2, .inl x3, u4, u5] [] σ else Rx k_X4_turn 21 [.inr (.inl (0, 0)), .inl x1, .inl x2, .inl x3, u4, u5] [] σ := by
  exact Rx_lt0 (k := 2) rfl
theorem b_X4_turn_21 (x1 : Int) (x2 : Int) (x3 : Int) (u4 : AV) (u5 : AV) (σ : St) : Rx k_X4_turn 21 [.inr (.inl (0, 0)), .inl x1, .inl x2, .inl x3, u4, u5] [] σ = if x2 < 6 then Rx k_X4_turn 33 [.inr (.inl (0, 0)), .inl x1, .inl x2, .inl x3, u4, u5] [] σ else Rx k_X4_turn 27 [.inr (.inl (0, 0)), .inl x1, .inl x2, .inl x3, u4, u5] [] σ := by
  exact Rx_lt0 (k := 3) rfl
theorem b_X4_turn_27 (x1 : Int) (x2 : Int) (x3 : Int) (u4 : AV) (u5 : AV) (σ : St) : Rx k_X4_turn 27 [.inr (.inl (0, 0)), .inl x1, .inl x2, .inl x3, u4, u5] [] σ = (Rx k_X4_refuse 0 [.inr (.inl (0, 0)), .inl 2] [] σ).bind fun q => Rx k_X4_turn 32 [.inr (.inl (0, 0)), .inl x1, .inl x2, .inl x3, u4, u5] (q.1.toList ++ []) q.2 := by
  refine (Rx_N (k := 2) (pc' := 29) (ls' := [.inr (.inl (0, 0)), .inl x1, .inl x2, .inl x3, u4, u5]) (st' := [.inl 2, .inr (.inl (0, 0))]) (σ' := σ) rfl).trans ?_
  exact Rx_call (n := 3) (y' := k_X4_refuse) (as := [.inr (.inl (0, 0)), .inl 2]) (rest := []) rfl rfl rfl
theorem b_X4_turn_32 (x1 : Int) (x2 : Int) (x3 : Int) (u4 : AV) (u5 : AV) (s0 : Int) (σ : St) : Rx k_X4_turn 32 [.inr (.inl (0, 0)), .inl x1, .inl x2, .inl x3, u4, u5] [.inl s0] σ = some (some (.inl s0), σ) := by
  exact Rx_ret rfl rfl
theorem b_X4_turn_33 (x1 : Int) (x2 : Int) (x3 : Int) (u4 : AV) (u5 : AV) (σ : St) : Rx k_X4_turn 33 [.inr (.inl (0, 0)), .inl x1, .inl x2, .inl x3, u4, u5] [] σ = (Rx k_X4_outside 0 [.inl x3, .inl 0, .inl 9] [] σ).bind fun q => Rx k_X4_turn 40 [.inr (.inl (0, 0)), .inl x1, .inl x2, .inl x3, u4, u5] (q.1.toList ++ []) q.2 := by
  refine (Rx_N (k := 3) (pc' := 37) (ls' := [.inr (.inl (0, 0)), .inl x1, .inl x2, .inl x3, u4, u5]) (st' := [.inl 9, .inl 0, .inl x3]) (σ' := σ) rfl).trans ?_
  exact Rx_call (n := 3) (y' := k_X4_outside) (as := [.inl x3, .inl 0, .inl 9]) (rest := []) rfl rfl rfl
theorem b_X4_turn_40 (x1 : Int) (x2 : Int) (x3 : Int) (u4 : AV) (u5 : AV) (s0 : Int) (σ : St) : Rx k_X4_turn 40 [.inr (.inl (0, 0)), .inl x1, .inl x2, .inl x3, u4, u5] [.inl s0] σ = if s0 = 0 then Rx k_X4_turn 54 [.inr (.inl (0, 0)), .inl x1, .inl x2, .inl x3, .inl s0, u5] [] σ else Rx k_X4_turn 47 [.inr (.inl (0, 0)), .inl x1, .inl x2, .inl x3, .inl s0, u5] [] σ := by
  exact Rx_eq0 (k := 3) rfl
theorem b_X4_turn_47 (x1 : Int) (x2 : Int) (x3 : Int) (x4 : Int) (u5 : AV) (σ : St) : Rx k_X4_turn 47 [.inr (.inl (0, 0)), .inl x1, .inl x2, .inl x3, .inl x4, u5] [] σ = (Rx k_X4_refuse 0 [.inr (.inl (0, 0)), .inl x4] [] σ).bind fun q => Rx k_X4_turn 53 [.inr (.inl (0, 0)), .inl x1, .inl x2, .inl x3, .inl x4, u5] (q.1.toList ++ []) q.2 := by
  refine (Rx_N (k := 2) (pc' := 50) (ls' := [.inr (.inl (0, 0)), .inl x1, .inl x2, .inl x3, .inl x4, u5]) (st' := [.inl x4, .inr (.inl (0, 0))]) (σ' := σ) rfl).trans ?_
  exact Rx_call (n := 3) (y' := k_X4_refuse) (as := [.inr (.inl (0, 0)), .inl x4]) (rest := []) rfl rfl rfl
theorem b_X4_turn_53 (x1 : Int) (x2 : Int) (x3 : Int) (x4 : Int) (u5 : AV) (s0 : Int) (σ : St) : Rx k_X4_turn 53 [.inr (.inl (0, 0)), .inl x1, .inl x2, .inl x3, .inl x4, u5] [.inl s0] σ = some (some (.inl s0), σ) := by
  exact Rx_ret rfl rfl
theorem r_X4_turn_54 (x1 : Int) (x2 : Int) (x3 : Int) (x4 : Int) (u5 : AV) (σ : St) (h0 : 0 ≤ x1) (h1 : x1 < 5) : Rx k_X4_turn 54 [.inr (.inl (0, 0)), .inl x1, .inl x2, .inl x3, .inl x4, u5] [] σ = some (some (.inl (wr ((wr (10 * (σ 8 0 x1.toNat))) + (σ 9 0 x1.toNat)))), (up (up σ 8 0 x1.toNat x2) 9 0 x1.toNat x3)) := by
  refine (Rx_N (k := 5) (pc' := 64) (ls' := [.inr (.inl (0, 0)), .inl x1, .inl x2, .inl x3, .inl x4, u5]) (st' := [.inl x1, .inr (.inl (8, 0)), .inl 10]) (σ' := σ) rfl).trans ?_
  refine (Rx_ild 5 rfl rfl rfl h0 h1).trans ?_
  refine (Rx_N (k := 5) (pc' := 74) (ls' := [.inr (.inl (0, 0)), .inl x1, .inl x2, .inl x3, .inl x4, u5]) (st' := [.inl x1, .inr (.inl (9, 0)), .inl (wr (10 * (σ 8 0 x1.toNat)))]) (σ' := σ) rfl).trans ?_
  refine (Rx_ild 5 rfl rfl rfl h0 h1).trans ?_
  refine (Rx_N (k := 7) (pc' := 87) (ls' := [.inr (.inl (0, 0)), .inl x1, .inl x2, .inl x3, .inl x4, .inl (wr ((wr (10 * (σ 8 0 x1.toNat))) + (σ 9 0 x1.toNat)))]) (st' := [.inl x2, .inl x1, .inr (.inl (8, 0))]) (σ' := σ) rfl).trans ?_
  refine (Rx_ist 5 rfl rfl h0 h1).trans ?_
  refine (Rx_N (k := 5) (pc' := 97) (ls' := [.inr (.inl (0, 0)), .inl x1, .inl x2, .inl x3, .inl x4, .inl (wr ((wr (10 * (σ 8 0 x1.toNat))) + (σ 9 0 x1.toNat)))]) (st' := [.inl x3, .inl x1, .inr (.inl (9, 0))]) (σ' := (up σ 8 0 x1.toNat x2)) rfl).trans ?_
  refine (Rx_ist 5 rfl rfl h0 h1).trans ?_
  refine (Rx_N (k := 1) (pc' := 100) (ls' := [.inr (.inl (0, 0)), .inl x1, .inl x2, .inl x3, .inl x4, .inl (wr ((wr (10 * (σ 8 0 x1.toNat))) + (σ 9 0 x1.toNat)))]) (st' := [.inl (wr ((wr (10 * (σ 8 0 x1.toNat))) + (σ 9 0 x1.toNat)))]) (σ' := (up (up σ 8 0 x1.toNat x2) 9 0 x1.toNat x3)) rfl).trans ?_
  exact Rx_ret rfl rfl
theorem b_X4_turn_54 (x1 : Int) (x2 : Int) (x3 : Int) (x4 : Int) (u5 : AV) (σ : St) (h0 : 0 ≤ x1) (h1 : x1 < 5) (g0a : -2147483648 ≤ (10 * (σ 8 0 x1.toNat))) (g0b : (10 * (σ 8 0 x1.toNat)) < 2147483648) (g1a : -2147483648 ≤ (((10 * (σ 8 0 x1.toNat))) + (σ 9 0 x1.toNat))) (g1b : (((10 * (σ 8 0 x1.toNat))) + (σ 9 0 x1.toNat)) < 2147483648) : Rx k_X4_turn 54 [.inr (.inl (0, 0)), .inl x1, .inl x2, .inl x3, .inl x4, u5] [] σ = some (some (.inl (((10 * (σ 8 0 x1.toNat))) + (σ 9 0 x1.toNat))), (up (up σ 8 0 x1.toNat x2) 9 0 x1.toNat x3)) := by
  have e0 := wr_id (x := (10 * (σ 8 0 x1.toNat))) g0a g0b
  have e1 := wr_id (x := (((10 * (σ 8 0 x1.toNat))) + (σ 9 0 x1.toNat))) g1a g1b
  have raw := r_X4_turn_54 x1 x2 x3 x4 u5 σ h0 h1
  simp only [e0, e1] at raw
  exact raw
theorem r_X4_days_0 (x1 : Int) (u2 : AV) (σ : St) : Rx k_X4_days 0 [.inr (.inl (0, 0)), .inl x1, u2] [] σ = (Rx k_X4_outside 0 [.inl x1, .inl 1, .inl (if wr (999 - (σ 7 0 2)) < 60 then wr (999 - (σ 7 0 2)) else 60)] [] σ).bind fun q => Rx k_X4_days 21 [.inr (.inl (0, 0)), .inl x1, u2] (q.1.toList ++ []) q.2 := by
  refine (Rx_N (k := 9) (pc' := 18) (ls' := [.inr (.inl (0, 0)), .inl x1, u2]) (st' := [.inl (if wr (999 - (σ 7 0 2)) < 60 then wr (999 - (σ 7 0 2)) else 60), .inl 1, .inl x1]) (σ' := σ) rfl).trans ?_
  exact Rx_call (n := 3) (y' := k_X4_outside) (as := [.inl x1, .inl 1, .inl (if wr (999 - (σ 7 0 2)) < 60 then wr (999 - (σ 7 0 2)) else 60)]) (rest := []) rfl rfl rfl
theorem b_X4_days_0 (x1 : Int) (u2 : AV) (σ : St) (g0a : -2147483648 ≤ (999 - (σ 7 0 2))) (g0b : (999 - (σ 7 0 2)) < 2147483648) : Rx k_X4_days 0 [.inr (.inl (0, 0)), .inl x1, u2] [] σ = (Rx k_X4_outside 0 [.inl x1, .inl 1, .inl (if (999 - (σ 7 0 2)) < 60 then (999 - (σ 7 0 2)) else 60)] [] σ).bind fun q => Rx k_X4_days 21 [.inr (.inl (0, 0)), .inl x1, u2] (q.1.toList ++ []) q.2 := by
  have e0 := wr_id (x := (999 - (σ 7 0 2))) g0a g0b
  have raw := r_X4_days_0 x1 u2 σ 
  simp only [e0] at raw
  exact raw
theorem b_X4_days_21 (x1 : Int) (u2 : AV) (s0 : Int) (σ : St) : Rx k_X4_days 21 [.inr (.inl (0, 0)), .inl x1, u2] [.inl s0] σ = if s0 = 0 then Rx k_X4_days 32 [.inr (.inl (0, 0)), .inl x1, .inl s0] [] σ else Rx k_X4_days 26 [.inr (.inl (0, 0)), .inl x1, .inl s0] [] σ := by
  exact Rx_eq0 (k := 3) rfl
theorem b_X4_days_26 (x1 : Int) (x2 : Int) (σ : St) : Rx k_X4_days 26 [.inr (.inl (0, 0)), .inl x1, .inl x2] [] σ = (Rx k_X4_refuse 0 [.inr (.inl (0, 0)), .inl x2] [] σ).bind fun q => Rx k_X4_days 31 [.inr (.inl (0, 0)), .inl x1, .inl x2] (q.1.toList ++ []) q.2 := by
  refine (Rx_N (k := 2) (pc' := 28) (ls' := [.inr (.inl (0, 0)), .inl x1, .inl x2]) (st' := [.inl x2, .inr (.inl (0, 0))]) (σ' := σ) rfl).trans ?_
  exact Rx_call (n := 3) (y' := k_X4_refuse) (as := [.inr (.inl (0, 0)), .inl x2]) (rest := []) rfl rfl rfl
theorem b_X4_days_31 (x1 : Int) (x2 : Int) (s0 : Int) (σ : St) : Rx k_X4_days 31 [.inr (.inl (0, 0)), .inl x1, .inl x2] [.inl s0] σ = some (some (.inl s0), σ) := by
  exact Rx_ret rfl rfl
theorem b_X4_days_32 (x1 : Int) (x2 : Int) (σ : St) : Rx k_X4_days 32 [.inr (.inl (0, 0)), .inl x1, .inl x2] [] σ = (Rx k_X2_passDays 0 [.inr (.inl (7, 0)), .inl x1, uns] [] σ).bind fun q => Rx k_X4_days 40 [.inr (.inl (0, 0)), .inl x1, .inl x2] (q.1.toList ++ []) q.2 := by
  refine (Rx_N (k := 3) (pc' := 37) (ls' := [.inr (.inl (0, 0)), .inl x1, .inl x2]) (st' := [.inl x1, .inr (.inl (7, 0))]) (σ' := σ) rfl).trans ?_
  exact Rx_call (n := 3) (y' := k_X2_passDays) (as := [.inr (.inl (7, 0)), .inl x1]) (rest := []) rfl rfl rfl
theorem b_X4_days_40 (x1 : Int) (x2 : Int) (σ : St) : Rx k_X4_days 40 [.inr (.inl (0, 0)), .inl x1, .inl x2] [] σ = (Rx k_X2_standing 0 [.inr (.inl (7, 0))] [] σ).bind fun q => Rx k_X4_days 47 [.inr (.inl (0, 0)), .inl x1, .inl x2] (q.1.toList ++ []) q.2 := by
  refine (Rx_N (k := 2) (pc' := 44) (ls' := [.inr (.inl (0, 0)), .inl x1, .inl x2]) (st' := [.inr (.inl (7, 0))]) (σ' := σ) rfl).trans ?_
  exact Rx_call (n := 3) (y' := k_X2_standing) (as := [.inr (.inl (7, 0))]) (rest := []) rfl rfl rfl
theorem b_X4_days_47 (x1 : Int) (x2 : Int) (s0 : Int) (σ : St) : Rx k_X4_days 47 [.inr (.inl (0, 0)), .inl x1, .inl x2] [.inl s0] σ = some (some (.inl s0), σ) := by
  exact Rx_ret rfl rfl
theorem b_X4_upThen_0 (x1 : Int) (x2 : Int) (u3 : AV) (σ : St) : Rx k_X4_upThen 0 [.inr (.inl (0, 0)), .inl x1, .inl x2, u3] [] σ = (Rx k_X2_isThing 0 [.inr (.inl (7, 0)), .inl x1] [] σ).bind fun q => Rx k_X4_upThen 8 [.inr (.inl (0, 0)), .inl x1, .inl x2, u3] (q.1.toList ++ []) q.2 := by
  refine (Rx_N (k := 3) (pc' := 5) (ls' := [.inr (.inl (0, 0)), .inl x1, .inl x2, u3]) (st' := [.inl x1, .inr (.inl (7, 0))]) (σ' := σ) rfl).trans ?_
  exact Rx_call (n := 3) (y' := k_X2_isThing) (as := [.inr (.inl (7, 0)), .inl x1]) (rest := []) rfl rfl rfl
theorem b_X4_upThen_8 (x1 : Int) (x2 : Int) (u3 : AV) (s0 : Int) (σ : St) : Rx k_X4_upThen 8 [.inr (.inl (0, 0)), .inl x1, .inl x2, u3] [.inl s0] σ = if s0 = 0 then Rx k_X4_upThen 21 [.inr (.inl (0, 0)), .inl x1, .inl x2, u3] [] σ else Rx k_X4_upThen 11 [.inr (.inl (0, 0)), .inl x1, .inl x2, u3] [] σ := by
  exact Rx_eq0 (k := 1) rfl
theorem b_X4_upThen_11 (x1 : Int) (x2 : Int) (u3 : AV) (σ : St) : Rx k_X4_upThen 11 [.inr (.inl (0, 0)), .inl x1, .inl x2, u3] [] σ = (Rx k_X4_outside 0 [.inl x2, .inl 0, .inl 99] [] σ).bind fun q => Rx k_X4_upThen 18 [.inr (.inl (0, 0)), .inl x1, .inl x2, u3] (q.1.toList ++ []) q.2 := by
  refine (Rx_N (k := 3) (pc' := 15) (ls' := [.inr (.inl (0, 0)), .inl x1, .inl x2, u3]) (st' := [.inl 99, .inl 0, .inl x2]) (σ' := σ) rfl).trans ?_
  exact Rx_call (n := 3) (y' := k_X4_outside) (as := [.inl x2, .inl 0, .inl 99]) (rest := []) rfl rfl rfl
theorem b_X4_upThen_18 (x1 : Int) (x2 : Int) (u3 : AV) (s0 : Int) (σ : St) : Rx k_X4_upThen 18 [.inr (.inl (0, 0)), .inl x1, .inl x2, u3] [.inl s0] σ = if s0 = 0 then Rx k_X4_upThen 33 [.inr (.inl (0, 0)), .inl x1, .inl x2, .inl s0] [] σ else Rx k_X4_upThen 27 [.inr (.inl (0, 0)), .inl x1, .inl x2, .inl s0] [] σ := by
  exact Rx_eq0 (k := 4) rfl
theorem b_X4_upThen_21 (x1 : Int) (x2 : Int) (u3 : AV) (σ : St) : Rx k_X4_upThen 21 [.inr (.inl (0, 0)), .inl x1, .inl x2, u3] [] σ = if (1 : Int) = (0 : Int) then Rx k_X4_upThen 33 [.inr (.inl (0, 0)), .inl x1, .inl x2, .inl 1] [] σ else Rx k_X4_upThen 27 [.inr (.inl (0, 0)), .inl x1, .inl x2, .inl 1] [] σ := by
  exact Rx_eq0 (k := 4) rfl
theorem b_X4_upThen_27 (x1 : Int) (x2 : Int) (x3 : Int) (σ : St) : Rx k_X4_upThen 27 [.inr (.inl (0, 0)), .inl x1, .inl x2, .inl x3] [] σ = (Rx k_X4_refuse 0 [.inr (.inl (0, 0)), .inl x3] [] σ).bind fun q => Rx k_X4_upThen 32 [.inr (.inl (0, 0)), .inl x1, .inl x2, .inl x3] (q.1.toList ++ []) q.2 := by
  refine (Rx_N (k := 2) (pc' := 29) (ls' := [.inr (.inl (0, 0)), .inl x1, .inl x2, .inl x3]) (st' := [.inl x3, .inr (.inl (0, 0))]) (σ' := σ) rfl).trans ?_
  exact Rx_call (n := 3) (y' := k_X4_refuse) (as := [.inr (.inl (0, 0)), .inl x3]) (rest := []) rfl rfl rfl
theorem b_X4_upThen_32 (x1 : Int) (x2 : Int) (x3 : Int) (s0 : Int) (σ : St) : Rx k_X4_upThen 32 [.inr (.inl (0, 0)), .inl x1, .inl x2, .inl x3] [.inl s0] σ = some (some (.inl s0), σ) := by
  exact Rx_ret rfl rfl
theorem b_X4_upThen_33 (x1 : Int) (x2 : Int) (x3 : Int) (σ : St) : Rx k_X4_upThen 33 [.inr (.inl (0, 0)), .inl x1, .inl x2, .inl x3] [] σ = (Rx k_X1_behind 0 [.inr (.inl (1, 0)), .inl x2] [] σ).bind fun q => Rx k_X4_upThen 41 [.inr (.inl (0, 0)), .inl x1, .inl x2, .inl x3] (q.1.toList ++ []) q.2 := by
  refine (Rx_N (k := 3) (pc' := 38) (ls' := [.inr (.inl (0, 0)), .inl x1, .inl x2, .inl x3]) (st' := [.inl x2, .inr (.inl (1, 0))]) (σ' := σ) rfl).trans ?_
  exact Rx_call (n := 3) (y' := k_X1_behind) (as := [.inr (.inl (1, 0)), .inl x2]) (rest := []) rfl rfl rfl
theorem b_X4_upThen_41 (x1 : Int) (x2 : Int) (x3 : Int) (q0 : Nat) (σ : St) : Rx k_X4_upThen 41 [.inr (.inl (0, 0)), .inl x1, .inl x2, .inl x3] [.inr (.inl (7, q0))] σ = (Rx k_X2_isUp 0 [.inr (.inl (7, q0)), .inl x1] [] σ).bind fun q => Rx k_X4_upThen 45 [.inr (.inl (0, 0)), .inl x1, .inl x2, .inl x3] (q.1.toList ++ []) q.2 := by
  refine (Rx_N (k := 1) (pc' := 42) (ls' := [.inr (.inl (0, 0)), .inl x1, .inl x2, .inl x3]) (st' := [.inl x1, .inr (.inl (7, q0))]) (σ' := σ) rfl).trans ?_
  exact Rx_call (n := 3) (y' := k_X2_isUp) (as := [.inr (.inl (7, q0)), .inl x1]) (rest := []) rfl rfl rfl
theorem b_X4_upThen_45 (x1 : Int) (x2 : Int) (x3 : Int) (s0 : Int) (σ : St) : Rx k_X4_upThen 45 [.inr (.inl (0, 0)), .inl x1, .inl x2, .inl x3] [.inl s0] σ = if s0 = 0 then Rx k_X4_upThen 52 [.inr (.inl (0, 0)), .inl x1, .inl x2, .inl x3] [] σ else Rx k_X4_upThen 48 [.inr (.inl (0, 0)), .inl x1, .inl x2, .inl x3] [] σ := by
  exact Rx_eq0 (k := 1) rfl
theorem b_X4_upThen_48 (x1 : Int) (x2 : Int) (x3 : Int) (σ : St) : Rx k_X4_upThen 48 [.inr (.inl (0, 0)), .inl x1, .inl x2, .inl x3] [] σ = some (some (.inl 1), σ) := by
  refine (Rx_N (k := 2) (pc' := 53) (ls' := [.inr (.inl (0, 0)), .inl x1, .inl x2, .inl x3]) (st' := [.inl 1]) (σ' := σ) rfl).trans ?_
  exact Rx_ret rfl rfl
theorem b_X4_upThen_52 (x1 : Int) (x2 : Int) (x3 : Int) (σ : St) : Rx k_X4_upThen 52 [.inr (.inl (0, 0)), .inl x1, .inl x2, .inl x3] [] σ = some (some (.inl 0), σ) := by
  refine (Rx_N (k := 1) (pc' := 53) (ls' := [.inr (.inl (0, 0)), .inl x1, .inl x2, .inl x3]) (st' := [.inl 0]) (σ' := σ) rfl).trans ?_
  exact Rx_ret rfl rfl
theorem b_X4_allThen_0 (x1 : Int) (u2 : AV) (σ : St) : Rx k_X4_allThen 0 [.inr (.inl (0, 0)), .inl x1, u2] [] σ = (Rx k_X4_outside 0 [.inl x1, .inl 0, .inl 99] [] σ).bind fun q => Rx k_X4_allThen 7 [.inr (.inl (0, 0)), .inl x1, u2] (q.1.toList ++ []) q.2 := by
  refine (Rx_N (k := 3) (pc' := 4) (ls' := [.inr (.inl (0, 0)), .inl x1, u2]) (st' := [.inl 99, .inl 0, .inl x1]) (σ' := σ) rfl).trans ?_
  exact Rx_call (n := 3) (y' := k_X4_outside) (as := [.inl x1, .inl 0, .inl 99]) (rest := []) rfl rfl rfl
theorem b_X4_allThen_7 (x1 : Int) (u2 : AV) (s0 : Int) (σ : St) : Rx k_X4_allThen 7 [.inr (.inl (0, 0)), .inl x1, u2] [.inl s0] σ = if s0 = 0 then Rx k_X4_allThen 20 [.inr (.inl (0, 0)), .inl x1, .inl s0] [] σ else Rx k_X4_allThen 12 [.inr (.inl (0, 0)), .inl x1, .inl s0] [] σ := by
  exact Rx_eq0 (k := 3) rfl
theorem b_X4_allThen_12 (x1 : Int) (x2 : Int) (σ : St) : Rx k_X4_allThen 12 [.inr (.inl (0, 0)), .inl x1, .inl x2] [] σ = (Rx k_X4_refuse 0 [.inr (.inl (0, 0)), .inl x2] [] σ).bind fun q => Rx k_X4_allThen 17 [.inr (.inl (0, 0)), .inl x1, .inl x2] (q.1.toList ++ []) q.2 := by
  refine (Rx_N (k := 2) (pc' := 14) (ls' := [.inr (.inl (0, 0)), .inl x1, .inl x2]) (st' := [.inl x2, .inr (.inl (0, 0))]) (σ' := σ) rfl).trans ?_
  exact Rx_call (n := 3) (y' := k_X4_refuse) (as := [.inr (.inl (0, 0)), .inl x2]) (rest := []) rfl rfl rfl
theorem b_X4_allThen_17 (x1 : Int) (x2 : Int) (s0 : Int) (σ : St) : Rx k_X4_allThen 17 [.inr (.inl (0, 0)), .inl x1, .inl x2] [.inl s0] σ = some (some (.inl s0), σ) := by
  refine (Rx_N (k := 1) (pc' := 31) (ls' := [.inr (.inl (0, 0)), .inl x1, .inl x2]) (st' := [.inl s0]) (σ' := σ) rfl).trans ?_
  exact Rx_ret rfl rfl
theorem b_X4_allThen_20 (x1 : Int) (x2 : Int) (σ : St) : Rx k_X4_allThen 20 [.inr (.inl (0, 0)), .inl x1, .inl x2] [] σ = (Rx k_X1_behind 0 [.inr (.inl (1, 0)), .inl x1] [] σ).bind fun q => Rx k_X4_allThen 28 [.inr (.inl (0, 0)), .inl x1, .inl x2] (q.1.toList ++ []) q.2 := by
  refine (Rx_N (k := 3) (pc' := 25) (ls' := [.inr (.inl (0, 0)), .inl x1, .inl x2]) (st' := [.inl x1, .inr (.inl (1, 0))]) (σ' := σ) rfl).trans ?_
  exact Rx_call (n := 3) (y' := k_X1_behind) (as := [.inr (.inl (1, 0)), .inl x1]) (rest := []) rfl rfl rfl
theorem b_X4_allThen_28 (x1 : Int) (x2 : Int) (q0 : Nat) (σ : St) : Rx k_X4_allThen 28 [.inr (.inl (0, 0)), .inl x1, .inl x2] [.inr (.inl (7, q0))] σ = (Rx k_X2_standing 0 [.inr (.inl (7, q0))] [] σ).bind fun q => Rx k_X4_allThen 31 [.inr (.inl (0, 0)), .inl x1, .inl x2] (q.1.toList ++ []) q.2 := by
  exact Rx_call (n := 3) (y' := k_X2_standing) (as := [.inr (.inl (7, q0))]) (rest := []) rfl rfl rfl
theorem b_X4_allThen_31 (x1 : Int) (x2 : Int) (s0 : Int) (σ : St) : Rx k_X4_allThen 31 [.inr (.inl (0, 0)), .inl x1, .inl x2] [.inl s0] σ = some (some (.inl s0), σ) := by
  exact Rx_ret rfl rfl
theorem b_X4_purposeThen_0 (x1 : Int) (x2 : Int) (x3 : Int) (u4 : AV) (u5 : AV) (σ : St) : Rx k_X4_purposeThen 0 [.inr (.inl (0, 0)), .inl x1, .inl x2, .inl x3, u4, u5] [] σ = (Rx k_X2_isPurpose 0 [.inr (.inl (7, 0)), .inl x1] [] σ).bind fun q => Rx k_X4_purposeThen 8 [.inr (.inl (0, 0)), .inl x1, .inl x2, .inl x3, u4, u5] (q.1.toList ++ []) q.2 := by
  refine (Rx_N (k := 3) (pc' := 5) (ls' := [.inr (.inl (0, 0)), .inl x1, .inl x2, .inl x3, u4, u5]) (st' := [.inl x1, .inr (.inl (7, 0))]) (σ' := σ) rfl).trans ?_
  exact Rx_call (n := 3) (y' := k_X2_isPurpose) (as := [.inr (.inl (7, 0)), .inl x1]) (rest := []) rfl rfl rfl
theorem b_X4_purposeThen_8 (x1 : Int) (x2 : Int) (x3 : Int) (u4 : AV) (u5 : AV) (s0 : Int) (σ : St) : Rx k_X4_purposeThen 8 [.inr (.inl (0, 0)), .inl x1, .inl x2, .inl x3, u4, u5] [.inl s0] σ = if s0 = 0 then Rx k_X4_purposeThen 21 [.inr (.inl (0, 0)), .inl x1, .inl x2, .inl x3, u4, u5] [] σ else Rx k_X4_purposeThen 11 [.inr (.inl (0, 0)), .inl x1, .inl x2, .inl x3, u4, u5] [] σ := by
  exact Rx_eq0 (k := 1) rfl
theorem b_X4_purposeThen_11 (x1 : Int) (x2 : Int) (x3 : Int) (u4 : AV) (u5 : AV) (σ : St) : Rx k_X4_purposeThen 11 [.inr (.inl (0, 0)), .inl x1, .inl x2, .inl x3, u4, u5] [] σ = (Rx k_X4_outside 0 [.inl x2, .inl 0, .inl 99] [] σ).bind fun q => Rx k_X4_purposeThen 18 [.inr (.inl (0, 0)), .inl x1, .inl x2, .inl x3, u4, u5] (q.1.toList ++ []) q.2 := by
  refine (Rx_N (k := 3) (pc' := 15) (ls' := [.inr (.inl (0, 0)), .inl x1, .inl x2, .inl x3, u4, u5]) (st' := [.inl 99, .inl 0, .inl x2]) (σ' := σ) rfl).trans ?_
  exact Rx_call (n := 3) (y' := k_X4_outside) (as := [.inl x2, .inl 0, .inl 99]) (rest := []) rfl rfl rfl
theorem b_X4_purposeThen_18 (x1 : Int) (x2 : Int) (x3 : Int) (u4 : AV) (u5 : AV) (s0 : Int) (σ : St) : Rx k_X4_purposeThen 18 [.inr (.inl (0, 0)), .inl x1, .inl x2, .inl x3, u4, u5] [.inl s0] σ = if s0 = 0 then Rx k_X4_purposeThen 36 [.inr (.inl (0, 0)), .inl x1, .inl x2, .inl x3, .inl s0, u5] [] σ else Rx k_X4_purposeThen 29 [.inr (.inl (0, 0)), .inl x1, .inl x2, .inl x3, .inl s0, u5] [] σ := by
  exact Rx_eq0 (k := 4) rfl
theorem b_X4_purposeThen_21 (x1 : Int) (x2 : Int) (x3 : Int) (u4 : AV) (u5 : AV) (σ : St) : Rx k_X4_purposeThen 21 [.inr (.inl (0, 0)), .inl x1, .inl x2, .inl x3, u4, u5] [] σ = if (1 : Int) = (0 : Int) then Rx k_X4_purposeThen 36 [.inr (.inl (0, 0)), .inl x1, .inl x2, .inl x3, .inl 1, u5] [] σ else Rx k_X4_purposeThen 29 [.inr (.inl (0, 0)), .inl x1, .inl x2, .inl x3, .inl 1, u5] [] σ := by
  exact Rx_eq0 (k := 4) rfl
theorem b_X4_purposeThen_29 (x1 : Int) (x2 : Int) (x3 : Int) (x4 : Int) (u5 : AV) (σ : St) : Rx k_X4_purposeThen 29 [.inr (.inl (0, 0)), .inl x1, .inl x2, .inl x3, .inl x4, u5] [] σ = (Rx k_X4_refuse 0 [.inr (.inl (0, 0)), .inl x4] [] σ).bind fun q => Rx k_X4_purposeThen 35 [.inr (.inl (0, 0)), .inl x1, .inl x2, .inl x3, .inl x4, u5] (q.1.toList ++ []) q.2 := by
  refine (Rx_N (k := 2) (pc' := 32) (ls' := [.inr (.inl (0, 0)), .inl x1, .inl x2, .inl x3, .inl x4, u5]) (st' := [.inl x4, .inr (.inl (0, 0))]) (σ' := σ) rfl).trans ?_
  exact Rx_call (n := 3) (y' := k_X4_refuse) (as := [.inr (.inl (0, 0)), .inl x4]) (rest := []) rfl rfl rfl
theorem b_X4_purposeThen_35 (x1 : Int) (x2 : Int) (x3 : Int) (x4 : Int) (u5 : AV) (s0 : Int) (σ : St) : Rx k_X4_purposeThen 35 [.inr (.inl (0, 0)), .inl x1, .inl x2, .inl x3, .inl x4, u5] [.inl s0] σ = some (some (.inl s0), σ) := by
  exact Rx_ret rfl rfl
theorem b_X4_purposeThen_36 (x1 : Int) (x2 : Int) (x3 : Int) (x4 : Int) (u5 : AV) (σ : St) : Rx k_X4_purposeThen 36 [.inr (.inl (0, 0)), .inl x1, .inl x2, .inl x3, .inl x4, u5] [] σ = (Rx k_X4_isNeither 0 [.inl x3] [] σ).bind fun q => Rx k_X4_purposeThen 40 [.inr (.inl (0, 0)), .inl x1, .inl x2, .inl x3, .inl x4, u5] (q.1.toList ++ []) q.2 := by
  refine (Rx_N (k := 1) (pc' := 37) (ls' := [.inr (.inl (0, 0)), .inl x1, .inl x2, .inl x3, .inl x4, u5]) (st' := [.inl x3]) (σ' := σ) rfl).trans ?_
  exact Rx_call (n := 3) (y' := k_X4_isNeither) (as := [.inl x3]) (rest := []) rfl rfl rfl
theorem b_X4_purposeThen_40 (x1 : Int) (x2 : Int) (x3 : Int) (x4 : Int) (u5 : AV) (s0 : Int) (σ : St) : Rx k_X4_purposeThen 40 [.inr (.inl (0, 0)), .inl x1, .inl x2, .inl x3, .inl x4, u5] [.inl s0] σ = if s0 = 0 then Rx k_X4_purposeThen 49 [.inr (.inl (0, 0)), .inl x1, .inl x2, .inl x3, .inl x4, u5] [] σ else Rx k_X4_purposeThen 43 [.inr (.inl (0, 0)), .inl x1, .inl x2, .inl x3, .inl x4, u5] [] σ := by
  exact Rx_eq0 (k := 1) rfl
theorem b_X4_purposeThen_43 (x1 : Int) (x2 : Int) (x3 : Int) (x4 : Int) (u5 : AV) (σ : St) : Rx k_X4_purposeThen 43 [.inr (.inl (0, 0)), .inl x1, .inl x2, .inl x3, .inl x4, u5] [] σ = (Rx k_X4_refuse 0 [.inr (.inl (0, 0)), .inl 2] [] σ).bind fun q => Rx k_X4_purposeThen 48 [.inr (.inl (0, 0)), .inl x1, .inl x2, .inl x3, .inl x4, u5] (q.1.toList ++ []) q.2 := by
  refine (Rx_N (k := 2) (pc' := 45) (ls' := [.inr (.inl (0, 0)), .inl x1, .inl x2, .inl x3, .inl x4, u5]) (st' := [.inl 2, .inr (.inl (0, 0))]) (σ' := σ) rfl).trans ?_
  exact Rx_call (n := 3) (y' := k_X4_refuse) (as := [.inr (.inl (0, 0)), .inl 2]) (rest := []) rfl rfl rfl
theorem b_X4_purposeThen_48 (x1 : Int) (x2 : Int) (x3 : Int) (x4 : Int) (u5 : AV) (s0 : Int) (σ : St) : Rx k_X4_purposeThen 48 [.inr (.inl (0, 0)), .inl x1, .inl x2, .inl x3, .inl x4, u5] [.inl s0] σ = some (some (.inl s0), σ) := by
  exact Rx_ret rfl rfl
theorem b_X4_purposeThen_49 (x1 : Int) (x2 : Int) (x3 : Int) (x4 : Int) (u5 : AV) (σ : St) : Rx k_X4_purposeThen 49 [.inr (.inl (0, 0)), .inl x1, .inl x2, .inl x3, .inl x4, u5] [] σ = (Rx k_X1_behind 0 [.inr (.inl (1, 0)), .inl x2] [] σ).bind fun q => Rx k_X4_purposeThen 57 [.inr (.inl (0, 0)), .inl x1, .inl x2, .inl x3, .inl x4, u5] (q.1.toList ++ []) q.2 := by
  refine (Rx_N (k := 3) (pc' := 54) (ls' := [.inr (.inl (0, 0)), .inl x1, .inl x2, .inl x3, .inl x4, u5]) (st' := [.inl x2, .inr (.inl (1, 0))]) (σ' := σ) rfl).trans ?_
  exact Rx_call (n := 3) (y' := k_X1_behind) (as := [.inr (.inl (1, 0)), .inl x2]) (rest := []) rfl rfl rfl
theorem b_X4_purposeThen_57 (x1 : Int) (x2 : Int) (x3 : Int) (x4 : Int) (u5 : AV) (q0 : Nat) (σ : St) : Rx k_X4_purposeThen 57 [.inr (.inl (0, 0)), .inl x1, .inl x2, .inl x3, .inl x4, u5] [.inr (.inl (7, q0))] σ = if x3 = 0 then Rx k_X4_purposeThen 63 [.inr (.inl (0, 0)), .inl x1, .inl x2, .inl x3, .inl x4, .inr (.inl (7, q0))] [] σ else Rx k_X4_purposeThen 73 [.inr (.inl (0, 0)), .inl x1, .inl x2, .inl x3, .inl x4, .inr (.inl (7, q0))] [] σ := by
  exact Rx_ne0 (k := 3) rfl
theorem b_X4_purposeThen_63 (x1 : Int) (x2 : Int) (x3 : Int) (x4 : Int) (r5 : Nat) (σ : St) (h0 : 0 ≤ x1) (h1 : x1 < 5) : Rx k_X4_purposeThen 63 [.inr (.inl (0, 0)), .inl x1, .inl x2, .inl x3, .inl x4, .inr (.inl (7, r5))] [] σ = some (some (.inl (σ 10 r5 x1.toNat)), σ) := by
  refine (Rx_N (k := 3) (pc' := 69) (ls' := [.inr (.inl (0, 0)), .inl x1, .inl x2, .inl x3, .inl x4, .inr (.inl (7, r5))]) (st' := [.inl x1, .inr (.inl (10, r5))]) (σ' := σ) rfl).trans ?_
  refine (Rx_ild 5 rfl rfl rfl h0 h1).trans ?_
  refine (Rx_N (k := 1) (pc' := 80) (ls' := [.inr (.inl (0, 0)), .inl x1, .inl x2, .inl x3, .inl x4, .inr (.inl (7, r5))]) (st' := [.inl (σ 10 r5 x1.toNat)]) (σ' := σ) rfl).trans ?_
  exact Rx_ret rfl rfl
theorem b_X4_purposeThen_73 (x1 : Int) (x2 : Int) (x3 : Int) (x4 : Int) (r5 : Nat) (σ : St) (h0 : 0 ≤ x1) (h1 : x1 < 5) : Rx k_X4_purposeThen 73 [.inr (.inl (0, 0)), .inl x1, .inl x2, .inl x3, .inl x4, .inr (.inl (7, r5))] [] σ = some (some (.inl (σ 11 r5 x1.toNat)), σ) := by
  refine (Rx_N (k := 3) (pc' := 79) (ls' := [.inr (.inl (0, 0)), .inl x1, .inl x2, .inl x3, .inl x4, .inr (.inl (7, r5))]) (st' := [.inl x1, .inr (.inl (11, r5))]) (σ' := σ) rfl).trans ?_
  refine (Rx_ild 5 rfl rfl rfl h0 h1).trans ?_
  exact Rx_ret rfl rfl
theorem b_X4_falls_0 (x1 : Int) (σ : St) : Rx k_X4_falls 0 [.inr (.inl (0, 0)), .inl x1] [] σ = (Rx k_X2_isThing 0 [.inr (.inl (7, 0)), .inl x1] [] σ).bind fun q => Rx k_X4_falls 8 [.inr (.inl (0, 0)), .inl x1] (q.1.toList ++ []) q.2 := by
  refine (Rx_N (k := 3) (pc' := 5) (ls' := [.inr (.inl (0, 0)), .inl x1]) (st' := [.inl x1, .inr (.inl (7, 0))]) (σ' := σ) rfl).trans ?_
  exact Rx_call (n := 3) (y' := k_X2_isThing) (as := [.inr (.inl (7, 0)), .inl x1]) (rest := []) rfl rfl rfl
theorem b_X4_falls_8 (x1 : Int) (s0 : Int) (σ : St) : Rx k_X4_falls 8 [.inr (.inl (0, 0)), .inl x1] [.inl s0] σ = if s0 = 0 then Rx k_X4_falls 22 [.inr (.inl (0, 0)), .inl x1] [] σ else Rx k_X4_falls 11 [.inr (.inl (0, 0)), .inl x1] [] σ := by
  exact Rx_eq0 (k := 1) rfl
theorem b_X4_falls_11 (x1 : Int) (σ : St) : Rx k_X4_falls 11 [.inr (.inl (0, 0)), .inl x1] [] σ = (Rx k_X1_downBehind 0 [.inr (.inl (1, 0)), .inl x1] [] σ).bind fun q => Rx k_X4_falls 19 [.inr (.inl (0, 0)), .inl x1] (q.1.toList ++ []) q.2 := by
  refine (Rx_N (k := 3) (pc' := 16) (ls' := [.inr (.inl (0, 0)), .inl x1]) (st' := [.inl x1, .inr (.inl (1, 0))]) (σ' := σ) rfl).trans ?_
  exact Rx_call (n := 3) (y' := k_X1_downBehind) (as := [.inr (.inl (1, 0)), .inl x1]) (rest := []) rfl rfl rfl
theorem b_X4_falls_19 (x1 : Int) (s0 : Int) (σ : St) : Rx k_X4_falls 19 [.inr (.inl (0, 0)), .inl x1] [.inl s0] σ = some (some (.inl s0), σ) := by
  refine (Rx_N (k := 1) (pc' := 27) (ls' := [.inr (.inl (0, 0)), .inl x1]) (st' := [.inl s0]) (σ' := σ) rfl).trans ?_
  exact Rx_ret rfl rfl
theorem b_X4_falls_22 (x1 : Int) (σ : St) : Rx k_X4_falls 22 [.inr (.inl (0, 0)), .inl x1] [] σ = (Rx k_X4_refuse 0 [.inr (.inl (0, 0)), .inl 1] [] σ).bind fun q => Rx k_X4_falls 27 [.inr (.inl (0, 0)), .inl x1] (q.1.toList ++ []) q.2 := by
  refine (Rx_N (k := 2) (pc' := 24) (ls' := [.inr (.inl (0, 0)), .inl x1]) (st' := [.inl 1, .inr (.inl (0, 0))]) (σ' := σ) rfl).trans ?_
  exact Rx_call (n := 3) (y' := k_X4_refuse) (as := [.inr (.inl (0, 0)), .inl 1]) (rest := []) rfl rfl rfl
theorem b_X4_falls_27 (x1 : Int) (s0 : Int) (σ : St) : Rx k_X4_falls 27 [.inr (.inl (0, 0)), .inl x1] [.inl s0] σ = some (some (.inl s0), σ) := by
  exact Rx_ret rfl rfl
theorem b_X4_first_0 (x1 : Int) (u2 : AV) (σ : St) : Rx k_X4_first 0 [.inr (.inl (0, 0)), .inl x1, u2] [] σ = if x1 < 0 then Rx k_X4_first 9 [.inr (.inl (0, 0)), .inl x1, u2] [] σ else Rx k_X4_first 4 [.inr (.inl (0, 0)), .inl x1, u2] [] σ := by
  exact Rx_lt0 (k := 2) rfl
theorem b_X4_first_4 (x1 : Int) (u2 : AV) (σ : St) : Rx k_X4_first 4 [.inr (.inl (0, 0)), .inl x1, u2] [] σ = if 3 < x1 then Rx k_X4_first 9 [.inr (.inl (0, 0)), .inl x1, u2] [] σ else Rx k_X4_first 15 [.inr (.inl (0, 0)), .inl x1, u2] [] σ := by
  exact Rx_le0 (k := 3) rfl
theorem b_X4_first_9 (x1 : Int) (u2 : AV) (σ : St) : Rx k_X4_first 9 [.inr (.inl (0, 0)), .inl x1, u2] [] σ = (Rx k_X4_refuse 0 [.inr (.inl (0, 0)), .inl 2] [] σ).bind fun q => Rx k_X4_first 14 [.inr (.inl (0, 0)), .inl x1, u2] (q.1.toList ++ []) q.2 := by
  refine (Rx_N (k := 2) (pc' := 11) (ls' := [.inr (.inl (0, 0)), .inl x1, u2]) (st' := [.inl 2, .inr (.inl (0, 0))]) (σ' := σ) rfl).trans ?_
  exact Rx_call (n := 3) (y' := k_X4_refuse) (as := [.inr (.inl (0, 0)), .inl 2]) (rest := []) rfl rfl rfl
theorem b_X4_first_14 (x1 : Int) (u2 : AV) (s0 : Int) (σ : St) : Rx k_X4_first 14 [.inr (.inl (0, 0)), .inl x1, u2] [.inl s0] σ = some (some (.inl s0), σ) := by
  exact Rx_ret rfl rfl
theorem b_X4_first_15 (x1 : Int) (u2 : AV) (σ : St) : Rx k_X4_first 15 [.inr (.inl (0, 0)), .inl x1, u2] [] σ = if x1 = 3 then Rx k_X4_first 20 [.inr (.inl (0, 0)), .inl x1, u2] [] σ else Rx k_X4_first 28 [.inr (.inl (0, 0)), .inl x1, u2] [] σ := by
  exact Rx_ne0 (k := 3) rfl
theorem b_X4_first_20 (x1 : Int) (u2 : AV) (σ : St) : Rx k_X4_first 20 [.inr (.inl (0, 0)), .inl x1, u2] [] σ = (Rx k_X1_flatBehind 0 [.inr (.inl (1, 0)), uns] [] σ).bind fun q => Rx k_X4_first 27 [.inr (.inl (0, 0)), .inl x1, u2] (q.1.toList ++ []) q.2 := by
  refine (Rx_N (k := 2) (pc' := 24) (ls' := [.inr (.inl (0, 0)), .inl x1, u2]) (st' := [.inr (.inl (1, 0))]) (σ' := σ) rfl).trans ?_
  exact Rx_call (n := 3) (y' := k_X1_flatBehind) (as := [.inr (.inl (1, 0))]) (rest := []) rfl rfl rfl
theorem b_X4_first_27 (x1 : Int) (u2 : AV) (s0 : Int) (σ : St) : Rx k_X4_first 27 [.inr (.inl (0, 0)), .inl x1, u2] [.inl s0] σ = some (some (.inl s0), σ) := by
  exact Rx_ret rfl rfl
theorem b_X4_first_28 (x1 : Int) (u2 : AV) (σ : St) : Rx k_X4_first 28 [.inr (.inl (0, 0)), .inl x1, u2] [] σ = (Rx k_X1_firstDownBehind 0 [.inr (.inl (1, 0)), uns] [] σ).bind fun q => Rx k_X4_first 35 [.inr (.inl (0, 0)), .inl x1, u2] (q.1.toList ++ []) q.2 := by
  refine (Rx_N (k := 2) (pc' := 32) (ls' := [.inr (.inl (0, 0)), .inl x1, u2]) (st' := [.inr (.inl (1, 0))]) (σ' := σ) rfl).trans ?_
  exact Rx_call (n := 3) (y' := k_X1_firstDownBehind) (as := [.inr (.inl (1, 0))]) (rest := []) rfl rfl rfl
theorem b_X4_first_35 (x1 : Int) (u2 : AV) (s0 : Int) (σ : St) : Rx k_X4_first 35 [.inr (.inl (0, 0)), .inl x1, u2] [.inl s0] σ = if x1 = 2 then Rx k_X4_first 41 [.inr (.inl (0, 0)), .inl x1, .inl s0] [] σ else Rx k_X4_first 56 [.inr (.inl (0, 0)), .inl x1, .inl s0] [] σ := by
  exact Rx_ne0 (k := 4) rfl
theorem b_X4_first_41 (x1 : Int) (x2 : Int) (σ : St) : Rx k_X4_first 41 [.inr (.inl (0, 0)), .inl x1, .inl x2] [] σ = if x2 = (-9) then Rx k_X4_first 47 [.inr (.inl (0, 0)), .inl x1, .inl x2] [] σ else Rx k_X4_first 52 [.inr (.inl (0, 0)), .inl x1, .inl x2] [] σ := by
  exact Rx_ne0 (k := 3) rfl
theorem b_X4_first_47 (x1 : Int) (x2 : Int) (σ : St) : Rx k_X4_first 47 [.inr (.inl (0, 0)), .inl x1, .inl x2] [] σ = some (some (.inl 99), σ) := by
  refine (Rx_N (k := 2) (pc' := 55) (ls' := [.inr (.inl (0, 0)), .inl x1, .inl x2]) (st' := [.inl 99]) (σ' := σ) rfl).trans ?_
  exact Rx_ret rfl rfl
theorem r_X4_first_52 (x1 : Int) (x2 : Int) (σ : St) : Rx k_X4_first 52 [.inr (.inl (0, 0)), .inl x1, .inl x2] [] σ = some (some (.inl (wr (x2 - 1))), σ) := by
  refine (Rx_N (k := 3) (pc' := 55) (ls' := [.inr (.inl (0, 0)), .inl x1, .inl x2]) (st' := [.inl (wr (x2 - 1))]) (σ' := σ) rfl).trans ?_
  exact Rx_ret rfl rfl
theorem b_X4_first_52 (x1 : Int) (x2 : Int) (σ : St) (g0a : -2147483648 ≤ (x2 - 1)) (g0b : (x2 - 1) < 2147483648) : Rx k_X4_first 52 [.inr (.inl (0, 0)), .inl x1, .inl x2] [] σ = some (some (.inl (x2 - 1)), σ) := by
  have e0 := wr_id (x := (x2 - 1)) g0a g0b
  have raw := r_X4_first_52 x1 x2 σ 
  simp only [e0] at raw
  exact raw
theorem b_X4_first_56 (x1 : Int) (x2 : Int) (σ : St) : Rx k_X4_first 56 [.inr (.inl (0, 0)), .inl x1, .inl x2] [] σ = if x1 = 1 then Rx k_X4_first 67 [.inr (.inl (0, 0)), .inl x1, .inl x2] [] σ else Rx k_X4_first 61 [.inr (.inl (0, 0)), .inl x1, .inl x2] [] σ := by
  exact Rx_eq0 (k := 3) rfl
theorem b_X4_first_61 (x1 : Int) (x2 : Int) (σ : St) : Rx k_X4_first 61 [.inr (.inl (0, 0)), .inl x1, .inl x2] [] σ = if x2 = (-9) then Rx k_X4_first 67 [.inr (.inl (0, 0)), .inl x1, .inl x2] [] σ else Rx k_X4_first 69 [.inr (.inl (0, 0)), .inl x1, .inl x2] [] σ := by
  exact Rx_ne0 (k := 3) rfl
theorem b_X4_first_67 (x1 : Int) (x2 : Int) (σ : St) : Rx k_X4_first 67 [.inr (.inl (0, 0)), .inl x1, .inl x2] [] σ = some (some (.inl x2), σ) := by
  refine (Rx_N (k := 1) (pc' := 68) (ls' := [.inr (.inl (0, 0)), .inl x1, .inl x2]) (st' := [.inl x2]) (σ' := σ) rfl).trans ?_
  exact Rx_ret rfl rfl
theorem b_X4_first_69 (x1 : Int) (x2 : Int) (σ : St) : Rx k_X4_first 69 [.inr (.inl (0, 0)), .inl x1, .inl x2] [] σ = (Rx k_X1_behind 0 [.inr (.inl (1, 0)), .inl x2] [] σ).bind fun q => Rx k_X4_first 88 [.inr (.inl (0, 0)), .inl x1, .inl x2] (q.1.toList ++ [.inl (σ 7 0 3), .inr (.inl (7, 0))]) q.2 := by
  refine (Rx_N (k := 8) (pc' := 85) (ls' := [.inr (.inl (0, 0)), .inl x1, .inl x2]) (st' := [.inl x2, .inr (.inl (1, 0)), .inl (σ 7 0 3), .inr (.inl (7, 0))]) (σ' := σ) rfl).trans ?_
  exact Rx_call (n := 3) (y' := k_X1_behind) (as := [.inr (.inl (1, 0)), .inl x2]) (rest := [.inl (σ 7 0 3), .inr (.inl (7, 0))]) rfl rfl rfl
theorem b_X4_first_88 (x1 : Int) (x2 : Int) (q2 : Nat) (s1 : Int) (σ : St) : Rx k_X4_first 88 [.inr (.inl (0, 0)), .inl x1, .inl x2] [.inr (.inl (7, q2)), .inl s1, .inr (.inl (7, 0))] σ = (Rx k_X2_leastPlaced 0 [.inr (.inl (7, 0)), .inl (bAnd s1 (bXor (σ 7 q2 3) (-1))), uns] [] σ).bind fun q => Rx k_X4_first 97 [.inr (.inl (0, 0)), .inl x1, .inl x2] (q.1.toList ++ []) q.2 := by
  refine (Rx_N (k := 4) (pc' := 94) (ls' := [.inr (.inl (0, 0)), .inl x1, .inl x2]) (st' := [.inl (bAnd s1 (bXor (σ 7 q2 3) (-1))), .inr (.inl (7, 0))]) (σ' := σ) rfl).trans ?_
  exact Rx_call (n := 3) (y' := k_X2_leastPlaced) (as := [.inr (.inl (7, 0)), .inl (bAnd s1 (bXor (σ 7 q2 3) (-1)))]) (rest := []) rfl rfl rfl
theorem b_X4_first_97 (x1 : Int) (x2 : Int) (s0 : Int) (σ : St) : Rx k_X4_first 97 [.inr (.inl (0, 0)), .inl x1, .inl x2] [.inl s0] σ = some (some (.inl s0), σ) := by
  exact Rx_ret rfl rfl
theorem b_X4_pushed_0 (x1 : Int) (u2 : AV) (σ : St) : Rx k_X4_pushed 0 [.inr (.inl (0, 0)), .inl x1, u2] [] σ = (Rx k_X4_offUpThing 0 [.inr (.inl (0, 0)), .inl x1] [] σ).bind fun q => Rx k_X4_pushed 5 [.inr (.inl (0, 0)), .inl x1, u2] (q.1.toList ++ []) q.2 := by
  refine (Rx_N (k := 2) (pc' := 2) (ls' := [.inr (.inl (0, 0)), .inl x1, u2]) (st' := [.inl x1, .inr (.inl (0, 0))]) (σ' := σ) rfl).trans ?_
  exact Rx_call (n := 3) (y' := k_X4_offUpThing) (as := [.inr (.inl (0, 0)), .inl x1]) (rest := []) rfl rfl rfl
theorem b_X4_pushed_5 (x1 : Int) (u2 : AV) (s0 : Int) (σ : St) : Rx k_X4_pushed 5 [.inr (.inl (0, 0)), .inl x1, u2] [.inl s0] σ = if s0 = 0 then Rx k_X4_pushed 18 [.inr (.inl (0, 0)), .inl x1, .inl s0] [] σ else Rx k_X4_pushed 10 [.inr (.inl (0, 0)), .inl x1, .inl s0] [] σ := by
  exact Rx_eq0 (k := 3) rfl
theorem b_X4_pushed_10 (x1 : Int) (x2 : Int) (σ : St) : Rx k_X4_pushed 10 [.inr (.inl (0, 0)), .inl x1, .inl x2] [] σ = (Rx k_X4_refuse 0 [.inr (.inl (0, 0)), .inl x2] [] σ).bind fun q => Rx k_X4_pushed 15 [.inr (.inl (0, 0)), .inl x1, .inl x2] (q.1.toList ++ []) q.2 := by
  refine (Rx_N (k := 2) (pc' := 12) (ls' := [.inr (.inl (0, 0)), .inl x1, .inl x2]) (st' := [.inl x2, .inr (.inl (0, 0))]) (σ' := σ) rfl).trans ?_
  exact Rx_call (n := 3) (y' := k_X4_refuse) (as := [.inr (.inl (0, 0)), .inl x2]) (rest := []) rfl rfl rfl
theorem b_X4_pushed_15 (x1 : Int) (x2 : Int) (s0 : Int) (σ : St) : Rx k_X4_pushed 15 [.inr (.inl (0, 0)), .inl x1, .inl x2] [.inl s0] σ = some (some (.inl s0), σ) := by
  refine (Rx_N (k := 1) (pc' := 27) (ls' := [.inr (.inl (0, 0)), .inl x1, .inl x2]) (st' := [.inl s0]) (σ' := σ) rfl).trans ?_
  exact Rx_ret rfl rfl
theorem b_X4_pushed_18 (x1 : Int) (x2 : Int) (σ : St) : Rx k_X4_pushed 18 [.inr (.inl (0, 0)), .inl x1, .inl x2] [] σ = (Rx k_X2_felledBy 0 [.inr (.inl (7, 0)), .inl x1, .inl 0, uns, uns, uns, uns, uns] [] σ).bind fun q => Rx k_X4_pushed 27 [.inr (.inl (0, 0)), .inl x1, .inl x2] (q.1.toList ++ []) q.2 := by
  refine (Rx_N (k := 4) (pc' := 24) (ls' := [.inr (.inl (0, 0)), .inl x1, .inl x2]) (st' := [.inl 0, .inl x1, .inr (.inl (7, 0))]) (σ' := σ) rfl).trans ?_
  exact Rx_call (n := 3) (y' := k_X2_felledBy) (as := [.inr (.inl (7, 0)), .inl x1, .inl 0]) (rest := []) rfl rfl rfl
theorem b_X4_pushed_27 (x1 : Int) (x2 : Int) (s0 : Int) (σ : St) : Rx k_X4_pushed 27 [.inr (.inl (0, 0)), .inl x1, .inl x2] [.inl s0] σ = some (some (.inl s0), σ) := by
  exact Rx_ret rfl rfl
theorem b_X4_worst_0 (x1 : Int) (u2 : AV) (σ : St) : Rx k_X4_worst 0 [.inr (.inl (0, 0)), .inl x1, u2] [] σ = (Rx k_X4_isNeither 0 [.inl x1] [] σ).bind fun q => Rx k_X4_worst 4 [.inr (.inl (0, 0)), .inl x1, u2] (q.1.toList ++ []) q.2 := by
  refine (Rx_N (k := 1) (pc' := 1) (ls' := [.inr (.inl (0, 0)), .inl x1, u2]) (st' := [.inl x1]) (σ' := σ) rfl).trans ?_
  exact Rx_call (n := 3) (y' := k_X4_isNeither) (as := [.inl x1]) (rest := []) rfl rfl rfl
theorem b_X4_worst_4 (x1 : Int) (u2 : AV) (s0 : Int) (σ : St) : Rx k_X4_worst 4 [.inr (.inl (0, 0)), .inl x1, u2] [.inl s0] σ = if s0 = 0 then Rx k_X4_worst 13 [.inr (.inl (0, 0)), .inl x1, u2] [] σ else Rx k_X4_worst 7 [.inr (.inl (0, 0)), .inl x1, u2] [] σ := by
  exact Rx_eq0 (k := 1) rfl
theorem b_X4_worst_7 (x1 : Int) (u2 : AV) (σ : St) : Rx k_X4_worst 7 [.inr (.inl (0, 0)), .inl x1, u2] [] σ = (Rx k_X4_refuse 0 [.inr (.inl (0, 0)), .inl 2] [] σ).bind fun q => Rx k_X4_worst 12 [.inr (.inl (0, 0)), .inl x1, u2] (q.1.toList ++ []) q.2 := by
  refine (Rx_N (k := 2) (pc' := 9) (ls' := [.inr (.inl (0, 0)), .inl x1, u2]) (st' := [.inl 2, .inr (.inl (0, 0))]) (σ' := σ) rfl).trans ?_
  exact Rx_call (n := 3) (y' := k_X4_refuse) (as := [.inr (.inl (0, 0)), .inl 2]) (rest := []) rfl rfl rfl
theorem b_X4_worst_12 (x1 : Int) (u2 : AV) (s0 : Int) (σ : St) : Rx k_X4_worst 12 [.inr (.inl (0, 0)), .inl x1, u2] [.inl s0] σ = some (some (.inl s0), σ) := by
  exact Rx_ret rfl rfl
theorem b_X4_worst_13 (x1 : Int) (u2 : AV) (σ : St) : Rx k_X4_worst 13 [.inr (.inl (0, 0)), .inl x1, u2] [] σ = (Rx k_X2_worstPush 0 [.inr (.inl (7, 0)), uns, uns, uns, uns, uns] [] σ).bind fun q => Rx k_X4_worst 20 [.inr (.inl (0, 0)), .inl x1, u2] (q.1.toList ++ []) q.2 := by
  refine (Rx_N (k := 2) (pc' := 17) (ls' := [.inr (.inl (0, 0)), .inl x1, u2]) (st' := [.inr (.inl (7, 0))]) (σ' := σ) rfl).trans ?_
  exact Rx_call (n := 3) (y' := k_X2_worstPush) (as := [.inr (.inl (7, 0))]) (rest := []) rfl rfl rfl
theorem b_X4_worst_20 (x1 : Int) (u2 : AV) (s0 : Int) (σ : St) : Rx k_X4_worst 20 [.inr (.inl (0, 0)), .inl x1, u2] [.inl s0] σ = if x1 = 0 then Rx k_X4_worst 31 [.inr (.inl (0, 0)), .inl x1, .inl s0] [] σ else Rx k_X4_worst 25 [.inr (.inl (0, 0)), .inl x1, .inl s0] [] σ := by
  exact Rx_eq0 (k := 3) rfl
theorem b_X4_worst_25 (x1 : Int) (x2 : Int) (σ : St) : Rx k_X4_worst 25 [.inr (.inl (0, 0)), .inl x1, .inl x2] [] σ = if x2 = (-9) then Rx k_X4_worst 31 [.inr (.inl (0, 0)), .inl x1, .inl x2] [] σ else Rx k_X4_worst 33 [.inr (.inl (0, 0)), .inl x1, .inl x2] [] σ := by
  exact Rx_ne0 (k := 3) rfl
theorem b_X4_worst_31 (x1 : Int) (x2 : Int) (σ : St) : Rx k_X4_worst 31 [.inr (.inl (0, 0)), .inl x1, .inl x2] [] σ = some (some (.inl x2), σ) := by
  refine (Rx_N (k := 1) (pc' := 32) (ls' := [.inr (.inl (0, 0)), .inl x1, .inl x2]) (st' := [.inl x2]) (σ' := σ) rfl).trans ?_
  exact Rx_ret rfl rfl
theorem b_X4_worst_33 (x1 : Int) (x2 : Int) (σ : St) : Rx k_X4_worst 33 [.inr (.inl (0, 0)), .inl x1, .inl x2] [] σ = (Rx k_X2_felledBy 0 [.inr (.inl (7, 0)), .inl x2, .inl 0, uns, uns, uns, uns, uns] [] σ).bind fun q => Rx k_X4_worst 42 [.inr (.inl (0, 0)), .inl x1, .inl x2] (q.1.toList ++ []) q.2 := by
  refine (Rx_N (k := 4) (pc' := 39) (ls' := [.inr (.inl (0, 0)), .inl x1, .inl x2]) (st' := [.inl 0, .inl x2, .inr (.inl (7, 0))]) (σ' := σ) rfl).trans ?_
  exact Rx_call (n := 3) (y' := k_X2_felledBy) (as := [.inr (.inl (7, 0)), .inl x2, .inl 0]) (rest := []) rfl rfl rfl
theorem b_X4_worst_42 (x1 : Int) (x2 : Int) (s0 : Int) (σ : St) : Rx k_X4_worst 42 [.inr (.inl (0, 0)), .inl x1, .inl x2] [.inl s0] σ = (Rx k_J6_bitCount_0f7a4 0 [.inl s0] [] σ).bind fun q => Rx k_X4_worst 45 [.inr (.inl (0, 0)), .inl x1, .inl x2] (q.1.toList ++ []) q.2 := by
  exact Rx_call (n := 3) (y' := k_J6_bitCount_0f7a4) (as := [.inl s0]) (rest := []) rfl rfl rfl
theorem b_X4_worst_45 (x1 : Int) (x2 : Int) (s0 : Int) (σ : St) : Rx k_X4_worst 45 [.inr (.inl (0, 0)), .inl x1, .inl x2] [.inl s0] σ = some (some (.inl s0), σ) := by
  exact Rx_ret rfl rfl
theorem b_X4_gap_0 (x1 : Int) (u2 : AV) (σ : St) : Rx k_X4_gap 0 [.inr (.inl (0, 0)), .inl x1, u2] [] σ = (Rx k_X4_offUpThing 0 [.inr (.inl (0, 0)), .inl x1] [] σ).bind fun q => Rx k_X4_gap 5 [.inr (.inl (0, 0)), .inl x1, u2] (q.1.toList ++ []) q.2 := by
  refine (Rx_N (k := 2) (pc' := 2) (ls' := [.inr (.inl (0, 0)), .inl x1, u2]) (st' := [.inl x1, .inr (.inl (0, 0))]) (σ' := σ) rfl).trans ?_
  exact Rx_call (n := 3) (y' := k_X4_offUpThing) (as := [.inr (.inl (0, 0)), .inl x1]) (rest := []) rfl rfl rfl
theorem b_X4_gap_5 (x1 : Int) (u2 : AV) (s0 : Int) (σ : St) : Rx k_X4_gap 5 [.inr (.inl (0, 0)), .inl x1, u2] [.inl s0] σ = if s0 = 0 then Rx k_X4_gap 18 [.inr (.inl (0, 0)), .inl x1, .inl s0] [] σ else Rx k_X4_gap 10 [.inr (.inl (0, 0)), .inl x1, .inl s0] [] σ := by
  exact Rx_eq0 (k := 3) rfl
theorem b_X4_gap_10 (x1 : Int) (x2 : Int) (σ : St) : Rx k_X4_gap 10 [.inr (.inl (0, 0)), .inl x1, .inl x2] [] σ = (Rx k_X4_refuse 0 [.inr (.inl (0, 0)), .inl x2] [] σ).bind fun q => Rx k_X4_gap 15 [.inr (.inl (0, 0)), .inl x1, .inl x2] (q.1.toList ++ []) q.2 := by
  refine (Rx_N (k := 2) (pc' := 12) (ls' := [.inr (.inl (0, 0)), .inl x1, .inl x2]) (st' := [.inl x2, .inr (.inl (0, 0))]) (σ' := σ) rfl).trans ?_
  exact Rx_call (n := 3) (y' := k_X4_refuse) (as := [.inr (.inl (0, 0)), .inl x2]) (rest := []) rfl rfl rfl
theorem b_X4_gap_15 (x1 : Int) (x2 : Int) (s0 : Int) (σ : St) : Rx k_X4_gap 15 [.inr (.inl (0, 0)), .inl x1, .inl x2] [.inl s0] σ = some (some (.inl s0), σ) := by
  refine (Rx_N (k := 1) (pc' := 26) (ls' := [.inr (.inl (0, 0)), .inl x1, .inl x2]) (st' := [.inl s0]) (σ' := σ) rfl).trans ?_
  exact Rx_ret rfl rfl
theorem b_X4_gap_18 (x1 : Int) (x2 : Int) (σ : St) : Rx k_X4_gap 18 [.inr (.inl (0, 0)), .inl x1, .inl x2] [] σ = (Rx k_X2_gapBehind 0 [.inr (.inl (7, 0)), .inl x1, uns, uns, uns, uns] [] σ).bind fun q => Rx k_X4_gap 26 [.inr (.inl (0, 0)), .inl x1, .inl x2] (q.1.toList ++ []) q.2 := by
  refine (Rx_N (k := 3) (pc' := 23) (ls' := [.inr (.inl (0, 0)), .inl x1, .inl x2]) (st' := [.inl x1, .inr (.inl (7, 0))]) (σ' := σ) rfl).trans ?_
  exact Rx_call (n := 3) (y' := k_X2_gapBehind) (as := [.inr (.inl (7, 0)), .inl x1]) (rest := []) rfl rfl rfl
theorem b_X4_gap_26 (x1 : Int) (x2 : Int) (s0 : Int) (σ : St) : Rx k_X4_gap 26 [.inr (.inl (0, 0)), .inl x1, .inl x2] [.inl s0] σ = some (some (.inl s0), σ) := by
  exact Rx_ret rfl rfl
theorem b_X4_longest_0 (x1 : Int) (u2 : AV) (σ : St) : Rx k_X4_longest 0 [.inr (.inl (0, 0)), .inl x1, u2] [] σ = (Rx k_X4_isNeither 0 [.inl x1] [] σ).bind fun q => Rx k_X4_longest 4 [.inr (.inl (0, 0)), .inl x1, u2] (q.1.toList ++ []) q.2 := by
  refine (Rx_N (k := 1) (pc' := 1) (ls' := [.inr (.inl (0, 0)), .inl x1, u2]) (st' := [.inl x1]) (σ' := σ) rfl).trans ?_
  exact Rx_call (n := 3) (y' := k_X4_isNeither) (as := [.inl x1]) (rest := []) rfl rfl rfl
theorem b_X4_longest_4 (x1 : Int) (u2 : AV) (s0 : Int) (σ : St) : Rx k_X4_longest 4 [.inr (.inl (0, 0)), .inl x1, u2] [.inl s0] σ = if s0 = 0 then Rx k_X4_longest 13 [.inr (.inl (0, 0)), .inl x1, u2] [] σ else Rx k_X4_longest 7 [.inr (.inl (0, 0)), .inl x1, u2] [] σ := by
  exact Rx_eq0 (k := 1) rfl
theorem b_X4_longest_7 (x1 : Int) (u2 : AV) (σ : St) : Rx k_X4_longest 7 [.inr (.inl (0, 0)), .inl x1, u2] [] σ = (Rx k_X4_refuse 0 [.inr (.inl (0, 0)), .inl 2] [] σ).bind fun q => Rx k_X4_longest 12 [.inr (.inl (0, 0)), .inl x1, u2] (q.1.toList ++ []) q.2 := by
  refine (Rx_N (k := 2) (pc' := 9) (ls' := [.inr (.inl (0, 0)), .inl x1, u2]) (st' := [.inl 2, .inr (.inl (0, 0))]) (σ' := σ) rfl).trans ?_
  exact Rx_call (n := 3) (y' := k_X4_refuse) (as := [.inr (.inl (0, 0)), .inl 2]) (rest := []) rfl rfl rfl
theorem b_X4_longest_12 (x1 : Int) (u2 : AV) (s0 : Int) (σ : St) : Rx k_X4_longest 12 [.inr (.inl (0, 0)), .inl x1, u2] [.inl s0] σ = some (some (.inl s0), σ) := by
  exact Rx_ret rfl rfl
theorem b_X4_longest_13 (x1 : Int) (u2 : AV) (σ : St) : Rx k_X4_longest 13 [.inr (.inl (0, 0)), .inl x1, u2] [] σ = (Rx k_X2_longestFrom 0 [.inr (.inl (7, 0)), uns, uns, uns, uns] [] σ).bind fun q => Rx k_X4_longest 20 [.inr (.inl (0, 0)), .inl x1, u2] (q.1.toList ++ []) q.2 := by
  refine (Rx_N (k := 2) (pc' := 17) (ls' := [.inr (.inl (0, 0)), .inl x1, u2]) (st' := [.inr (.inl (7, 0))]) (σ' := σ) rfl).trans ?_
  exact Rx_call (n := 3) (y' := k_X2_longestFrom) (as := [.inr (.inl (7, 0))]) (rest := []) rfl rfl rfl
theorem b_X4_longest_20 (x1 : Int) (u2 : AV) (s0 : Int) (σ : St) : Rx k_X4_longest 20 [.inr (.inl (0, 0)), .inl x1, u2] [.inl s0] σ = if x1 = 1 then Rx k_X4_longest 26 [.inr (.inl (0, 0)), .inl x1, .inl s0] [] σ else Rx k_X4_longest 28 [.inr (.inl (0, 0)), .inl x1, .inl s0] [] σ := by
  exact Rx_ne0 (k := 4) rfl
theorem b_X4_longest_26 (x1 : Int) (x2 : Int) (σ : St) : Rx k_X4_longest 26 [.inr (.inl (0, 0)), .inl x1, .inl x2] [] σ = some (some (.inl x2), σ) := by
  refine (Rx_N (k := 1) (pc' := 27) (ls' := [.inr (.inl (0, 0)), .inl x1, .inl x2]) (st' := [.inl x2]) (σ' := σ) rfl).trans ?_
  exact Rx_ret rfl rfl
theorem b_X4_longest_28 (x1 : Int) (x2 : Int) (σ : St) : Rx k_X4_longest 28 [.inr (.inl (0, 0)), .inl x1, .inl x2] [] σ = if x2 = (-9) then Rx k_X4_longest 34 [.inr (.inl (0, 0)), .inl x1, .inl x2] [] σ else Rx k_X4_longest 38 [.inr (.inl (0, 0)), .inl x1, .inl x2] [] σ := by
  exact Rx_ne0 (k := 3) rfl
theorem b_X4_longest_34 (x1 : Int) (x2 : Int) (σ : St) : Rx k_X4_longest 34 [.inr (.inl (0, 0)), .inl x1, .inl x2] [] σ = some (some (.inl 0), σ) := by
  refine (Rx_N (k := 2) (pc' := 46) (ls' := [.inr (.inl (0, 0)), .inl x1, .inl x2]) (st' := [.inl 0]) (σ' := σ) rfl).trans ?_
  exact Rx_ret rfl rfl
theorem b_X4_longest_38 (x1 : Int) (x2 : Int) (σ : St) : Rx k_X4_longest 38 [.inr (.inl (0, 0)), .inl x1, .inl x2] [] σ = (Rx k_X2_besideFrom 0 [.inr (.inl (7, 0)), .inl x2, uns, uns] [] σ).bind fun q => Rx k_X4_longest 46 [.inr (.inl (0, 0)), .inl x1, .inl x2] (q.1.toList ++ []) q.2 := by
  refine (Rx_N (k := 3) (pc' := 43) (ls' := [.inr (.inl (0, 0)), .inl x1, .inl x2]) (st' := [.inl x2, .inr (.inl (7, 0))]) (σ' := σ) rfl).trans ?_
  exact Rx_call (n := 3) (y' := k_X2_besideFrom) (as := [.inr (.inl (7, 0)), .inl x2]) (rest := []) rfl rfl rfl
theorem b_X4_longest_46 (x1 : Int) (x2 : Int) (s0 : Int) (σ : St) : Rx k_X4_longest 46 [.inr (.inl (0, 0)), .inl x1, .inl x2] [.inl s0] σ = some (some (.inl s0), σ) := by
  exact Rx_ret rfl rfl
theorem b_X4_bestPlace_0 (x1 : Int) (x2 : Int) (u3 : AV) (σ : St) : Rx k_X4_bestPlace 0 [.inr (.inl (0, 0)), .inl x1, .inl x2, u3] [] σ = (Rx k_X2_isThing 0 [.inr (.inl (7, 0)), .inl x1] [] σ).bind fun q => Rx k_X4_bestPlace 8 [.inr (.inl (0, 0)), .inl x1, .inl x2, u3] (q.1.toList ++ []) q.2 := by
  refine (Rx_N (k := 3) (pc' := 5) (ls' := [.inr (.inl (0, 0)), .inl x1, .inl x2, u3]) (st' := [.inl x1, .inr (.inl (7, 0))]) (σ' := σ) rfl).trans ?_
  exact Rx_call (n := 3) (y' := k_X2_isThing) (as := [.inr (.inl (7, 0)), .inl x1]) (rest := []) rfl rfl rfl
theorem b_X4_bestPlace_8 (x1 : Int) (x2 : Int) (u3 : AV) (s0 : Int) (σ : St) : Rx k_X4_bestPlace 8 [.inr (.inl (0, 0)), .inl x1, .inl x2, u3] [.inl s0] σ = if s0 = 0 then Rx k_X4_bestPlace 11 [.inr (.inl (0, 0)), .inl x1, .inl x2, u3] [] σ else Rx k_X4_bestPlace 17 [.inr (.inl (0, 0)), .inl x1, .inl x2, u3] [] σ := by
  exact Rx_ne0 (k := 1) rfl
theorem b_X4_bestPlace_11 (x1 : Int) (x2 : Int) (u3 : AV) (σ : St) : Rx k_X4_bestPlace 11 [.inr (.inl (0, 0)), .inl x1, .inl x2, u3] [] σ = (Rx k_X4_refuse 0 [.inr (.inl (0, 0)), .inl 1] [] σ).bind fun q => Rx k_X4_bestPlace 16 [.inr (.inl (0, 0)), .inl x1, .inl x2, u3] (q.1.toList ++ []) q.2 := by
  refine (Rx_N (k := 2) (pc' := 13) (ls' := [.inr (.inl (0, 0)), .inl x1, .inl x2, u3]) (st' := [.inl 1, .inr (.inl (0, 0))]) (σ' := σ) rfl).trans ?_
  exact Rx_call (n := 3) (y' := k_X4_refuse) (as := [.inr (.inl (0, 0)), .inl 1]) (rest := []) rfl rfl rfl
theorem b_X4_bestPlace_16 (x1 : Int) (x2 : Int) (u3 : AV) (s0 : Int) (σ : St) : Rx k_X4_bestPlace 16 [.inr (.inl (0, 0)), .inl x1, .inl x2, u3] [.inl s0] σ = some (some (.inl s0), σ) := by
  exact Rx_ret rfl rfl
theorem b_X4_bestPlace_17 (x1 : Int) (x2 : Int) (u3 : AV) (σ : St) : Rx k_X4_bestPlace 17 [.inr (.inl (0, 0)), .inl x1, .inl x2, u3] [] σ = (Rx k_X4_isNeither 0 [.inl x2] [] σ).bind fun q => Rx k_X4_bestPlace 21 [.inr (.inl (0, 0)), .inl x1, .inl x2, u3] (q.1.toList ++ []) q.2 := by
  refine (Rx_N (k := 1) (pc' := 18) (ls' := [.inr (.inl (0, 0)), .inl x1, .inl x2, u3]) (st' := [.inl x2]) (σ' := σ) rfl).trans ?_
  exact Rx_call (n := 3) (y' := k_X4_isNeither) (as := [.inl x2]) (rest := []) rfl rfl rfl
theorem b_X4_bestPlace_21 (x1 : Int) (x2 : Int) (u3 : AV) (s0 : Int) (σ : St) : Rx k_X4_bestPlace 21 [.inr (.inl (0, 0)), .inl x1, .inl x2, u3] [.inl s0] σ = if s0 = 0 then Rx k_X4_bestPlace 30 [.inr (.inl (0, 0)), .inl x1, .inl x2, u3] [] σ else Rx k_X4_bestPlace 24 [.inr (.inl (0, 0)), .inl x1, .inl x2, u3] [] σ := by
  exact Rx_eq0 (k := 1) rfl
theorem b_X4_bestPlace_24 (x1 : Int) (x2 : Int) (u3 : AV) (σ : St) : Rx k_X4_bestPlace 24 [.inr (.inl (0, 0)), .inl x1, .inl x2, u3] [] σ = (Rx k_X4_refuse 0 [.inr (.inl (0, 0)), .inl 2] [] σ).bind fun q => Rx k_X4_bestPlace 29 [.inr (.inl (0, 0)), .inl x1, .inl x2, u3] (q.1.toList ++ []) q.2 := by
  refine (Rx_N (k := 2) (pc' := 26) (ls' := [.inr (.inl (0, 0)), .inl x1, .inl x2, u3]) (st' := [.inl 2, .inr (.inl (0, 0))]) (σ' := σ) rfl).trans ?_
  exact Rx_call (n := 3) (y' := k_X4_refuse) (as := [.inr (.inl (0, 0)), .inl 2]) (rest := []) rfl rfl rfl
theorem b_X4_bestPlace_29 (x1 : Int) (x2 : Int) (u3 : AV) (s0 : Int) (σ : St) : Rx k_X4_bestPlace 29 [.inr (.inl (0, 0)), .inl x1, .inl x2, u3] [.inl s0] σ = some (some (.inl s0), σ) := by
  exact Rx_ret rfl rfl
theorem b_X4_bestPlace_30 (x1 : Int) (x2 : Int) (u3 : AV) (σ : St) : Rx k_X4_bestPlace 30 [.inr (.inl (0, 0)), .inl x1, .inl x2, u3] [] σ = (Rx k_X2_isUp 0 [.inr (.inl (7, 0)), .inl x1] [] σ).bind fun q => Rx k_X4_bestPlace 38 [.inr (.inl (0, 0)), .inl x1, .inl x2, u3] (q.1.toList ++ []) q.2 := by
  refine (Rx_N (k := 3) (pc' := 35) (ls' := [.inr (.inl (0, 0)), .inl x1, .inl x2, u3]) (st' := [.inl x1, .inr (.inl (7, 0))]) (σ' := σ) rfl).trans ?_
  exact Rx_call (n := 3) (y' := k_X2_isUp) (as := [.inr (.inl (7, 0)), .inl x1]) (rest := []) rfl rfl rfl
theorem b_X4_bestPlace_38 (x1 : Int) (x2 : Int) (u3 : AV) (s0 : Int) (σ : St) : Rx k_X4_bestPlace 38 [.inr (.inl (0, 0)), .inl x1, .inl x2, u3] [.inl s0] σ = if s0 = 0 then Rx k_X4_bestPlace 41 [.inr (.inl (0, 0)), .inl x1, .inl x2, u3] [] σ else Rx k_X4_bestPlace 47 [.inr (.inl (0, 0)), .inl x1, .inl x2, u3] [] σ := by
  exact Rx_ne0 (k := 1) rfl
theorem b_X4_bestPlace_41 (x1 : Int) (x2 : Int) (u3 : AV) (σ : St) : Rx k_X4_bestPlace 41 [.inr (.inl (0, 0)), .inl x1, .inl x2, u3] [] σ = (Rx k_X4_refuse 0 [.inr (.inl (0, 0)), .inl 3] [] σ).bind fun q => Rx k_X4_bestPlace 46 [.inr (.inl (0, 0)), .inl x1, .inl x2, u3] (q.1.toList ++ []) q.2 := by
  refine (Rx_N (k := 2) (pc' := 43) (ls' := [.inr (.inl (0, 0)), .inl x1, .inl x2, u3]) (st' := [.inl 3, .inr (.inl (0, 0))]) (σ' := σ) rfl).trans ?_
  exact Rx_call (n := 3) (y' := k_X4_refuse) (as := [.inr (.inl (0, 0)), .inl 3]) (rest := []) rfl rfl rfl
theorem b_X4_bestPlace_46 (x1 : Int) (x2 : Int) (u3 : AV) (s0 : Int) (σ : St) : Rx k_X4_bestPlace 46 [.inr (.inl (0, 0)), .inl x1, .inl x2, u3] [.inl s0] σ = some (some (.inl s0), σ) := by
  exact Rx_ret rfl rfl
theorem b_X4_bestPlace_47 (x1 : Int) (x2 : Int) (u3 : AV) (σ : St) : Rx k_X4_bestPlace 47 [.inr (.inl (0, 0)), .inl x1, .inl x2, u3] [] σ = (Rx k_X1_safestPlace 0 [.inr (.inl (1, 0)), .inl x1, uns, uns, uns, uns] [] σ).bind fun q => Rx k_X4_bestPlace 55 [.inr (.inl (0, 0)), .inl x1, .inl x2, u3] (q.1.toList ++ []) q.2 := by
  refine (Rx_N (k := 3) (pc' := 52) (ls' := [.inr (.inl (0, 0)), .inl x1, .inl x2, u3]) (st' := [.inl x1, .inr (.inl (1, 0))]) (σ' := σ) rfl).trans ?_
  exact Rx_call (n := 3) (y' := k_X1_safestPlace) (as := [.inr (.inl (1, 0)), .inl x1]) (rest := []) rfl rfl rfl
theorem b_X4_bestPlace_55 (x1 : Int) (x2 : Int) (u3 : AV) (s0 : Int) (σ : St) : Rx k_X4_bestPlace 55 [.inr (.inl (0, 0)), .inl x1, .inl x2, u3] [.inl s0] σ = if x2 = 0 then Rx k_X4_bestPlace 60 [.inr (.inl (0, 0)), .inl x1, .inl x2, .inl s0] [] σ else Rx k_X4_bestPlace 64 [.inr (.inl (0, 0)), .inl x1, .inl x2, .inl s0] [] σ := by
  exact Rx_ne0 (k := 3) rfl
theorem b_X4_bestPlace_60 (x1 : Int) (x2 : Int) (x3 : Int) (σ : St) : Rx k_X4_bestPlace 60 [.inr (.inl (0, 0)), .inl x1, .inl x2, .inl x3] [] σ = some (some (.inl x3), σ) := by
  refine (Rx_N (k := 2) (pc' := 73) (ls' := [.inr (.inl (0, 0)), .inl x1, .inl x2, .inl x3]) (st' := [.inl x3]) (σ' := σ) rfl).trans ?_
  exact Rx_ret rfl rfl
theorem b_X4_bestPlace_64 (x1 : Int) (x2 : Int) (x3 : Int) (σ : St) : Rx k_X4_bestPlace 64 [.inr (.inl (0, 0)), .inl x1, .inl x2, .inl x3] [] σ = (Rx k_X1_felledFrom 0 [.inr (.inl (1, 0)), .inl x1, .inl x3] [] σ).bind fun q => Rx k_X4_bestPlace 73 [.inr (.inl (0, 0)), .inl x1, .inl x2, .inl x3] (q.1.toList ++ []) q.2 := by
  refine (Rx_N (k := 4) (pc' := 70) (ls' := [.inr (.inl (0, 0)), .inl x1, .inl x2, .inl x3]) (st' := [.inl x3, .inl x1, .inr (.inl (1, 0))]) (σ' := σ) rfl).trans ?_
  exact Rx_call (n := 3) (y' := k_X1_felledFrom) (as := [.inr (.inl (1, 0)), .inl x1, .inl x3]) (rest := []) rfl rfl rfl
theorem b_X4_bestPlace_73 (x1 : Int) (x2 : Int) (x3 : Int) (s0 : Int) (σ : St) : Rx k_X4_bestPlace 73 [.inr (.inl (0, 0)), .inl x1, .inl x2, .inl x3] [.inl s0] σ = some (some (.inl s0), σ) := by
  exact Rx_ret rfl rfl
theorem b_X4_lean_0 (x1 : Int) (u2 : AV) (σ : St) : Rx k_X4_lean 0 [.inr (.inl (0, 0)), .inl x1, u2] [] σ = (Rx k_X4_offUpThing 0 [.inr (.inl (0, 0)), .inl x1] [] σ).bind fun q => Rx k_X4_lean 5 [.inr (.inl (0, 0)), .inl x1, u2] (q.1.toList ++ []) q.2 := by
  refine (Rx_N (k := 2) (pc' := 2) (ls' := [.inr (.inl (0, 0)), .inl x1, u2]) (st' := [.inl x1, .inr (.inl (0, 0))]) (σ' := σ) rfl).trans ?_
  exact Rx_call (n := 3) (y' := k_X4_offUpThing) (as := [.inr (.inl (0, 0)), .inl x1]) (rest := []) rfl rfl rfl
theorem b_X4_lean_5 (x1 : Int) (u2 : AV) (s0 : Int) (σ : St) : Rx k_X4_lean 5 [.inr (.inl (0, 0)), .inl x1, u2] [.inl s0] σ = if s0 = 0 then Rx k_X4_lean 18 [.inr (.inl (0, 0)), .inl x1, .inl s0] [] σ else Rx k_X4_lean 10 [.inr (.inl (0, 0)), .inl x1, .inl s0] [] σ := by
  exact Rx_eq0 (k := 3) rfl
theorem b_X4_lean_10 (x1 : Int) (x2 : Int) (σ : St) : Rx k_X4_lean 10 [.inr (.inl (0, 0)), .inl x1, .inl x2] [] σ = (Rx k_X4_refuse 0 [.inr (.inl (0, 0)), .inl x2] [] σ).bind fun q => Rx k_X4_lean 15 [.inr (.inl (0, 0)), .inl x1, .inl x2] (q.1.toList ++ []) q.2 := by
  refine (Rx_N (k := 2) (pc' := 12) (ls' := [.inr (.inl (0, 0)), .inl x1, .inl x2]) (st' := [.inl x2, .inr (.inl (0, 0))]) (σ' := σ) rfl).trans ?_
  exact Rx_call (n := 3) (y' := k_X4_refuse) (as := [.inr (.inl (0, 0)), .inl x2]) (rest := []) rfl rfl rfl
theorem b_X4_lean_15 (x1 : Int) (x2 : Int) (s0 : Int) (σ : St) : Rx k_X4_lean 15 [.inr (.inl (0, 0)), .inl x1, .inl x2] [.inl s0] σ = some (some (.inl s0), σ) := by
  refine (Rx_N (k := 1) (pc' := 26) (ls' := [.inr (.inl (0, 0)), .inl x1, .inl x2]) (st' := [.inl s0]) (σ' := σ) rfl).trans ?_
  exact Rx_ret rfl rfl
theorem b_X4_lean_18 (x1 : Int) (x2 : Int) (σ : St) : Rx k_X4_lean 18 [.inr (.inl (0, 0)), .inl x1, .inl x2] [] σ = (Rx k_X1_betterLean 0 [.inr (.inl (1, 0)), .inl x1, uns, uns, uns, uns, uns] [] σ).bind fun q => Rx k_X4_lean 26 [.inr (.inl (0, 0)), .inl x1, .inl x2] (q.1.toList ++ []) q.2 := by
  refine (Rx_N (k := 3) (pc' := 23) (ls' := [.inr (.inl (0, 0)), .inl x1, .inl x2]) (st' := [.inl x1, .inr (.inl (1, 0))]) (σ' := σ) rfl).trans ?_
  exact Rx_call (n := 3) (y' := k_X1_betterLean) (as := [.inr (.inl (1, 0)), .inl x1]) (rest := []) rfl rfl rfl
theorem b_X4_lean_26 (x1 : Int) (x2 : Int) (s0 : Int) (σ : St) : Rx k_X4_lean 26 [.inr (.inl (0, 0)), .inl x1, .inl x2] [.inl s0] σ = some (some (.inl s0), σ) := by
  exact Rx_ret rfl rfl
theorem b_X4_bestLeans_0 (x1 : Int) (x2 : Int) (x3 : Int) (x4 : Int) (x5 : Int) (u6 : AV) (u7 : AV) (σ : St) : Rx k_X4_bestLeans 0 [.inr (.inl (0, 0)), .inl x1, .inl x2, .inl x3, .inl x4, .inl x5, u6, u7] [] σ = (Rx k_X2_isThing 0 [.inr (.inl (7, 0)), .inl x1] [] σ).bind fun q => Rx k_X4_bestLeans 8 [.inr (.inl (0, 0)), .inl x1, .inl x2, .inl x3, .inl x4, .inl x5, u6, u7] (q.1.toList ++ []) q.2 := by
  refine (Rx_N (k := 3) (pc' := 5) (ls' := [.inr (.inl (0, 0)), .inl x1, .inl x2, .inl x3, .inl x4, .inl x5, u6, u7]) (st' := [.inl x1, .inr (.inl (7, 0))]) (σ' := σ) rfl).trans ?_
  exact Rx_call (n := 3) (y' := k_X2_isThing) (as := [.inr (.inl (7, 0)), .inl x1]) (rest := []) rfl rfl rfl
theorem b_X4_bestLeans_8 (x1 : Int) (x2 : Int) (x3 : Int) (x4 : Int) (x5 : Int) (u6 : AV) (u7 : AV) (s0 : Int) (σ : St) : Rx k_X4_bestLeans 8 [.inr (.inl (0, 0)), .inl x1, .inl x2, .inl x3, .inl x4, .inl x5, u6, u7] [.inl s0] σ = if s0 = 0 then Rx k_X4_bestLeans 48 [.inr (.inl (0, 0)), .inl x1, .inl x2, .inl x3, .inl x4, .inl x5, u6, u7] [] σ else Rx k_X4_bestLeans 11 [.inr (.inl (0, 0)), .inl x1, .inl x2, .inl x3, .inl x4, .inl x5, u6, u7] [] σ := by
  exact Rx_eq0 (k := 1) rfl
theorem b_X4_bestLeans_11 (x1 : Int) (x2 : Int) (x3 : Int) (x4 : Int) (x5 : Int) (u6 : AV) (u7 : AV) (σ : St) : Rx k_X4_bestLeans 11 [.inr (.inl (0, 0)), .inl x1, .inl x2, .inl x3, .inl x4, .inl x5, u6, u7] [] σ = (Rx k_X2_isThing 0 [.inr (.inl (7, 0)), .inl x2] [] σ).bind fun q => Rx k_X4_bestLeans 19 [.inr (.inl (0, 0)), .inl x1, .inl x2, .inl x3, .inl x4, .inl x5, u6, u7] (q.1.toList ++ []) q.2 := by
  refine (Rx_N (k := 3) (pc' := 16) (ls' := [.inr (.inl (0, 0)), .inl x1, .inl x2, .inl x3, .inl x4, .inl x5, u6, u7]) (st' := [.inl x2, .inr (.inl (7, 0))]) (σ' := σ) rfl).trans ?_
  exact Rx_call (n := 3) (y' := k_X2_isThing) (as := [.inr (.inl (7, 0)), .inl x2]) (rest := []) rfl rfl rfl
theorem b_X4_bestLeans_19 (x1 : Int) (x2 : Int) (x3 : Int) (x4 : Int) (x5 : Int) (u6 : AV) (u7 : AV) (s0 : Int) (σ : St) : Rx k_X4_bestLeans 19 [.inr (.inl (0, 0)), .inl x1, .inl x2, .inl x3, .inl x4, .inl x5, u6, u7] [.inl s0] σ = if s0 = 0 then Rx k_X4_bestLeans 48 [.inr (.inl (0, 0)), .inl x1, .inl x2, .inl x3, .inl x4, .inl x5, u6, u7] [] σ else Rx k_X4_bestLeans 22 [.inr (.inl (0, 0)), .inl x1, .inl x2, .inl x3, .inl x4, .inl x5, u6, u7] [] σ := by
  exact Rx_eq0 (k := 1) rfl
theorem b_X4_bestLeans_22 (x1 : Int) (x2 : Int) (x3 : Int) (x4 : Int) (x5 : Int) (u6 : AV) (u7 : AV) (σ : St) : Rx k_X4_bestLeans 22 [.inr (.inl (0, 0)), .inl x1, .inl x2, .inl x3, .inl x4, .inl x5, u6, u7] [] σ = (Rx k_X2_isThing 0 [.inr (.inl (7, 0)), .inl x3] [] σ).bind fun q => Rx k_X4_bestLeans 30 [.inr (.inl (0, 0)), .inl x1, .inl x2, .inl x3, .inl x4, .inl x5, u6, u7] (q.1.toList ++ []) q.2 := by
  refine (Rx_N (k := 3) (pc' := 27) (ls' := [.inr (.inl (0, 0)), .inl x1, .inl x2, .inl x3, .inl x4, .inl x5, u6, u7]) (st' := [.inl x3, .inr (.inl (7, 0))]) (σ' := σ) rfl).trans ?_
  exact Rx_call (n := 3) (y' := k_X2_isThing) (as := [.inr (.inl (7, 0)), .inl x3]) (rest := []) rfl rfl rfl
theorem b_X4_bestLeans_30 (x1 : Int) (x2 : Int) (x3 : Int) (x4 : Int) (x5 : Int) (u6 : AV) (u7 : AV) (s0 : Int) (σ : St) : Rx k_X4_bestLeans 30 [.inr (.inl (0, 0)), .inl x1, .inl x2, .inl x3, .inl x4, .inl x5, u6, u7] [.inl s0] σ = if s0 = 0 then Rx k_X4_bestLeans 48 [.inr (.inl (0, 0)), .inl x1, .inl x2, .inl x3, .inl x4, .inl x5, u6, u7] [] σ else Rx k_X4_bestLeans 33 [.inr (.inl (0, 0)), .inl x1, .inl x2, .inl x3, .inl x4, .inl x5, u6, u7] [] σ := by
  exact Rx_eq0 (k := 1) rfl
theorem b_X4_bestLeans_33 (x1 : Int) (x2 : Int) (x3 : Int) (x4 : Int) (x5 : Int) (u6 : AV) (u7 : AV) (σ : St) : Rx k_X4_bestLeans 33 [.inr (.inl (0, 0)), .inl x1, .inl x2, .inl x3, .inl x4, .inl x5, u6, u7] [] σ = if x1 = x2 then Rx k_X4_bestLeans 48 [.inr (.inl (0, 0)), .inl x1, .inl x2, .inl x3, .inl x4, .inl x5, u6, u7] [] σ else Rx k_X4_bestLeans 38 [.inr (.inl (0, 0)), .inl x1, .inl x2, .inl x3, .inl x4, .inl x5, u6, u7] [] σ := by
  exact Rx_eq0 (k := 3) rfl
theorem b_X4_bestLeans_38 (x1 : Int) (x2 : Int) (x3 : Int) (x4 : Int) (x5 : Int) (u6 : AV) (u7 : AV) (σ : St) : Rx k_X4_bestLeans 38 [.inr (.inl (0, 0)), .inl x1, .inl x2, .inl x3, .inl x4, .inl x5, u6, u7] [] σ = if x1 = x3 then Rx k_X4_bestLeans 48 [.inr (.inl (0, 0)), .inl x1, .inl x2, .inl x3, .inl x4, .inl x5, u6, u7] [] σ else Rx k_X4_bestLeans 43 [.inr (.inl (0, 0)), .inl x1, .inl x2, .inl x3, .inl x4, .inl x5, u6, u7] [] σ := by
  exact Rx_eq0 (k := 3) rfl
theorem b_X4_bestLeans_43 (x1 : Int) (x2 : Int) (x3 : Int) (x4 : Int) (x5 : Int) (u6 : AV) (u7 : AV) (σ : St) : Rx k_X4_bestLeans 43 [.inr (.inl (0, 0)), .inl x1, .inl x2, .inl x3, .inl x4, .inl x5, u6, u7] [] σ = if x2 = x3 then Rx k_X4_bestLeans 48 [.inr (.inl (0, 0)), .inl x1, .inl x2, .inl x3, .inl x4, .inl x5, u6, u7] [] σ else Rx k_X4_bestLeans 54 [.inr (.inl (0, 0)), .inl x1, .inl x2, .inl x3, .inl x4, .inl x5, u6, u7] [] σ := by
  exact Rx_ne0 (k := 3) rfl
theorem b_X4_bestLeans_48 (x1 : Int) (x2 : Int) (x3 : Int) (x4 : Int) (x5 : Int) (u6 : AV) (u7 : AV) (σ : St) : Rx k_X4_bestLeans 48 [.inr (.inl (0, 0)), .inl x1, .inl x2, .inl x3, .inl x4, .inl x5, u6, u7] [] σ = (Rx k_X4_refuse 0 [.inr (.inl (0, 0)), .inl 1] [] σ).bind fun q => Rx k_X4_bestLeans 53 [.inr (.inl (0, 0)), .inl x1, .inl x2, .inl x3, .inl x4, .inl x5, u6, u7] (q.1.toList ++ []) q.2 := by
  refine (Rx_N (k := 2) (pc' := 50) (ls' := [.inr (.inl (0, 0)), .inl x1, .inl x2, .inl x3, .inl x4, .inl x5, u6, u7]) (st' := [.inl 1, .inr (.inl (0, 0))]) (σ' := σ) rfl).trans ?_
  exact Rx_call (n := 3) (y' := k_X4_refuse) (as := [.inr (.inl (0, 0)), .inl 1]) (rest := []) rfl rfl rfl
theorem b_X4_bestLeans_53 (x1 : Int) (x2 : Int) (x3 : Int) (x4 : Int) (x5 : Int) (u6 : AV) (u7 : AV) (s0 : Int) (σ : St) : Rx k_X4_bestLeans 53 [.inr (.inl (0, 0)), .inl x1, .inl x2, .inl x3, .inl x4, .inl x5, u6, u7] [.inl s0] σ = some (some (.inl s0), σ) := by
  exact Rx_ret rfl rfl
theorem b_X4_bestLeans_54 (x1 : Int) (x2 : Int) (x3 : Int) (x4 : Int) (x5 : Int) (u6 : AV) (u7 : AV) (σ : St) : Rx k_X4_bestLeans 54 [.inr (.inl (0, 0)), .inl x1, .inl x2, .inl x3, .inl x4, .inl x5, u6, u7] [] σ = (Rx k_X4_outside 0 [.inl x4, .inl 0, .inl 20] [] σ).bind fun q => Rx k_X4_bestLeans 62 [.inr (.inl (0, 0)), .inl x1, .inl x2, .inl x3, .inl x4, .inl x5, u6, u7] (q.1.toList ++ []) q.2 := by
  refine (Rx_N (k := 3) (pc' := 59) (ls' := [.inr (.inl (0, 0)), .inl x1, .inl x2, .inl x3, .inl x4, .inl x5, u6, u7]) (st' := [.inl 20, .inl 0, .inl x4]) (σ' := σ) rfl).trans ?_
  exact Rx_call (n := 3) (y' := k_X4_outside) (as := [.inl x4, .inl 0, .inl 20]) (rest := []) rfl rfl rfl
theorem b_X4_bestLeans_62 (x1 : Int) (x2 : Int) (x3 : Int) (x4 : Int) (x5 : Int) (u6 : AV) (u7 : AV) (s0 : Int) (σ : St) : Rx k_X4_bestLeans 62 [.inr (.inl (0, 0)), .inl x1, .inl x2, .inl x3, .inl x4, .inl x5, u6, u7] [.inl s0] σ = if s0 = 0 then Rx k_X4_bestLeans 76 [.inr (.inl (0, 0)), .inl x1, .inl x2, .inl x3, .inl x4, .inl x5, .inl s0, u7] [] σ else Rx k_X4_bestLeans 69 [.inr (.inl (0, 0)), .inl x1, .inl x2, .inl x3, .inl x4, .inl x5, .inl s0, u7] [] σ := by
  exact Rx_eq0 (k := 3) rfl
theorem b_X4_bestLeans_69 (x1 : Int) (x2 : Int) (x3 : Int) (x4 : Int) (x5 : Int) (x6 : Int) (u7 : AV) (σ : St) : Rx k_X4_bestLeans 69 [.inr (.inl (0, 0)), .inl x1, .inl x2, .inl x3, .inl x4, .inl x5, .inl x6, u7] [] σ = (Rx k_X4_refuse 0 [.inr (.inl (0, 0)), .inl x6] [] σ).bind fun q => Rx k_X4_bestLeans 75 [.inr (.inl (0, 0)), .inl x1, .inl x2, .inl x3, .inl x4, .inl x5, .inl x6, u7] (q.1.toList ++ []) q.2 := by
  refine (Rx_N (k := 2) (pc' := 72) (ls' := [.inr (.inl (0, 0)), .inl x1, .inl x2, .inl x3, .inl x4, .inl x5, .inl x6, u7]) (st' := [.inl x6, .inr (.inl (0, 0))]) (σ' := σ) rfl).trans ?_
  exact Rx_call (n := 3) (y' := k_X4_refuse) (as := [.inr (.inl (0, 0)), .inl x6]) (rest := []) rfl rfl rfl
theorem b_X4_bestLeans_75 (x1 : Int) (x2 : Int) (x3 : Int) (x4 : Int) (x5 : Int) (x6 : Int) (u7 : AV) (s0 : Int) (σ : St) : Rx k_X4_bestLeans 75 [.inr (.inl (0, 0)), .inl x1, .inl x2, .inl x3, .inl x4, .inl x5, .inl x6, u7] [.inl s0] σ = some (some (.inl s0), σ) := by
  exact Rx_ret rfl rfl
theorem b_X4_bestLeans_76 (x1 : Int) (x2 : Int) (x3 : Int) (x4 : Int) (x5 : Int) (x6 : Int) (u7 : AV) (σ : St) : Rx k_X4_bestLeans 76 [.inr (.inl (0, 0)), .inl x1, .inl x2, .inl x3, .inl x4, .inl x5, .inl x6, u7] [] σ = (Rx k_X4_isNeither 0 [.inl x5] [] σ).bind fun q => Rx k_X4_bestLeans 81 [.inr (.inl (0, 0)), .inl x1, .inl x2, .inl x3, .inl x4, .inl x5, .inl x6, u7] (q.1.toList ++ []) q.2 := by
  refine (Rx_N (k := 1) (pc' := 78) (ls' := [.inr (.inl (0, 0)), .inl x1, .inl x2, .inl x3, .inl x4, .inl x5, .inl x6, u7]) (st' := [.inl x5]) (σ' := σ) rfl).trans ?_
  exact Rx_call (n := 3) (y' := k_X4_isNeither) (as := [.inl x5]) (rest := []) rfl rfl rfl
theorem b_X4_bestLeans_81 (x1 : Int) (x2 : Int) (x3 : Int) (x4 : Int) (x5 : Int) (x6 : Int) (u7 : AV) (s0 : Int) (σ : St) : Rx k_X4_bestLeans 81 [.inr (.inl (0, 0)), .inl x1, .inl x2, .inl x3, .inl x4, .inl x5, .inl x6, u7] [.inl s0] σ = if s0 = 0 then Rx k_X4_bestLeans 90 [.inr (.inl (0, 0)), .inl x1, .inl x2, .inl x3, .inl x4, .inl x5, .inl x6, u7] [] σ else Rx k_X4_bestLeans 84 [.inr (.inl (0, 0)), .inl x1, .inl x2, .inl x3, .inl x4, .inl x5, .inl x6, u7] [] σ := by
  exact Rx_eq0 (k := 1) rfl
theorem b_X4_bestLeans_84 (x1 : Int) (x2 : Int) (x3 : Int) (x4 : Int) (x5 : Int) (x6 : Int) (u7 : AV) (σ : St) : Rx k_X4_bestLeans 84 [.inr (.inl (0, 0)), .inl x1, .inl x2, .inl x3, .inl x4, .inl x5, .inl x6, u7] [] σ = (Rx k_X4_refuse 0 [.inr (.inl (0, 0)), .inl 2] [] σ).bind fun q => Rx k_X4_bestLeans 89 [.inr (.inl (0, 0)), .inl x1, .inl x2, .inl x3, .inl x4, .inl x5, .inl x6, u7] (q.1.toList ++ []) q.2 := by
  refine (Rx_N (k := 2) (pc' := 86) (ls' := [.inr (.inl (0, 0)), .inl x1, .inl x2, .inl x3, .inl x4, .inl x5, .inl x6, u7]) (st' := [.inl 2, .inr (.inl (0, 0))]) (σ' := σ) rfl).trans ?_
  exact Rx_call (n := 3) (y' := k_X4_refuse) (as := [.inr (.inl (0, 0)), .inl 2]) (rest := []) rfl rfl rfl
theorem b_X4_bestLeans_89 (x1 : Int) (x2 : Int) (x3 : Int) (x4 : Int) (x5 : Int) (x6 : Int) (u7 : AV) (s0 : Int) (σ : St) : Rx k_X4_bestLeans 89 [.inr (.inl (0, 0)), .inl x1, .inl x2, .inl x3, .inl x4, .inl x5, .inl x6, u7] [.inl s0] σ = some (some (.inl s0), σ) := by
  exact Rx_ret rfl rfl
theorem b_X4_bestLeans_90 (x1 : Int) (x2 : Int) (x3 : Int) (x4 : Int) (x5 : Int) (x6 : Int) (u7 : AV) (σ : St) : Rx k_X4_bestLeans 90 [.inr (.inl (0, 0)), .inl x1, .inl x2, .inl x3, .inl x4, .inl x5, .inl x6, u7] [] σ = (Rx k_X1_bestOfThree 0 [.inr (.inl (1, 0)), .inl x1, .inl x2, .inl x3, .inl x4, uns, uns, uns, uns, uns, uns, uns] [] σ).bind fun q => Rx k_X4_bestLeans 102 [.inr (.inl (0, 0)), .inl x1, .inl x2, .inl x3, .inl x4, .inl x5, .inl x6, u7] (q.1.toList ++ []) q.2 := by
  refine (Rx_N (k := 6) (pc' := 99) (ls' := [.inr (.inl (0, 0)), .inl x1, .inl x2, .inl x3, .inl x4, .inl x5, .inl x6, u7]) (st' := [.inl x4, .inl x3, .inl x2, .inl x1, .inr (.inl (1, 0))]) (σ' := σ) rfl).trans ?_
  exact Rx_call (n := 3) (y' := k_X1_bestOfThree) (as := [.inr (.inl (1, 0)), .inl x1, .inl x2, .inl x3, .inl x4]) (rest := []) rfl rfl rfl
theorem b_X4_bestLeans_102 (x1 : Int) (x2 : Int) (x3 : Int) (x4 : Int) (x5 : Int) (x6 : Int) (u7 : AV) (s0 : Int) (σ : St) : Rx k_X4_bestLeans 102 [.inr (.inl (0, 0)), .inl x1, .inl x2, .inl x3, .inl x4, .inl x5, .inl x6, u7] [.inl s0] σ = if x5 = 0 then Rx k_X4_bestLeans 116 [.inr (.inl (0, 0)), .inl x1, .inl x2, .inl x3, .inl x4, .inl x5, .inl x6, .inl s0] [] σ else Rx k_X4_bestLeans 109 [.inr (.inl (0, 0)), .inl x1, .inl x2, .inl x3, .inl x4, .inl x5, .inl x6, .inl s0] [] σ := by
  exact Rx_eq0 (k := 3) rfl
theorem b_X4_bestLeans_109 (x1 : Int) (x2 : Int) (x3 : Int) (x4 : Int) (x5 : Int) (x6 : Int) (x7 : Int) (σ : St) : Rx k_X4_bestLeans 109 [.inr (.inl (0, 0)), .inl x1, .inl x2, .inl x3, .inl x4, .inl x5, .inl x6, .inl x7] [] σ = if x7 = (-9) then Rx k_X4_bestLeans 116 [.inr (.inl (0, 0)), .inl x1, .inl x2, .inl x3, .inl x4, .inl x5, .inl x6, .inl x7] [] σ else Rx k_X4_bestLeans 119 [.inr (.inl (0, 0)), .inl x1, .inl x2, .inl x3, .inl x4, .inl x5, .inl x6, .inl x7] [] σ := by
  exact Rx_ne0 (k := 3) rfl
theorem b_X4_bestLeans_116 (x1 : Int) (x2 : Int) (x3 : Int) (x4 : Int) (x5 : Int) (x6 : Int) (x7 : Int) (σ : St) : Rx k_X4_bestLeans 116 [.inr (.inl (0, 0)), .inl x1, .inl x2, .inl x3, .inl x4, .inl x5, .inl x6, .inl x7] [] σ = some (some (.inl x7), σ) := by
  refine (Rx_N (k := 1) (pc' := 118) (ls' := [.inr (.inl (0, 0)), .inl x1, .inl x2, .inl x3, .inl x4, .inl x5, .inl x6, .inl x7]) (st' := [.inl x7]) (σ' := σ) rfl).trans ?_
  exact Rx_ret rfl rfl
theorem b_X4_bestLeans_119 (x1 : Int) (x2 : Int) (x3 : Int) (x4 : Int) (x5 : Int) (x6 : Int) (x7 : Int) (σ : St) : Rx k_X4_bestLeans 119 [.inr (.inl (0, 0)), .inl x1, .inl x2, .inl x3, .inl x4, .inl x5, .inl x6, .inl x7] [] σ = (Rx k_X1_standingLeant 0 [.inr (.inl (1, 0)), .inl x1, .inl x2, .inl x3, .inl x7, .inl x4] [] σ).bind fun q => Rx k_X4_bestLeans 133 [.inr (.inl (0, 0)), .inl x1, .inl x2, .inl x3, .inl x4, .inl x5, .inl x6, .inl x7] (q.1.toList ++ []) q.2 := by
  refine (Rx_N (k := 7) (pc' := 130) (ls' := [.inr (.inl (0, 0)), .inl x1, .inl x2, .inl x3, .inl x4, .inl x5, .inl x6, .inl x7]) (st' := [.inl x4, .inl x7, .inl x3, .inl x2, .inl x1, .inr (.inl (1, 0))]) (σ' := σ) rfl).trans ?_
  exact Rx_call (n := 3) (y' := k_X1_standingLeant) (as := [.inr (.inl (1, 0)), .inl x1, .inl x2, .inl x3, .inl x7, .inl x4]) (rest := []) rfl rfl rfl
theorem b_X4_bestLeans_133 (x1 : Int) (x2 : Int) (x3 : Int) (x4 : Int) (x5 : Int) (x6 : Int) (x7 : Int) (s0 : Int) (σ : St) : Rx k_X4_bestLeans 133 [.inr (.inl (0, 0)), .inl x1, .inl x2, .inl x3, .inl x4, .inl x5, .inl x6, .inl x7] [.inl s0] σ = some (some (.inl s0), σ) := by
  exact Rx_ret rfl rfl
theorem b_X4_mended_0 (x1 : Int) (u2 : AV) (σ : St) : Rx k_X4_mended 0 [.inr (.inl (0, 0)), .inl x1, u2] [] σ = (Rx k_X4_outside 0 [.inl x1, .inl 0, .inl 99] [] σ).bind fun q => Rx k_X4_mended 7 [.inr (.inl (0, 0)), .inl x1, u2] (q.1.toList ++ []) q.2 := by
  refine (Rx_N (k := 3) (pc' := 4) (ls' := [.inr (.inl (0, 0)), .inl x1, u2]) (st' := [.inl 99, .inl 0, .inl x1]) (σ' := σ) rfl).trans ?_
  exact Rx_call (n := 3) (y' := k_X4_outside) (as := [.inl x1, .inl 0, .inl 99]) (rest := []) rfl rfl rfl
theorem b_X4_mended_7 (x1 : Int) (u2 : AV) (s0 : Int) (σ : St) : Rx k_X4_mended 7 [.inr (.inl (0, 0)), .inl x1, u2] [.inl s0] σ = if s0 = 0 then Rx k_X4_mended 20 [.inr (.inl (0, 0)), .inl x1, .inl s0] [] σ else Rx k_X4_mended 12 [.inr (.inl (0, 0)), .inl x1, .inl s0] [] σ := by
  exact Rx_eq0 (k := 3) rfl
theorem b_X4_mended_12 (x1 : Int) (x2 : Int) (σ : St) : Rx k_X4_mended 12 [.inr (.inl (0, 0)), .inl x1, .inl x2] [] σ = (Rx k_X4_refuse 0 [.inr (.inl (0, 0)), .inl x2] [] σ).bind fun q => Rx k_X4_mended 17 [.inr (.inl (0, 0)), .inl x1, .inl x2] (q.1.toList ++ []) q.2 := by
  refine (Rx_N (k := 2) (pc' := 14) (ls' := [.inr (.inl (0, 0)), .inl x1, .inl x2]) (st' := [.inl x2, .inr (.inl (0, 0))]) (σ' := σ) rfl).trans ?_
  exact Rx_call (n := 3) (y' := k_X4_refuse) (as := [.inr (.inl (0, 0)), .inl x2]) (rest := []) rfl rfl rfl
theorem b_X4_mended_17 (x1 : Int) (x2 : Int) (s0 : Int) (σ : St) : Rx k_X4_mended 17 [.inr (.inl (0, 0)), .inl x1, .inl x2] [.inl s0] σ = some (some (.inl s0), σ) := by
  refine (Rx_N (k := 1) (pc' := 28) (ls' := [.inr (.inl (0, 0)), .inl x1, .inl x2]) (st' := [.inl s0]) (σ' := σ) rfl).trans ?_
  exact Rx_ret rfl rfl
theorem b_X4_mended_20 (x1 : Int) (x2 : Int) (σ : St) : Rx k_X4_mended 20 [.inr (.inl (0, 0)), .inl x1, .inl x2] [] σ = (Rx k_X1_toMend 0 [.inr (.inl (1, 0)), .inl x1, uns, uns, uns, uns] [] σ).bind fun q => Rx k_X4_mended 28 [.inr (.inl (0, 0)), .inl x1, .inl x2] (q.1.toList ++ []) q.2 := by
  refine (Rx_N (k := 3) (pc' := 25) (ls' := [.inr (.inl (0, 0)), .inl x1, .inl x2]) (st' := [.inl x1, .inr (.inl (1, 0))]) (σ' := σ) rfl).trans ?_
  exact Rx_call (n := 3) (y' := k_X1_toMend) (as := [.inr (.inl (1, 0)), .inl x1]) (rest := []) rfl rfl rfl
theorem b_X4_mended_28 (x1 : Int) (x2 : Int) (s0 : Int) (σ : St) : Rx k_X4_mended 28 [.inr (.inl (0, 0)), .inl x1, .inl x2] [.inl s0] σ = some (some (.inl s0), σ) := by
  exact Rx_ret rfl rfl
theorem b_X4_key_0 (x1 : Int) (u2 : AV) (σ : St) : Rx k_X4_key 0 [.inr (.inl (0, 0)), .inl x1, u2] [] σ = (Rx k_X4_outside 0 [.inl x1, .inl 0, .inl 99] [] σ).bind fun q => Rx k_X4_key 7 [.inr (.inl (0, 0)), .inl x1, u2] (q.1.toList ++ []) q.2 := by
  refine (Rx_N (k := 3) (pc' := 4) (ls' := [.inr (.inl (0, 0)), .inl x1, u2]) (st' := [.inl 99, .inl 0, .inl x1]) (σ' := σ) rfl).trans ?_
  exact Rx_call (n := 3) (y' := k_X4_outside) (as := [.inl x1, .inl 0, .inl 99]) (rest := []) rfl rfl rfl
theorem b_X4_key_7 (x1 : Int) (u2 : AV) (s0 : Int) (σ : St) : Rx k_X4_key 7 [.inr (.inl (0, 0)), .inl x1, u2] [.inl s0] σ = if s0 = 0 then Rx k_X4_key 20 [.inr (.inl (0, 0)), .inl x1, .inl s0] [] σ else Rx k_X4_key 12 [.inr (.inl (0, 0)), .inl x1, .inl s0] [] σ := by
  exact Rx_eq0 (k := 3) rfl
theorem b_X4_key_12 (x1 : Int) (x2 : Int) (σ : St) : Rx k_X4_key 12 [.inr (.inl (0, 0)), .inl x1, .inl x2] [] σ = (Rx k_X4_refuse 0 [.inr (.inl (0, 0)), .inl x2] [] σ).bind fun q => Rx k_X4_key 17 [.inr (.inl (0, 0)), .inl x1, .inl x2] (q.1.toList ++ []) q.2 := by
  refine (Rx_N (k := 2) (pc' := 14) (ls' := [.inr (.inl (0, 0)), .inl x1, .inl x2]) (st' := [.inl x2, .inr (.inl (0, 0))]) (σ' := σ) rfl).trans ?_
  exact Rx_call (n := 3) (y' := k_X4_refuse) (as := [.inr (.inl (0, 0)), .inl x2]) (rest := []) rfl rfl rfl
theorem b_X4_key_17 (x1 : Int) (x2 : Int) (s0 : Int) (σ : St) : Rx k_X4_key 17 [.inr (.inl (0, 0)), .inl x1, .inl x2] [.inl s0] σ = some (some (.inl s0), σ) := by
  refine (Rx_N (k := 1) (pc' := 28) (ls' := [.inr (.inl (0, 0)), .inl x1, .inl x2]) (st' := [.inl s0]) (σ' := σ) rfl).trans ?_
  exact Rx_ret rfl rfl
theorem b_X4_key_20 (x1 : Int) (x2 : Int) (σ : St) : Rx k_X4_key 20 [.inr (.inl (0, 0)), .inl x1, .inl x2] [] σ = (Rx k_X1_toBreak 0 [.inr (.inl (1, 0)), .inl x1, uns, uns, uns, uns] [] σ).bind fun q => Rx k_X4_key 28 [.inr (.inl (0, 0)), .inl x1, .inl x2] (q.1.toList ++ []) q.2 := by
  refine (Rx_N (k := 3) (pc' := 25) (ls' := [.inr (.inl (0, 0)), .inl x1, .inl x2]) (st' := [.inl x1, .inr (.inl (1, 0))]) (σ' := σ) rfl).trans ?_
  exact Rx_call (n := 3) (y' := k_X1_toBreak) (as := [.inr (.inl (1, 0)), .inl x1]) (rest := []) rfl rfl rfl
theorem b_X4_key_28 (x1 : Int) (x2 : Int) (s0 : Int) (σ : St) : Rx k_X4_key 28 [.inr (.inl (0, 0)), .inl x1, .inl x2] [.inl s0] σ = some (some (.inl s0), σ) := by
  exact Rx_ret rfl rfl
theorem b_X4_takes_0 (x1 : Int) (x2 : Int) (u3 : AV) (u4 : AV) (σ : St) : Rx k_X4_takes 0 [.inr (.inl (0, 0)), .inl x1, .inl x2, u3, u4] [] σ = (Rx k_X2_isPurpose 0 [.inr (.inl (7, 0)), .inl x1] [] σ).bind fun q => Rx k_X4_takes 8 [.inr (.inl (0, 0)), .inl x1, .inl x2, u3, u4] (q.1.toList ++ []) q.2 := by
  refine (Rx_N (k := 3) (pc' := 5) (ls' := [.inr (.inl (0, 0)), .inl x1, .inl x2, u3, u4]) (st' := [.inl x1, .inr (.inl (7, 0))]) (σ' := σ) rfl).trans ?_
  exact Rx_call (n := 3) (y' := k_X2_isPurpose) (as := [.inr (.inl (7, 0)), .inl x1]) (rest := []) rfl rfl rfl
theorem b_X4_takes_8 (x1 : Int) (x2 : Int) (u3 : AV) (u4 : AV) (s0 : Int) (σ : St) : Rx k_X4_takes 8 [.inr (.inl (0, 0)), .inl x1, .inl x2, u3, u4] [.inl s0] σ = if s0 = 0 then Rx k_X4_takes 21 [.inr (.inl (0, 0)), .inl x1, .inl x2, u3, u4] [] σ else Rx k_X4_takes 11 [.inr (.inl (0, 0)), .inl x1, .inl x2, u3, u4] [] σ := by
  exact Rx_eq0 (k := 1) rfl
theorem b_X4_takes_11 (x1 : Int) (x2 : Int) (u3 : AV) (u4 : AV) (σ : St) : Rx k_X4_takes 11 [.inr (.inl (0, 0)), .inl x1, .inl x2, u3, u4] [] σ = (Rx k_X4_outside 0 [.inl x2, .inl 0, .inl 99] [] σ).bind fun q => Rx k_X4_takes 18 [.inr (.inl (0, 0)), .inl x1, .inl x2, u3, u4] (q.1.toList ++ []) q.2 := by
  refine (Rx_N (k := 3) (pc' := 15) (ls' := [.inr (.inl (0, 0)), .inl x1, .inl x2, u3, u4]) (st' := [.inl 99, .inl 0, .inl x2]) (σ' := σ) rfl).trans ?_
  exact Rx_call (n := 3) (y' := k_X4_outside) (as := [.inl x2, .inl 0, .inl 99]) (rest := []) rfl rfl rfl
theorem b_X4_takes_18 (x1 : Int) (x2 : Int) (u3 : AV) (u4 : AV) (s0 : Int) (σ : St) : Rx k_X4_takes 18 [.inr (.inl (0, 0)), .inl x1, .inl x2, u3, u4] [.inl s0] σ = if s0 = 0 then Rx k_X4_takes 33 [.inr (.inl (0, 0)), .inl x1, .inl x2, .inl s0, u4] [] σ else Rx k_X4_takes 27 [.inr (.inl (0, 0)), .inl x1, .inl x2, .inl s0, u4] [] σ := by
  exact Rx_eq0 (k := 4) rfl
theorem b_X4_takes_21 (x1 : Int) (x2 : Int) (u3 : AV) (u4 : AV) (σ : St) : Rx k_X4_takes 21 [.inr (.inl (0, 0)), .inl x1, .inl x2, u3, u4] [] σ = if (1 : Int) = (0 : Int) then Rx k_X4_takes 33 [.inr (.inl (0, 0)), .inl x1, .inl x2, .inl 1, u4] [] σ else Rx k_X4_takes 27 [.inr (.inl (0, 0)), .inl x1, .inl x2, .inl 1, u4] [] σ := by
  exact Rx_eq0 (k := 4) rfl
theorem b_X4_takes_27 (x1 : Int) (x2 : Int) (x3 : Int) (u4 : AV) (σ : St) : Rx k_X4_takes 27 [.inr (.inl (0, 0)), .inl x1, .inl x2, .inl x3, u4] [] σ = (Rx k_X4_refuse 0 [.inr (.inl (0, 0)), .inl x3] [] σ).bind fun q => Rx k_X4_takes 32 [.inr (.inl (0, 0)), .inl x1, .inl x2, .inl x3, u4] (q.1.toList ++ []) q.2 := by
  refine (Rx_N (k := 2) (pc' := 29) (ls' := [.inr (.inl (0, 0)), .inl x1, .inl x2, .inl x3, u4]) (st' := [.inl x3, .inr (.inl (0, 0))]) (σ' := σ) rfl).trans ?_
  exact Rx_call (n := 3) (y' := k_X4_refuse) (as := [.inr (.inl (0, 0)), .inl x3]) (rest := []) rfl rfl rfl
theorem b_X4_takes_32 (x1 : Int) (x2 : Int) (x3 : Int) (u4 : AV) (s0 : Int) (σ : St) : Rx k_X4_takes 32 [.inr (.inl (0, 0)), .inl x1, .inl x2, .inl x3, u4] [.inl s0] σ = some (some (.inl s0), σ) := by
  exact Rx_ret rfl rfl
theorem b_X4_takes_33 (x1 : Int) (x2 : Int) (x3 : Int) (u4 : AV) (σ : St) : Rx k_X4_takes 33 [.inr (.inl (0, 0)), .inl x1, .inl x2, .inl x3, u4] [] σ = (Rx k_X1_behind 0 [.inr (.inl (1, 0)), .inl x2] [] σ).bind fun q => Rx k_X4_takes 41 [.inr (.inl (0, 0)), .inl x1, .inl x2, .inl x3, u4] (q.1.toList ++ []) q.2 := by
  refine (Rx_N (k := 3) (pc' := 38) (ls' := [.inr (.inl (0, 0)), .inl x1, .inl x2, .inl x3, u4]) (st' := [.inl x2, .inr (.inl (1, 0))]) (σ' := σ) rfl).trans ?_
  exact Rx_call (n := 3) (y' := k_X1_behind) (as := [.inr (.inl (1, 0)), .inl x2]) (rest := []) rfl rfl rfl
theorem b_X4_takes_41 (x1 : Int) (x2 : Int) (x3 : Int) (u4 : AV) (q0 : Nat) (σ : St) : Rx k_X4_takes 41 [.inr (.inl (0, 0)), .inl x1, .inl x2, .inl x3, u4] [.inr (.inl (7, q0))] σ = (Rx k_X2_spareOf 0 [.inr (.inl (7, q0)), .inl x1] [] σ).bind fun q => Rx k_X4_takes 45 [.inr (.inl (0, 0)), .inl x1, .inl x2, .inl x3, u4] (q.1.toList ++ []) q.2 := by
  refine (Rx_N (k := 1) (pc' := 42) (ls' := [.inr (.inl (0, 0)), .inl x1, .inl x2, .inl x3, u4]) (st' := [.inl x1, .inr (.inl (7, q0))]) (σ' := σ) rfl).trans ?_
  exact Rx_call (n := 3) (y' := k_X2_spareOf) (as := [.inr (.inl (7, q0)), .inl x1]) (rest := []) rfl rfl rfl
theorem b_X4_takes_45 (x1 : Int) (x2 : Int) (x3 : Int) (u4 : AV) (s0 : Int) (σ : St) : Rx k_X4_takes 45 [.inr (.inl (0, 0)), .inl x1, .inl x2, .inl x3, u4] [.inl s0] σ = if s0 < 0 then Rx k_X4_takes 52 [.inr (.inl (0, 0)), .inl x1, .inl x2, .inl x3, .inl s0] [] σ else Rx k_X4_takes 57 [.inr (.inl (0, 0)), .inl x1, .inl x2, .inl x3, .inl s0] [] σ := by
  exact Rx_ge0 (k := 3) rfl
theorem b_X4_takes_52 (x1 : Int) (x2 : Int) (x3 : Int) (x4 : Int) (σ : St) : Rx k_X4_takes 52 [.inr (.inl (0, 0)), .inl x1, .inl x2, .inl x3, .inl x4] [] σ = some (some (.inl (-9)), σ) := by
  refine (Rx_N (k := 2) (pc' := 64) (ls' := [.inr (.inl (0, 0)), .inl x1, .inl x2, .inl x3, .inl x4]) (st' := [.inl (-9)]) (σ' := σ) rfl).trans ?_
  exact Rx_ret rfl rfl
theorem b_X4_takes_57 (x1 : Int) (x2 : Int) (x3 : Int) (x4 : Int) (σ : St) : Rx k_X4_takes 57 [.inr (.inl (0, 0)), .inl x1, .inl x2, .inl x3, .inl x4] [] σ = some (some (.inl (if (9 : Int) < x4 then 9 else x4)), σ) := by
  refine (Rx_N (k := 3) (pc' := 64) (ls' := [.inr (.inl (0, 0)), .inl x1, .inl x2, .inl x3, .inl x4]) (st' := [.inl (if (9 : Int) < x4 then 9 else x4)]) (σ' := σ) rfl).trans ?_
  exact Rx_ret rfl rfl
theorem b_X4_balanced_0 (x1 : Int) (x2 : Int) (u3 : AV) (σ : St) : Rx k_X4_balanced 0 [.inr (.inl (0, 0)), .inl x1, .inl x2, u3] [] σ = (Rx k_X2_isPurpose 0 [.inr (.inl (7, 0)), .inl x1] [] σ).bind fun q => Rx k_X4_balanced 8 [.inr (.inl (0, 0)), .inl x1, .inl x2, u3] (q.1.toList ++ []) q.2 := by
  refine (Rx_N (k := 3) (pc' := 5) (ls' := [.inr (.inl (0, 0)), .inl x1, .inl x2, u3]) (st' := [.inl x1, .inr (.inl (7, 0))]) (σ' := σ) rfl).trans ?_
  exact Rx_call (n := 3) (y' := k_X2_isPurpose) (as := [.inr (.inl (7, 0)), .inl x1]) (rest := []) rfl rfl rfl
theorem b_X4_balanced_8 (x1 : Int) (x2 : Int) (u3 : AV) (s0 : Int) (σ : St) : Rx k_X4_balanced 8 [.inr (.inl (0, 0)), .inl x1, .inl x2, u3] [.inl s0] σ = if s0 = 0 then Rx k_X4_balanced 11 [.inr (.inl (0, 0)), .inl x1, .inl x2, u3] [] σ else Rx k_X4_balanced 17 [.inr (.inl (0, 0)), .inl x1, .inl x2, u3] [] σ := by
  exact Rx_ne0 (k := 1) rfl
theorem b_X4_balanced_11 (x1 : Int) (x2 : Int) (u3 : AV) (σ : St) : Rx k_X4_balanced 11 [.inr (.inl (0, 0)), .inl x1, .inl x2, u3] [] σ = (Rx k_X4_refuse 0 [.inr (.inl (0, 0)), .inl 1] [] σ).bind fun q => Rx k_X4_balanced 16 [.inr (.inl (0, 0)), .inl x1, .inl x2, u3] (q.1.toList ++ []) q.2 := by
  refine (Rx_N (k := 2) (pc' := 13) (ls' := [.inr (.inl (0, 0)), .inl x1, .inl x2, u3]) (st' := [.inl 1, .inr (.inl (0, 0))]) (σ' := σ) rfl).trans ?_
  exact Rx_call (n := 3) (y' := k_X4_refuse) (as := [.inr (.inl (0, 0)), .inl 1]) (rest := []) rfl rfl rfl
theorem b_X4_balanced_16 (x1 : Int) (x2 : Int) (u3 : AV) (s0 : Int) (σ : St) : Rx k_X4_balanced 16 [.inr (.inl (0, 0)), .inl x1, .inl x2, u3] [.inl s0] σ = some (some (.inl s0), σ) := by
  exact Rx_ret rfl rfl
theorem b_X4_balanced_17 (x1 : Int) (x2 : Int) (u3 : AV) (σ : St) : Rx k_X4_balanced 17 [.inr (.inl (0, 0)), .inl x1, .inl x2, u3] [] σ = (Rx k_X4_isNeither 0 [.inl x2] [] σ).bind fun q => Rx k_X4_balanced 21 [.inr (.inl (0, 0)), .inl x1, .inl x2, u3] (q.1.toList ++ []) q.2 := by
  refine (Rx_N (k := 1) (pc' := 18) (ls' := [.inr (.inl (0, 0)), .inl x1, .inl x2, u3]) (st' := [.inl x2]) (σ' := σ) rfl).trans ?_
  exact Rx_call (n := 3) (y' := k_X4_isNeither) (as := [.inl x2]) (rest := []) rfl rfl rfl
theorem b_X4_balanced_21 (x1 : Int) (x2 : Int) (u3 : AV) (s0 : Int) (σ : St) : Rx k_X4_balanced 21 [.inr (.inl (0, 0)), .inl x1, .inl x2, u3] [.inl s0] σ = if s0 = 0 then Rx k_X4_balanced 30 [.inr (.inl (0, 0)), .inl x1, .inl x2, u3] [] σ else Rx k_X4_balanced 24 [.inr (.inl (0, 0)), .inl x1, .inl x2, u3] [] σ := by
  exact Rx_eq0 (k := 1) rfl
theorem b_X4_balanced_24 (x1 : Int) (x2 : Int) (u3 : AV) (σ : St) : Rx k_X4_balanced 24 [.inr (.inl (0, 0)), .inl x1, .inl x2, u3] [] σ = (Rx k_X4_refuse 0 [.inr (.inl (0, 0)), .inl 2] [] σ).bind fun q => Rx k_X4_balanced 29 [.inr (.inl (0, 0)), .inl x1, .inl x2, u3] (q.1.toList ++ []) q.2 := by
  refine (Rx_N (k := 2) (pc' := 26) (ls' := [.inr (.inl (0, 0)), .inl x1, .inl x2, u3]) (st' := [.inl 2, .inr (.inl (0, 0))]) (σ' := σ) rfl).trans ?_
  exact Rx_call (n := 3) (y' := k_X4_refuse) (as := [.inr (.inl (0, 0)), .inl 2]) (rest := []) rfl rfl rfl
theorem b_X4_balanced_29 (x1 : Int) (x2 : Int) (u3 : AV) (s0 : Int) (σ : St) : Rx k_X4_balanced 29 [.inr (.inl (0, 0)), .inl x1, .inl x2, u3] [.inl s0] σ = some (some (.inl s0), σ) := by
  exact Rx_ret rfl rfl
theorem b_X4_balanced_30 (x1 : Int) (x2 : Int) (u3 : AV) (σ : St) (h0 : 0 ≤ x1) (h1 : x1 < 5) : Rx k_X4_balanced 30 [.inr (.inl (0, 0)), .inl x1, .inl x2, u3] [] σ = (Rx k_X2_mostWithin 0 [.inr (.inl (7, 0)), .inl (σ 10 0 x1.toNat), uns, uns, uns] [] σ).bind fun q => Rx k_X4_balanced 46 [.inr (.inl (0, 0)), .inl x1, .inl x2, u3] (q.1.toList ++ []) q.2 := by
  refine (Rx_N (k := 6) (pc' := 42) (ls' := [.inr (.inl (0, 0)), .inl x1, .inl x2, u3]) (st' := [.inl x1, .inr (.inl (10, 0)), .inr (.inl (7, 0))]) (σ' := σ) rfl).trans ?_
  refine (Rx_ild 5 rfl rfl rfl h0 h1).trans ?_
  exact Rx_call (n := 3) (y' := k_X2_mostWithin) (as := [.inr (.inl (7, 0)), .inl (σ 10 0 x1.toNat)]) (rest := []) rfl rfl rfl
theorem b_X4_balanced_46 (x1 : Int) (x2 : Int) (u3 : AV) (s0 : Int) (σ : St) : Rx k_X4_balanced 46 [.inr (.inl (0, 0)), .inl x1, .inl x2, u3] [.inl s0] σ = if x2 = 0 then Rx k_X4_balanced 51 [.inr (.inl (0, 0)), .inl x1, .inl x2, .inl s0] [] σ else Rx k_X4_balanced 55 [.inr (.inl (0, 0)), .inl x1, .inl x2, .inl s0] [] σ := by
  exact Rx_ne0 (k := 3) rfl
theorem b_X4_balanced_51 (x1 : Int) (x2 : Int) (x3 : Int) (σ : St) : Rx k_X4_balanced 51 [.inr (.inl (0, 0)), .inl x1, .inl x2, .inl x3] [] σ = some (some (.inl x3), σ) := by
  refine (Rx_N (k := 2) (pc' := 59) (ls' := [.inr (.inl (0, 0)), .inl x1, .inl x2, .inl x3]) (st' := [.inl x3]) (σ' := σ) rfl).trans ?_
  exact Rx_ret rfl rfl
theorem b_X4_balanced_55 (x1 : Int) (x2 : Int) (x3 : Int) (σ : St) : Rx k_X4_balanced 55 [.inr (.inl (0, 0)), .inl x1, .inl x2, .inl x3] [] σ = (Rx k_J6_bitCount_0f7a4 0 [.inl x3] [] σ).bind fun q => Rx k_X4_balanced 59 [.inr (.inl (0, 0)), .inl x1, .inl x2, .inl x3] (q.1.toList ++ []) q.2 := by
  refine (Rx_N (k := 1) (pc' := 56) (ls' := [.inr (.inl (0, 0)), .inl x1, .inl x2, .inl x3]) (st' := [.inl x3]) (σ' := σ) rfl).trans ?_
  exact Rx_call (n := 3) (y' := k_J6_bitCount_0f7a4) (as := [.inl x3]) (rest := []) rfl rfl rfl
theorem b_X4_balanced_59 (x1 : Int) (x2 : Int) (x3 : Int) (s0 : Int) (σ : St) : Rx k_X4_balanced 59 [.inr (.inl (0, 0)), .inl x1, .inl x2, .inl x3] [.inl s0] σ = some (some (.inl s0), σ) := by
  exact Rx_ret rfl rfl
theorem b_X4_thief_0 (x1 : Int) (u2 : AV) (σ : St) : Rx k_X4_thief 0 [.inr (.inl (0, 0)), .inl x1, u2] [] σ = (Rx k_X4_outside 0 [.inl x1, .inl 0, .inl 99] [] σ).bind fun q => Rx k_X4_thief 7 [.inr (.inl (0, 0)), .inl x1, u2] (q.1.toList ++ []) q.2 := by
  refine (Rx_N (k := 3) (pc' := 4) (ls' := [.inr (.inl (0, 0)), .inl x1, u2]) (st' := [.inl 99, .inl 0, .inl x1]) (σ' := σ) rfl).trans ?_
  exact Rx_call (n := 3) (y' := k_X4_outside) (as := [.inl x1, .inl 0, .inl 99]) (rest := []) rfl rfl rfl
theorem b_X4_thief_7 (x1 : Int) (u2 : AV) (s0 : Int) (σ : St) : Rx k_X4_thief 7 [.inr (.inl (0, 0)), .inl x1, u2] [.inl s0] σ = if s0 = 0 then Rx k_X4_thief 20 [.inr (.inl (0, 0)), .inl x1, .inl s0] [] σ else Rx k_X4_thief 12 [.inr (.inl (0, 0)), .inl x1, .inl s0] [] σ := by
  exact Rx_eq0 (k := 3) rfl
theorem b_X4_thief_12 (x1 : Int) (x2 : Int) (σ : St) : Rx k_X4_thief 12 [.inr (.inl (0, 0)), .inl x1, .inl x2] [] σ = (Rx k_X4_refuse 0 [.inr (.inl (0, 0)), .inl x2] [] σ).bind fun q => Rx k_X4_thief 17 [.inr (.inl (0, 0)), .inl x1, .inl x2] (q.1.toList ++ []) q.2 := by
  refine (Rx_N (k := 2) (pc' := 14) (ls' := [.inr (.inl (0, 0)), .inl x1, .inl x2]) (st' := [.inl x2, .inr (.inl (0, 0))]) (σ' := σ) rfl).trans ?_
  exact Rx_call (n := 3) (y' := k_X4_refuse) (as := [.inr (.inl (0, 0)), .inl x2]) (rest := []) rfl rfl rfl
theorem b_X4_thief_17 (x1 : Int) (x2 : Int) (s0 : Int) (σ : St) : Rx k_X4_thief 17 [.inr (.inl (0, 0)), .inl x1, .inl x2] [.inl s0] σ = some (some (.inl s0), σ) := by
  refine (Rx_N (k := 1) (pc' := 28) (ls' := [.inr (.inl (0, 0)), .inl x1, .inl x2]) (st' := [.inl s0]) (σ' := σ) rfl).trans ?_
  exact Rx_ret rfl rfl
theorem b_X4_thief_20 (x1 : Int) (x2 : Int) (σ : St) : Rx k_X4_thief 20 [.inr (.inl (0, 0)), .inl x1, .inl x2] [] σ = (Rx k_X1_standingRobbed 0 [.inr (.inl (1, 0)), .inl x1, uns] [] σ).bind fun q => Rx k_X4_thief 28 [.inr (.inl (0, 0)), .inl x1, .inl x2] (q.1.toList ++ []) q.2 := by
  refine (Rx_N (k := 3) (pc' := 25) (ls' := [.inr (.inl (0, 0)), .inl x1, .inl x2]) (st' := [.inl x1, .inr (.inl (1, 0))]) (σ' := σ) rfl).trans ?_
  exact Rx_call (n := 3) (y' := k_X1_standingRobbed) (as := [.inr (.inl (1, 0)), .inl x1]) (rest := []) rfl rfl rfl
theorem b_X4_thief_28 (x1 : Int) (x2 : Int) (s0 : Int) (σ : St) : Rx k_X4_thief 28 [.inr (.inl (0, 0)), .inl x1, .inl x2] [.inl s0] σ = some (some (.inl s0), σ) := by
  exact Rx_ret rfl rfl
theorem b_X4_robbed_0  (σ : St) : Rx k_X4_robbed 0 [.inr (.inl (0, 0))] [] σ = (Rx k_X1_nothingToRobBehind 0 [.inr (.inl (1, 0)), uns, uns] [] σ).bind fun q => Rx k_X4_robbed 7 [.inr (.inl (0, 0))] (q.1.toList ++ []) q.2 := by
  refine (Rx_N (k := 2) (pc' := 4) (ls' := [.inr (.inl (0, 0))]) (st' := [.inr (.inl (1, 0))]) (σ' := σ) rfl).trans ?_
  exact Rx_call (n := 3) (y' := k_X1_nothingToRobBehind) (as := [.inr (.inl (1, 0))]) (rest := []) rfl rfl rfl
theorem b_X4_robbed_7 (s0 : Int) (σ : St) : Rx k_X4_robbed 7 [.inr (.inl (0, 0))] [.inl s0] σ = some (some (.inl s0), σ) := by
  exact Rx_ret rfl rfl
theorem b_X4_draught_0 (x1 : Int) (x2 : Int) (x3 : Int) (x4 : Int) (u5 : AV) (u6 : AV) (u7 : AV) (u8 : AV) (u9 : AV) (u10 : AV) (u11 : AV) (σ : St) : Rx k_X4_draught 0 [.inr (.inl (0, 0)), .inl x1, .inl x2, .inl x3, .inl x4, u5, u6, u7, u8, u9, u10, u11] [] σ = (Rx k_X4_offDraught 0 [.inr (.inl (0, 0)), .inl x1, .inl x2, .inl x3, .inl x4] [] σ).bind fun q => Rx k_X4_draught 9 [.inr (.inl (0, 0)), .inl x1, .inl x2, .inl x3, .inl x4, u5, u6, u7, u8, u9, u10, u11] (q.1.toList ++ []) q.2 := by
  refine (Rx_N (k := 5) (pc' := 6) (ls' := [.inr (.inl (0, 0)), .inl x1, .inl x2, .inl x3, .inl x4, u5, u6, u7, u8, u9, u10, u11]) (st' := [.inl x4, .inl x3, .inl x2, .inl x1, .inr (.inl (0, 0))]) (σ' := σ) rfl).trans ?_
  exact Rx_call (n := 3) (y' := k_X4_offDraught) (as := [.inr (.inl (0, 0)), .inl x1, .inl x2, .inl x3, .inl x4]) (rest := []) rfl rfl rfl
theorem b_X4_draught_9 (x1 : Int) (x2 : Int) (x3 : Int) (x4 : Int) (u5 : AV) (u6 : AV) (u7 : AV) (u8 : AV) (u9 : AV) (u10 : AV) (u11 : AV) (s0 : Int) (σ : St) : Rx k_X4_draught 9 [.inr (.inl (0, 0)), .inl x1, .inl x2, .inl x3, .inl x4, u5, u6, u7, u8, u9, u10, u11] [.inl s0] σ = if s0 = 0 then Rx k_X4_draught 28 [.inr (.inl (0, 0)), .inl x1, .inl x2, .inl x3, .inl x4, .inl s0, u6, u7, u8, u9, u10, u11] [] σ else Rx k_X4_draught 16 [.inr (.inl (0, 0)), .inl x1, .inl x2, .inl x3, .inl x4, .inl s0, u6, u7, u8, u9, u10, u11] [] σ := by
  exact Rx_eq0 (k := 3) rfl
theorem b_X4_draught_16 (x1 : Int) (x2 : Int) (x3 : Int) (x4 : Int) (x5 : Int) (u6 : AV) (u7 : AV) (u8 : AV) (u9 : AV) (u10 : AV) (u11 : AV) (σ : St) : Rx k_X4_draught 16 [.inr (.inl (0, 0)), .inl x1, .inl x2, .inl x3, .inl x4, .inl x5, u6, u7, u8, u9, u10, u11] [] σ = (Rx k_X4_refuse 0 [.inr (.inl (0, 0)), .inl x5] [] σ).bind fun q => Rx k_X4_draught 25 [.inr (.inl (0, 0)), .inl x1, .inl x2, .inl x3, .inl x4, .inl x5, u6, u7, u8, u9, u10, u11] (q.1.toList ++ [.inr (.inr 4000000000000000000)]) q.2 := by
  refine (Rx_N (k := 3) (pc' := 22) (ls' := [.inr (.inl (0, 0)), .inl x1, .inl x2, .inl x3, .inl x4, .inl x5, u6, u7, u8, u9, u10, u11]) (st' := [.inl x5, .inr (.inl (0, 0)), .inr (.inr 4000000000000000000)]) (σ' := σ) rfl).trans ?_
  exact Rx_call (n := 3) (y' := k_X4_refuse) (as := [.inr (.inl (0, 0)), .inl x5]) (rest := [.inr (.inr 4000000000000000000)]) rfl rfl rfl
theorem r_X4_draught_25 (x1 : Int) (x2 : Int) (x3 : Int) (x4 : Int) (x5 : Int) (u6 : AV) (u7 : AV) (u8 : AV) (u9 : AV) (u10 : AV) (u11 : AV) (s1 : Int) (t0 : Int) (σ : St) : Rx k_X4_draught 25 [.inr (.inl (0, 0)), .inl x1, .inl x2, .inl x3, .inl x4, .inl x5, u6, u7, u8, u9, u10, u11] [.inl s1, .inr (.inr t0)] σ = some (some (.inr (.inr (wl (t0 - s1)))), σ) := by
  refine (Rx_N (k := 2) (pc' := 27) (ls' := [.inr (.inl (0, 0)), .inl x1, .inl x2, .inl x3, .inl x4, .inl x5, u6, u7, u8, u9, u10, u11]) (st' := [.inr (.inr (wl (t0 - s1)))]) (σ' := σ) rfl).trans ?_
  exact Rx_ret rfl rfl
theorem b_X4_draught_25 (x1 : Int) (x2 : Int) (x3 : Int) (x4 : Int) (x5 : Int) (u6 : AV) (u7 : AV) (u8 : AV) (u9 : AV) (u10 : AV) (u11 : AV) (s1 : Int) (t0 : Int) (σ : St) (g0a : -9223372036854775808 ≤ (t0 - s1)) (g0b : (t0 - s1) < 9223372036854775808) : Rx k_X4_draught 25 [.inr (.inl (0, 0)), .inl x1, .inl x2, .inl x3, .inl x4, .inl x5, u6, u7, u8, u9, u10, u11] [.inl s1, .inr (.inr t0)] σ = some (some (.inr (.inr (t0 - s1))), σ) := by
  have e0 := wl_id (x := (t0 - s1)) g0a g0b
  have raw := r_X4_draught_25 x1 x2 x3 x4 x5 u6 u7 u8 u9 u10 u11 s1 t0 σ 
  simp only [e0] at raw
  exact raw
theorem b_X4_draught_28 (x1 : Int) (x2 : Int) (x3 : Int) (x4 : Int) (x5 : Int) (u6 : AV) (u7 : AV) (u8 : AV) (u9 : AV) (u10 : AV) (u11 : AV) (σ : St) : Rx k_X4_draught 28 [.inr (.inl (0, 0)), .inl x1, .inl x2, .inl x3, .inl x4, .inl x5, u6, u7, u8, u9, u10, u11] [] σ = (Rx k_X1_waysUp 0 [.inr (.inl (1, 0)), .inl x1, .inl x2, .inl x3, uns, uns, uns] [] σ).bind fun q => Rx k_X4_draught 38 [.inr (.inl (0, 0)), .inl x1, .inl x2, .inl x3, .inl x4, .inl x5, u6, u7, u8, u9, u10, u11] (q.1.toList ++ []) q.2 := by
  refine (Rx_N (k := 5) (pc' := 35) (ls' := [.inr (.inl (0, 0)), .inl x1, .inl x2, .inl x3, .inl x4, .inl x5, u6, u7, u8, u9, u10, u11]) (st' := [.inl x3, .inl x2, .inl x1, .inr (.inl (1, 0))]) (σ' := σ) rfl).trans ?_
  exact Rx_call (n := 3) (y' := k_X1_waysUp) (as := [.inr (.inl (1, 0)), .inl x1, .inl x2, .inl x3]) (rest := []) rfl rfl rfl
theorem b_X4_draught_38 (x1 : Int) (x2 : Int) (x3 : Int) (x4 : Int) (x5 : Int) (u6 : AV) (u7 : AV) (u8 : AV) (u9 : AV) (u10 : AV) (u11 : AV) (t0 : Int) (σ : St) : Rx k_X4_draught 38 [.inr (.inl (0, 0)), .inl x1, .inl x2, .inl x3, .inl x4, .inl x5, u6, u7, u8, u9, u10, u11] [.inr (.inr t0)] σ = (Rx k_X4_power 0 [.inl x3, .inl x2, uns, uns, uns] [] σ).bind fun q => Rx k_X4_draught 45 [.inr (.inl (0, 0)), .inl x1, .inl x2, .inl x3, .inl x4, .inl x5, .inr (.inr t0), uns, u8, u9, u10, u11] (q.1.toList ++ []) q.2 := by
  refine (Rx_N (k := 3) (pc' := 42) (ls' := [.inr (.inl (0, 0)), .inl x1, .inl x2, .inl x3, .inl x4, .inl x5, .inr (.inr t0), uns, u8, u9, u10, u11]) (st' := [.inl x2, .inl x3]) (σ' := σ) rfl).trans ?_
  exact Rx_call (n := 3) (y' := k_X4_power) (as := [.inl x3, .inl x2]) (rest := []) rfl rfl rfl
theorem b_X4_draught_45 (x1 : Int) (x2 : Int) (x3 : Int) (x4 : Int) (x5 : Int) (w6 : Int) (u8 : AV) (u9 : AV) (u10 : AV) (u11 : AV) (t0 : Int) (σ : St) : Rx k_X4_draught 45 [.inr (.inl (0, 0)), .inl x1, .inl x2, .inl x3, .inl x4, .inl x5, .inr (.inr w6), uns, u8, u9, u10, u11] [.inr (.inr t0)] σ = (Rx k_X4_commonDivisor 0 [.inr (.inr w6), uns, .inr (.inr t0), uns, uns, uns, uns, uns, uns, uns, uns] [] σ).bind fun q => Rx k_X4_draught 54 [.inr (.inl (0, 0)), .inl x1, .inl x2, .inl x3, .inl x4, .inl x5, .inr (.inr w6), uns, .inr (.inr t0), uns, u10, u11] (q.1.toList ++ []) q.2 := by
  refine (Rx_N (k := 3) (pc' := 51) (ls' := [.inr (.inl (0, 0)), .inl x1, .inl x2, .inl x3, .inl x4, .inl x5, .inr (.inr w6), uns, .inr (.inr t0), uns, u10, u11]) (st' := [.inr (.inr t0), .inr (.inr w6)]) (σ' := σ) rfl).trans ?_
  exact Rx_call (n := 3) (y' := k_X4_commonDivisor) (as := [.inr (.inr w6), .inr (.inr t0)]) (rest := []) rfl rfl rfl
theorem b_X4_draught_54 (x1 : Int) (x2 : Int) (x3 : Int) (x4 : Int) (x5 : Int) (w6 : Int) (w8 : Int) (u10 : AV) (u11 : AV) (t0 : Int) (σ : St) : Rx k_X4_draught 54 [.inr (.inl (0, 0)), .inl x1, .inl x2, .inl x3, .inl x4, .inl x5, .inr (.inr w6), uns, .inr (.inr w8), uns, u10, u11] [.inr (.inr t0)] σ = if (if 1 < t0 then 1 else if t0 = 1 then 0 else -1) < 0 then Rx k_X4_draught 63 [.inr (.inl (0, 0)), .inl x1, .inl x2, .inl x3, .inl x4, .inl x5, .inr (.inr w6), uns, .inr (.inr w8), uns, .inr (.inr t0), uns] [] σ else Rx k_X4_draught 67 [.inr (.inl (0, 0)), .inl x1, .inl x2, .inl x3, .inl x4, .inl x5, .inr (.inr w6), uns, .inr (.inr w8), uns, .inr (.inr t0), uns] [] σ := by
  exact Rx_ge0 (k := 5) rfl
theorem b_X4_draught_63 (x1 : Int) (x2 : Int) (x3 : Int) (x4 : Int) (x5 : Int) (w6 : Int) (w8 : Int) (w10 : Int) (σ : St) : Rx k_X4_draught 63 [.inr (.inl (0, 0)), .inl x1, .inl x2, .inl x3, .inl x4, .inl x5, .inr (.inr w6), uns, .inr (.inr w8), uns, .inr (.inr w10), uns] [] σ = some (some (.inr (.inr x4)), σ) := by
  refine (Rx_N (k := 2) (pc' := 66) (ls' := [.inr (.inl (0, 0)), .inl x1, .inl x2, .inl x3, .inl x4, .inl x5, .inr (.inr w6), uns, .inr (.inr w8), uns, .inr (.inr w10), uns]) (st' := [.inr (.inr x4)]) (σ' := σ) rfl).trans ?_
  exact Rx_ret rfl rfl
theorem b_X4_draught_67 (x1 : Int) (x2 : Int) (x3 : Int) (x4 : Int) (x5 : Int) (w6 : Int) (w8 : Int) (w10 : Int) (σ : St) : Rx k_X4_draught 67 [.inr (.inl (0, 0)), .inl x1, .inl x2, .inl x3, .inl x4, .inl x5, .inr (.inr w6), uns, .inr (.inr w8), uns, .inr (.inr w10), uns] [] σ = if x4 = 0 then Rx k_X4_draught 72 [.inr (.inl (0, 0)), .inl x1, .inl x2, .inl x3, .inl x4, .inl x5, .inr (.inr w6), uns, .inr (.inr w8), uns, .inr (.inr w10), uns] [] σ else Rx k_X4_draught 80 [.inr (.inl (0, 0)), .inl x1, .inl x2, .inl x3, .inl x4, .inl x5, .inr (.inr w6), uns, .inr (.inr w8), uns, .inr (.inr w10), uns] [] σ := by
  exact Rx_ne0 (k := 2) rfl
theorem r_X4_draught_72 (x1 : Int) (x2 : Int) (x3 : Int) (x4 : Int) (x5 : Int) (w6 : Int) (w8 : Int) (w10 : Int) (σ : St) (h0 : w10 ≠ 0) : Rx k_X4_draught 72 [.inr (.inl (0, 0)), .inl x1, .inl x2, .inl x3, .inl x4, .inl x5, .inr (.inr w6), uns, .inr (.inr w8), uns, .inr (.inr w10), uns] [] σ = some (some (.inr (.inr (wl (w6.tdiv w10)))), σ) := by
  refine (Rx_N (k := 2) (pc' := 76) (ls' := [.inr (.inl (0, 0)), .inl x1, .inl x2, .inl x3, .inl x4, .inl x5, .inr (.inr w6), uns, .inr (.inr w8), uns, .inr (.inr w10), uns]) (st' := [.inr (.inr w10), .inr (.inr w6)]) (σ' := σ) rfl).trans ?_
  refine (Rx_ldiv rfl h0).trans ?_
  refine (Rx_N (k := 1) (pc' := 85) (ls' := [.inr (.inl (0, 0)), .inl x1, .inl x2, .inl x3, .inl x4, .inl x5, .inr (.inr w6), uns, .inr (.inr w8), uns, .inr (.inr w10), uns]) (st' := [.inr (.inr (wl (w6.tdiv w10)))]) (σ' := σ) rfl).trans ?_
  exact Rx_ret rfl rfl
theorem b_X4_draught_72 (x1 : Int) (x2 : Int) (x3 : Int) (x4 : Int) (x5 : Int) (w6 : Int) (w8 : Int) (w10 : Int) (σ : St) (h0 : w10 ≠ 0) (g0a : -9223372036854775808 ≤ (w6.tdiv w10)) (g0b : (w6.tdiv w10) < 9223372036854775808) : Rx k_X4_draught 72 [.inr (.inl (0, 0)), .inl x1, .inl x2, .inl x3, .inl x4, .inl x5, .inr (.inr w6), uns, .inr (.inr w8), uns, .inr (.inr w10), uns] [] σ = some (some (.inr (.inr (w6.tdiv w10))), σ) := by
  have e0 := wl_id (x := (w6.tdiv w10)) g0a g0b
  have raw := r_X4_draught_72 x1 x2 x3 x4 x5 w6 w8 w10 σ h0
  simp only [e0] at raw
  exact raw
theorem r_X4_draught_80 (x1 : Int) (x2 : Int) (x3 : Int) (x4 : Int) (x5 : Int) (w6 : Int) (w8 : Int) (w10 : Int) (σ : St) (h0 : w10 ≠ 0) : Rx k_X4_draught 80 [.inr (.inl (0, 0)), .inl x1, .inl x2, .inl x3, .inl x4, .inl x5, .inr (.inr w6), uns, .inr (.inr w8), uns, .inr (.inr w10), uns] [] σ = some (some (.inr (.inr (wl (w8.tdiv w10)))), σ) := by
  refine (Rx_N (k := 2) (pc' := 84) (ls' := [.inr (.inl (0, 0)), .inl x1, .inl x2, .inl x3, .inl x4, .inl x5, .inr (.inr w6), uns, .inr (.inr w8), uns, .inr (.inr w10), uns]) (st' := [.inr (.inr w10), .inr (.inr w8)]) (σ' := σ) rfl).trans ?_
  refine (Rx_ldiv rfl h0).trans ?_
  exact Rx_ret rfl rfl
theorem b_X4_draught_80 (x1 : Int) (x2 : Int) (x3 : Int) (x4 : Int) (x5 : Int) (w6 : Int) (w8 : Int) (w10 : Int) (σ : St) (h0 : w10 ≠ 0) (g0a : -9223372036854775808 ≤ (w8.tdiv w10)) (g0b : (w8.tdiv w10) < 9223372036854775808) : Rx k_X4_draught 80 [.inr (.inl (0, 0)), .inl x1, .inl x2, .inl x3, .inl x4, .inl x5, .inr (.inr w6), uns, .inr (.inr w8), uns, .inr (.inr w10), uns] [] σ = some (some (.inr (.inr (w8.tdiv w10))), σ) := by
  have e0 := wl_id (x := (w8.tdiv w10)) g0a g0b
  have raw := r_X4_draught_80 x1 x2 x3 x4 x5 w6 w8 w10 σ h0
  simp only [e0] at raw
  exact raw
theorem b_X4_offDraught_0 (x1 : Int) (x2 : Int) (x3 : Int) (x4 : Int) (σ : St) : Rx k_X4_offDraught 0 [.inr (.inl (0, 0)), .inl x1, .inl x2, .inl x3, .inl x4] [] σ = (Rx k_X2_isThing 0 [.inr (.inl (7, 0)), .inl x1] [] σ).bind fun q => Rx k_X4_offDraught 8 [.inr (.inl (0, 0)), .inl x1, .inl x2, .inl x3, .inl x4] (q.1.toList ++ []) q.2 := by
  refine (Rx_N (k := 3) (pc' := 5) (ls' := [.inr (.inl (0, 0)), .inl x1, .inl x2, .inl x3, .inl x4]) (st' := [.inl x1, .inr (.inl (7, 0))]) (σ' := σ) rfl).trans ?_
  exact Rx_call (n := 3) (y' := k_X2_isThing) (as := [.inr (.inl (7, 0)), .inl x1]) (rest := []) rfl rfl rfl
theorem b_X4_offDraught_8 (x1 : Int) (x2 : Int) (x3 : Int) (x4 : Int) (s0 : Int) (σ : St) : Rx k_X4_offDraught 8 [.inr (.inl (0, 0)), .inl x1, .inl x2, .inl x3, .inl x4] [.inl s0] σ = if s0 = 0 then Rx k_X4_offDraught 11 [.inr (.inl (0, 0)), .inl x1, .inl x2, .inl x3, .inl x4] [] σ else Rx k_X4_offDraught 13 [.inr (.inl (0, 0)), .inl x1, .inl x2, .inl x3, .inl x4] [] σ := by
  exact Rx_ne0 (k := 1) rfl
theorem b_X4_offDraught_11 (x1 : Int) (x2 : Int) (x3 : Int) (x4 : Int) (σ : St) : Rx k_X4_offDraught 11 [.inr (.inl (0, 0)), .inl x1, .inl x2, .inl x3, .inl x4] [] σ = some (some (.inl 1), σ) := by
  refine (Rx_N (k := 1) (pc' := 12) (ls' := [.inr (.inl (0, 0)), .inl x1, .inl x2, .inl x3, .inl x4]) (st' := [.inl 1]) (σ' := σ) rfl).trans ?_
  exact Rx_ret rfl rfl
theorem b_X4_offDraught_13 (x1 : Int) (x2 : Int) (x3 : Int) (x4 : Int) (σ : St) : Rx k_X4_offDraught 13 [.inr (.inl (0, 0)), .inl x1, .inl x2, .inl x3, .inl x4] [] σ = if x2 < 0 then Rx k_X4_offDraught 22 [.inr (.inl (0, 0)), .inl x1, .inl x2, .inl x3, .inl x4] [] σ else Rx k_X4_offDraught 17 [.inr (.inl (0, 0)), .inl x1, .inl x2, .inl x3, .inl x4] [] σ := by
  exact Rx_lt0 (k := 2) rfl
theorem b_X4_offDraught_17 (x1 : Int) (x2 : Int) (x3 : Int) (x4 : Int) (σ : St) : Rx k_X4_offDraught 17 [.inr (.inl (0, 0)), .inl x1, .inl x2, .inl x3, .inl x4] [] σ = if x3 < 2 then Rx k_X4_offDraught 22 [.inr (.inl (0, 0)), .inl x1, .inl x2, .inl x3, .inl x4] [] σ else Rx k_X4_offDraught 24 [.inr (.inl (0, 0)), .inl x1, .inl x2, .inl x3, .inl x4] [] σ := by
  exact Rx_ge0 (k := 3) rfl
theorem b_X4_offDraught_22 (x1 : Int) (x2 : Int) (x3 : Int) (x4 : Int) (σ : St) : Rx k_X4_offDraught 22 [.inr (.inl (0, 0)), .inl x1, .inl x2, .inl x3, .inl x4] [] σ = some (some (.inl 4), σ) := by
  refine (Rx_N (k := 1) (pc' := 23) (ls' := [.inr (.inl (0, 0)), .inl x1, .inl x2, .inl x3, .inl x4]) (st' := [.inl 4]) (σ' := σ) rfl).trans ?_
  exact Rx_ret rfl rfl
theorem b_X4_offDraught_24 (x1 : Int) (x2 : Int) (x3 : Int) (x4 : Int) (σ : St) : Rx k_X4_offDraught 24 [.inr (.inl (0, 0)), .inl x1, .inl x2, .inl x3, .inl x4] [] σ = if 7 < x2 then Rx k_X4_offDraught 36 [.inr (.inl (0, 0)), .inl x1, .inl x2, .inl x3, .inl x4] [] σ else Rx k_X4_offDraught 30 [.inr (.inl (0, 0)), .inl x1, .inl x2, .inl x3, .inl x4] [] σ := by
  exact Rx_gt0 (k := 3) rfl
theorem b_X4_offDraught_30 (x1 : Int) (x2 : Int) (x3 : Int) (x4 : Int) (σ : St) : Rx k_X4_offDraught 30 [.inr (.inl (0, 0)), .inl x1, .inl x2, .inl x3, .inl x4] [] σ = if 20 < x3 then Rx k_X4_offDraught 36 [.inr (.inl (0, 0)), .inl x1, .inl x2, .inl x3, .inl x4] [] σ else Rx k_X4_offDraught 39 [.inr (.inl (0, 0)), .inl x1, .inl x2, .inl x3, .inl x4] [] σ := by
  exact Rx_le0 (k := 3) rfl
theorem b_X4_offDraught_36 (x1 : Int) (x2 : Int) (x3 : Int) (x4 : Int) (σ : St) : Rx k_X4_offDraught 36 [.inr (.inl (0, 0)), .inl x1, .inl x2, .inl x3, .inl x4] [] σ = some (some (.inl 6), σ) := by
  refine (Rx_N (k := 1) (pc' := 38) (ls' := [.inr (.inl (0, 0)), .inl x1, .inl x2, .inl x3, .inl x4]) (st' := [.inl 6]) (σ' := σ) rfl).trans ?_
  exact Rx_ret rfl rfl
theorem b_X4_offDraught_39 (x1 : Int) (x2 : Int) (x3 : Int) (x4 : Int) (σ : St) : Rx k_X4_offDraught 39 [.inr (.inl (0, 0)), .inl x1, .inl x2, .inl x3, .inl x4] [] σ = (Rx k_X4_isNeither 0 [.inl x4] [] σ).bind fun q => Rx k_X4_offDraught 44 [.inr (.inl (0, 0)), .inl x1, .inl x2, .inl x3, .inl x4] (q.1.toList ++ []) q.2 := by
  refine (Rx_N (k := 1) (pc' := 41) (ls' := [.inr (.inl (0, 0)), .inl x1, .inl x2, .inl x3, .inl x4]) (st' := [.inl x4]) (σ' := σ) rfl).trans ?_
  exact Rx_call (n := 3) (y' := k_X4_isNeither) (as := [.inl x4]) (rest := []) rfl rfl rfl
theorem b_X4_offDraught_44 (x1 : Int) (x2 : Int) (x3 : Int) (x4 : Int) (s0 : Int) (σ : St) : Rx k_X4_offDraught 44 [.inr (.inl (0, 0)), .inl x1, .inl x2, .inl x3, .inl x4] [.inl s0] σ = if s0 = 0 then Rx k_X4_offDraught 51 [.inr (.inl (0, 0)), .inl x1, .inl x2, .inl x3, .inl x4] [] σ else Rx k_X4_offDraught 47 [.inr (.inl (0, 0)), .inl x1, .inl x2, .inl x3, .inl x4] [] σ := by
  exact Rx_eq0 (k := 1) rfl
theorem b_X4_offDraught_47 (x1 : Int) (x2 : Int) (x3 : Int) (x4 : Int) (σ : St) : Rx k_X4_offDraught 47 [.inr (.inl (0, 0)), .inl x1, .inl x2, .inl x3, .inl x4] [] σ = some (some (.inl 2), σ) := by
  refine (Rx_N (k := 2) (pc' := 52) (ls' := [.inr (.inl (0, 0)), .inl x1, .inl x2, .inl x3, .inl x4]) (st' := [.inl 2]) (σ' := σ) rfl).trans ?_
  exact Rx_ret rfl rfl
theorem b_X4_offDraught_51 (x1 : Int) (x2 : Int) (x3 : Int) (x4 : Int) (σ : St) : Rx k_X4_offDraught 51 [.inr (.inl (0, 0)), .inl x1, .inl x2, .inl x3, .inl x4] [] σ = some (some (.inl 0), σ) := by
  refine (Rx_N (k := 1) (pc' := 52) (ls' := [.inr (.inl (0, 0)), .inl x1, .inl x2, .inl x3, .inl x4]) (st' := [.inl 0]) (σ' := σ) rfl).trans ?_
  exact Rx_ret rfl rfl
theorem b_X4_two_0 (x1 : Int) (x2 : Int) (x3 : Int) (u4 : AV) (σ : St) : Rx k_X4_two 0 [.inr (.inl (0, 0)), .inl x1, .inl x2, .inl x3, u4] [] σ = (Rx k_X2_isThing 0 [.inr (.inl (7, 0)), .inl x1] [] σ).bind fun q => Rx k_X4_two 8 [.inr (.inl (0, 0)), .inl x1, .inl x2, .inl x3, u4] (q.1.toList ++ []) q.2 := by
  refine (Rx_N (k := 3) (pc' := 5) (ls' := [.inr (.inl (0, 0)), .inl x1, .inl x2, .inl x3, u4]) (st' := [.inl x1, .inr (.inl (7, 0))]) (σ' := σ) rfl).trans ?_
  exact Rx_call (n := 3) (y' := k_X2_isThing) (as := [.inr (.inl (7, 0)), .inl x1]) (rest := []) rfl rfl rfl
theorem b_X4_two_8 (x1 : Int) (x2 : Int) (x3 : Int) (u4 : AV) (s0 : Int) (σ : St) : Rx k_X4_two 8 [.inr (.inl (0, 0)), .inl x1, .inl x2, .inl x3, u4] [.inl s0] σ = if s0 = 0 then Rx k_X4_two 27 [.inr (.inl (0, 0)), .inl x1, .inl x2, .inl x3, u4] [] σ else Rx k_X4_two 11 [.inr (.inl (0, 0)), .inl x1, .inl x2, .inl x3, u4] [] σ := by
  exact Rx_eq0 (k := 1) rfl
theorem b_X4_two_11 (x1 : Int) (x2 : Int) (x3 : Int) (u4 : AV) (σ : St) : Rx k_X4_two 11 [.inr (.inl (0, 0)), .inl x1, .inl x2, .inl x3, u4] [] σ = (Rx k_X2_isThing 0 [.inr (.inl (7, 0)), .inl x2] [] σ).bind fun q => Rx k_X4_two 19 [.inr (.inl (0, 0)), .inl x1, .inl x2, .inl x3, u4] (q.1.toList ++ []) q.2 := by
  refine (Rx_N (k := 3) (pc' := 16) (ls' := [.inr (.inl (0, 0)), .inl x1, .inl x2, .inl x3, u4]) (st' := [.inl x2, .inr (.inl (7, 0))]) (σ' := σ) rfl).trans ?_
  exact Rx_call (n := 3) (y' := k_X2_isThing) (as := [.inr (.inl (7, 0)), .inl x2]) (rest := []) rfl rfl rfl
theorem b_X4_two_19 (x1 : Int) (x2 : Int) (x3 : Int) (u4 : AV) (s0 : Int) (σ : St) : Rx k_X4_two 19 [.inr (.inl (0, 0)), .inl x1, .inl x2, .inl x3, u4] [.inl s0] σ = if s0 = 0 then Rx k_X4_two 27 [.inr (.inl (0, 0)), .inl x1, .inl x2, .inl x3, u4] [] σ else Rx k_X4_two 22 [.inr (.inl (0, 0)), .inl x1, .inl x2, .inl x3, u4] [] σ := by
  exact Rx_eq0 (k := 1) rfl
theorem b_X4_two_22 (x1 : Int) (x2 : Int) (x3 : Int) (u4 : AV) (σ : St) : Rx k_X4_two 22 [.inr (.inl (0, 0)), .inl x1, .inl x2, .inl x3, u4] [] σ = if x1 = x2 then Rx k_X4_two 27 [.inr (.inl (0, 0)), .inl x1, .inl x2, .inl x3, u4] [] σ else Rx k_X4_two 33 [.inr (.inl (0, 0)), .inl x1, .inl x2, .inl x3, u4] [] σ := by
  exact Rx_ne0 (k := 3) rfl
theorem b_X4_two_27 (x1 : Int) (x2 : Int) (x3 : Int) (u4 : AV) (σ : St) : Rx k_X4_two 27 [.inr (.inl (0, 0)), .inl x1, .inl x2, .inl x3, u4] [] σ = (Rx k_X4_refuse 0 [.inr (.inl (0, 0)), .inl 1] [] σ).bind fun q => Rx k_X4_two 32 [.inr (.inl (0, 0)), .inl x1, .inl x2, .inl x3, u4] (q.1.toList ++ []) q.2 := by
  refine (Rx_N (k := 2) (pc' := 29) (ls' := [.inr (.inl (0, 0)), .inl x1, .inl x2, .inl x3, u4]) (st' := [.inl 1, .inr (.inl (0, 0))]) (σ' := σ) rfl).trans ?_
  exact Rx_call (n := 3) (y' := k_X4_refuse) (as := [.inr (.inl (0, 0)), .inl 1]) (rest := []) rfl rfl rfl
theorem b_X4_two_32 (x1 : Int) (x2 : Int) (x3 : Int) (u4 : AV) (s0 : Int) (σ : St) : Rx k_X4_two 32 [.inr (.inl (0, 0)), .inl x1, .inl x2, .inl x3, u4] [.inl s0] σ = some (some (.inl s0), σ) := by
  exact Rx_ret rfl rfl
theorem b_X4_two_33 (x1 : Int) (x2 : Int) (x3 : Int) (u4 : AV) (σ : St) : Rx k_X4_two 33 [.inr (.inl (0, 0)), .inl x1, .inl x2, .inl x3, u4] [] σ = (Rx k_X4_outside 0 [.inl x3, .inl 0, .inl 99] [] σ).bind fun q => Rx k_X4_two 40 [.inr (.inl (0, 0)), .inl x1, .inl x2, .inl x3, u4] (q.1.toList ++ []) q.2 := by
  refine (Rx_N (k := 3) (pc' := 37) (ls' := [.inr (.inl (0, 0)), .inl x1, .inl x2, .inl x3, u4]) (st' := [.inl 99, .inl 0, .inl x3]) (σ' := σ) rfl).trans ?_
  exact Rx_call (n := 3) (y' := k_X4_outside) (as := [.inl x3, .inl 0, .inl 99]) (rest := []) rfl rfl rfl
theorem b_X4_two_40 (x1 : Int) (x2 : Int) (x3 : Int) (u4 : AV) (s0 : Int) (σ : St) : Rx k_X4_two 40 [.inr (.inl (0, 0)), .inl x1, .inl x2, .inl x3, u4] [.inl s0] σ = if s0 = 0 then Rx k_X4_two 56 [.inr (.inl (0, 0)), .inl x1, .inl x2, .inl x3, .inl s0] [] σ else Rx k_X4_two 47 [.inr (.inl (0, 0)), .inl x1, .inl x2, .inl x3, .inl s0] [] σ := by
  exact Rx_eq0 (k := 3) rfl
theorem b_X4_two_47 (x1 : Int) (x2 : Int) (x3 : Int) (x4 : Int) (σ : St) : Rx k_X4_two 47 [.inr (.inl (0, 0)), .inl x1, .inl x2, .inl x3, .inl x4] [] σ = (Rx k_X4_refuse 0 [.inr (.inl (0, 0)), .inl x4] [] σ).bind fun q => Rx k_X4_two 53 [.inr (.inl (0, 0)), .inl x1, .inl x2, .inl x3, .inl x4] (q.1.toList ++ []) q.2 := by
  refine (Rx_N (k := 2) (pc' := 50) (ls' := [.inr (.inl (0, 0)), .inl x1, .inl x2, .inl x3, .inl x4]) (st' := [.inl x4, .inr (.inl (0, 0))]) (σ' := σ) rfl).trans ?_
  exact Rx_call (n := 3) (y' := k_X4_refuse) (as := [.inr (.inl (0, 0)), .inl x4]) (rest := []) rfl rfl rfl
theorem b_X4_two_53 (x1 : Int) (x2 : Int) (x3 : Int) (x4 : Int) (s0 : Int) (σ : St) : Rx k_X4_two 53 [.inr (.inl (0, 0)), .inl x1, .inl x2, .inl x3, .inl x4] [.inl s0] σ = some (some (.inl s0), σ) := by
  refine (Rx_N (k := 1) (pc' := 66) (ls' := [.inr (.inl (0, 0)), .inl x1, .inl x2, .inl x3, .inl x4]) (st' := [.inl s0]) (σ' := σ) rfl).trans ?_
  exact Rx_ret rfl rfl
theorem b_X4_two_56 (x1 : Int) (x2 : Int) (x3 : Int) (x4 : Int) (σ : St) : Rx k_X4_two 56 [.inr (.inl (0, 0)), .inl x1, .inl x2, .inl x3, .inl x4] [] σ = (Rx k_X1_settled 0 [.inr (.inl (1, 0)), .inl x1, .inl x2, .inl x3, uns] [] σ).bind fun q => Rx k_X4_two 66 [.inr (.inl (0, 0)), .inl x1, .inl x2, .inl x3, .inl x4] (q.1.toList ++ []) q.2 := by
  refine (Rx_N (k := 5) (pc' := 63) (ls' := [.inr (.inl (0, 0)), .inl x1, .inl x2, .inl x3, .inl x4]) (st' := [.inl x3, .inl x2, .inl x1, .inr (.inl (1, 0))]) (σ' := σ) rfl).trans ?_
  exact Rx_call (n := 3) (y' := k_X1_settled) (as := [.inr (.inl (1, 0)), .inl x1, .inl x2, .inl x3]) (rest := []) rfl rfl rfl
theorem b_X4_two_66 (x1 : Int) (x2 : Int) (x3 : Int) (x4 : Int) (s0 : Int) (σ : St) : Rx k_X4_two 66 [.inr (.inl (0, 0)), .inl x1, .inl x2, .inl x3, .inl x4] [.inl s0] σ = some (some (.inl s0), σ) := by
  exact Rx_ret rfl rfl
theorem b_X4_whatWas_0 (x1 : Int) (x2 : Int) (σ : St) : Rx k_X4_whatWas 0 [.inr (.inl (0, 0)), .inl x1, .inl x2] [] σ = (Rx k_X2_isPurpose 0 [.inr (.inl (7, 0)), .inl x1] [] σ).bind fun q => Rx k_X4_whatWas 8 [.inr (.inl (0, 0)), .inl x1, .inl x2] (q.1.toList ++ []) q.2 := by
  refine (Rx_N (k := 3) (pc' := 5) (ls' := [.inr (.inl (0, 0)), .inl x1, .inl x2]) (st' := [.inl x1, .inr (.inl (7, 0))]) (σ' := σ) rfl).trans ?_
  exact Rx_call (n := 3) (y' := k_X2_isPurpose) (as := [.inr (.inl (7, 0)), .inl x1]) (rest := []) rfl rfl rfl
theorem b_X4_whatWas_8 (x1 : Int) (x2 : Int) (s0 : Int) (σ : St) : Rx k_X4_whatWas 8 [.inr (.inl (0, 0)), .inl x1, .inl x2] [.inl s0] σ = if s0 = 0 then Rx k_X4_whatWas 11 [.inr (.inl (0, 0)), .inl x1, .inl x2] [] σ else Rx k_X4_whatWas 17 [.inr (.inl (0, 0)), .inl x1, .inl x2] [] σ := by
  exact Rx_ne0 (k := 1) rfl
theorem b_X4_whatWas_11 (x1 : Int) (x2 : Int) (σ : St) : Rx k_X4_whatWas 11 [.inr (.inl (0, 0)), .inl x1, .inl x2] [] σ = (Rx k_X4_refuse 0 [.inr (.inl (0, 0)), .inl 1] [] σ).bind fun q => Rx k_X4_whatWas 16 [.inr (.inl (0, 0)), .inl x1, .inl x2] (q.1.toList ++ []) q.2 := by
  refine (Rx_N (k := 2) (pc' := 13) (ls' := [.inr (.inl (0, 0)), .inl x1, .inl x2]) (st' := [.inl 1, .inr (.inl (0, 0))]) (σ' := σ) rfl).trans ?_
  exact Rx_call (n := 3) (y' := k_X4_refuse) (as := [.inr (.inl (0, 0)), .inl 1]) (rest := []) rfl rfl rfl
theorem b_X4_whatWas_16 (x1 : Int) (x2 : Int) (s0 : Int) (σ : St) : Rx k_X4_whatWas 16 [.inr (.inl (0, 0)), .inl x1, .inl x2] [.inl s0] σ = some (some (.inl s0), σ) := by
  exact Rx_ret rfl rfl
theorem b_X4_whatWas_17 (x1 : Int) (x2 : Int) (σ : St) : Rx k_X4_whatWas 17 [.inr (.inl (0, 0)), .inl x1, .inl x2] [] σ = (Rx k_X4_isNeither 0 [.inl x2] [] σ).bind fun q => Rx k_X4_whatWas 21 [.inr (.inl (0, 0)), .inl x1, .inl x2] (q.1.toList ++ []) q.2 := by
  refine (Rx_N (k := 1) (pc' := 18) (ls' := [.inr (.inl (0, 0)), .inl x1, .inl x2]) (st' := [.inl x2]) (σ' := σ) rfl).trans ?_
  exact Rx_call (n := 3) (y' := k_X4_isNeither) (as := [.inl x2]) (rest := []) rfl rfl rfl
theorem b_X4_whatWas_21 (x1 : Int) (x2 : Int) (s0 : Int) (σ : St) : Rx k_X4_whatWas 21 [.inr (.inl (0, 0)), .inl x1, .inl x2] [.inl s0] σ = if s0 = 0 then Rx k_X4_whatWas 30 [.inr (.inl (0, 0)), .inl x1, .inl x2] [] σ else Rx k_X4_whatWas 24 [.inr (.inl (0, 0)), .inl x1, .inl x2] [] σ := by
  exact Rx_eq0 (k := 1) rfl
theorem b_X4_whatWas_24 (x1 : Int) (x2 : Int) (σ : St) : Rx k_X4_whatWas 24 [.inr (.inl (0, 0)), .inl x1, .inl x2] [] σ = (Rx k_X4_refuse 0 [.inr (.inl (0, 0)), .inl 2] [] σ).bind fun q => Rx k_X4_whatWas 29 [.inr (.inl (0, 0)), .inl x1, .inl x2] (q.1.toList ++ []) q.2 := by
  refine (Rx_N (k := 2) (pc' := 26) (ls' := [.inr (.inl (0, 0)), .inl x1, .inl x2]) (st' := [.inl 2, .inr (.inl (0, 0))]) (σ' := σ) rfl).trans ?_
  exact Rx_call (n := 3) (y' := k_X4_refuse) (as := [.inr (.inl (0, 0)), .inl 2]) (rest := []) rfl rfl rfl
theorem b_X4_whatWas_29 (x1 : Int) (x2 : Int) (s0 : Int) (σ : St) : Rx k_X4_whatWas 29 [.inr (.inl (0, 0)), .inl x1, .inl x2] [.inl s0] σ = some (some (.inl s0), σ) := by
  exact Rx_ret rfl rfl
theorem b_X4_whatWas_30 (x1 : Int) (x2 : Int) (σ : St) : Rx k_X4_whatWas 30 [.inr (.inl (0, 0)), .inl x1, .inl x2] [] σ = if x2 = 0 then Rx k_X4_whatWas 34 [.inr (.inl (0, 0)), .inl x1, .inl x2] [] σ else Rx k_X4_whatWas 42 [.inr (.inl (0, 0)), .inl x1, .inl x2] [] σ := by
  exact Rx_ne0 (k := 2) rfl
theorem b_X4_whatWas_34 (x1 : Int) (x2 : Int) (σ : St) : Rx k_X4_whatWas 34 [.inr (.inl (0, 0)), .inl x1, .inl x2] [] σ = (Rx k_X4_kindsThatFit 0 [.inr (.inl (0, 0)), .inl x1, uns, uns] [] σ).bind fun q => Rx k_X4_whatWas 39 [.inr (.inl (0, 0)), .inl x1, .inl x2] (q.1.toList ++ []) q.2 := by
  refine (Rx_N (k := 2) (pc' := 36) (ls' := [.inr (.inl (0, 0)), .inl x1, .inl x2]) (st' := [.inl x1, .inr (.inl (0, 0))]) (σ' := σ) rfl).trans ?_
  exact Rx_call (n := 3) (y' := k_X4_kindsThatFit) (as := [.inr (.inl (0, 0)), .inl x1]) (rest := []) rfl rfl rfl
theorem b_X4_whatWas_39 (x1 : Int) (x2 : Int) (s0 : Int) (σ : St) : Rx k_X4_whatWas 39 [.inr (.inl (0, 0)), .inl x1, .inl x2] [.inl s0] σ = some (some (.inl s0), σ) := by
  refine (Rx_N (k := 1) (pc' := 47) (ls' := [.inr (.inl (0, 0)), .inl x1, .inl x2]) (st' := [.inl s0]) (σ' := σ) rfl).trans ?_
  exact Rx_ret rfl rfl
theorem b_X4_whatWas_42 (x1 : Int) (x2 : Int) (σ : St) : Rx k_X4_whatWas 42 [.inr (.inl (0, 0)), .inl x1, .inl x2] [] σ = (Rx k_X4_figuresThatFit 0 [.inr (.inl (0, 0)), .inl x1, uns, uns] [] σ).bind fun q => Rx k_X4_whatWas 47 [.inr (.inl (0, 0)), .inl x1, .inl x2] (q.1.toList ++ []) q.2 := by
  refine (Rx_N (k := 2) (pc' := 44) (ls' := [.inr (.inl (0, 0)), .inl x1, .inl x2]) (st' := [.inl x1, .inr (.inl (0, 0))]) (σ' := σ) rfl).trans ?_
  exact Rx_call (n := 3) (y' := k_X4_figuresThatFit) (as := [.inr (.inl (0, 0)), .inl x1]) (rest := []) rfl rfl rfl
theorem b_X4_whatWas_47 (x1 : Int) (x2 : Int) (s0 : Int) (σ : St) : Rx k_X4_whatWas 47 [.inr (.inl (0, 0)), .inl x1, .inl x2] [.inl s0] σ = some (some (.inl s0), σ) := by
  exact Rx_ret rfl rfl
theorem b_X4_kindsThatFit_0 (x1 : Int) (u2 : AV) (u3 : AV) (σ : St) : Rx k_X4_kindsThatFit 0 [.inr (.inl (0, 0)), .inl x1, u2, u3] [] σ = Rx k_X4_kindsThatFit 4 [.inr (.inl (0, 0)), .inl x1, .inl 0, .inl 0] [] σ := by
  refine (Rx_N (k := 4) (pc' := 4) (ls' := [.inr (.inl (0, 0)), .inl x1, .inl 0, .inl 0]) (st' := []) (σ' := σ) rfl).trans ?_
  rfl
theorem b_X4_kindsThatFit_4 (x1 : Int) (x2 : Int) (x3 : Int) (σ : St) : Rx k_X4_kindsThatFit 4 [.inr (.inl (0, 0)), .inl x1, .inl x2, .inl x3] [] σ = if x3 < 6 then Rx k_X4_kindsThatFit 10 [.inr (.inl (0, 0)), .inl x1, .inl x2, .inl x3] [] σ else Rx k_X4_kindsThatFit 51 [.inr (.inl (0, 0)), .inl x1, .inl x2, .inl x3] [] σ := by
  exact Rx_ge0 (k := 3) rfl
theorem b_X4_kindsThatFit_10 (x1 : Int) (x2 : Int) (x3 : Int) (σ : St) (h0 : 0 ≤ x1) (h1 : x1 < 5) : Rx k_X4_kindsThatFit 10 [.inr (.inl (0, 0)), .inl x1, .inl x2, .inl x3] [] σ = (Rx k_X1_weakensAs 0 [.inr (.inl (1, 0)), .inl x1, .inl x3, .inl (σ 9 0 x1.toNat), .inr (.inl (5, 0)), .inl (σ 0 0 6), uns] [] σ).bind fun q => Rx k_X4_kindsThatFit 36 [.inr (.inl (0, 0)), .inl x1, .inl x2, .inl x3] (q.1.toList ++ []) q.2 := by
  refine (Rx_N (k := 8) (pc' := 24) (ls' := [.inr (.inl (0, 0)), .inl x1, .inl x2, .inl x3]) (st' := [.inl x1, .inr (.inl (9, 0)), .inl x3, .inl x1, .inr (.inl (1, 0))]) (σ' := σ) rfl).trans ?_
  refine (Rx_ild 5 rfl rfl rfl h0 h1).trans ?_
  refine (Rx_N (k := 4) (pc' := 33) (ls' := [.inr (.inl (0, 0)), .inl x1, .inl x2, .inl x3]) (st' := [.inl (σ 0 0 6), .inr (.inl (5, 0)), .inl (σ 9 0 x1.toNat), .inl x3, .inl x1, .inr (.inl (1, 0))]) (σ' := σ) rfl).trans ?_
  exact Rx_call (n := 3) (y' := k_X1_weakensAs) (as := [.inr (.inl (1, 0)), .inl x1, .inl x3, .inl (σ 9 0 x1.toNat), .inr (.inl (5, 0)), .inl (σ 0 0 6)]) (rest := []) rfl rfl rfl
theorem b_X4_kindsThatFit_36 (x1 : Int) (x2 : Int) (x3 : Int) (s0 : Int) (σ : St) : Rx k_X4_kindsThatFit 36 [.inr (.inl (0, 0)), .inl x1, .inl x2, .inl x3] [.inl s0] σ = if s0 = 0 then Rx k_X4_kindsThatFit 45 [.inr (.inl (0, 0)), .inl x1, .inl x2, .inl x3] [] σ else Rx k_X4_kindsThatFit 39 [.inr (.inl (0, 0)), .inl x1, .inl x2, .inl x3] [] σ := by
  exact Rx_eq0 (k := 1) rfl
theorem r_X4_kindsThatFit_39 (x1 : Int) (x2 : Int) (x3 : Int) (σ : St) : Rx k_X4_kindsThatFit 39 [.inr (.inl (0, 0)), .inl x1, .inl x2, .inl x3] [] σ = Rx k_X4_kindsThatFit 4 [.inr (.inl (0, 0)), .inl x1, .inl (bOr x2 (bShl 1 x3)), .inl (wr (x3 + 1))] [] σ := by
  refine (Rx_N (k := 8) (pc' := 4) (ls' := [.inr (.inl (0, 0)), .inl x1, .inl (bOr x2 (bShl 1 x3)), .inl (wr (x3 + 1))]) (st' := []) (σ' := σ) rfl).trans ?_
  rfl
theorem b_X4_kindsThatFit_39 (x1 : Int) (x2 : Int) (x3 : Int) (σ : St) (g0a : -2147483648 ≤ (x3 + 1)) (g0b : (x3 + 1) < 2147483648) : Rx k_X4_kindsThatFit 39 [.inr (.inl (0, 0)), .inl x1, .inl x2, .inl x3] [] σ = Rx k_X4_kindsThatFit 4 [.inr (.inl (0, 0)), .inl x1, .inl (bOr x2 (bShl 1 x3)), .inl (x3 + 1)] [] σ := by
  have e0 := wr_id (x := (x3 + 1)) g0a g0b
  have raw := r_X4_kindsThatFit_39 x1 x2 x3 σ 
  simp only [e0] at raw
  exact raw
theorem r_X4_kindsThatFit_45 (x1 : Int) (x2 : Int) (x3 : Int) (σ : St) : Rx k_X4_kindsThatFit 45 [.inr (.inl (0, 0)), .inl x1, .inl x2, .inl x3] [] σ = Rx k_X4_kindsThatFit 4 [.inr (.inl (0, 0)), .inl x1, .inl x2, .inl (wr (x3 + 1))] [] σ := by
  refine (Rx_N (k := 2) (pc' := 4) (ls' := [.inr (.inl (0, 0)), .inl x1, .inl x2, .inl (wr (x3 + 1))]) (st' := []) (σ' := σ) rfl).trans ?_
  rfl
theorem b_X4_kindsThatFit_45 (x1 : Int) (x2 : Int) (x3 : Int) (σ : St) (g0a : -2147483648 ≤ (x3 + 1)) (g0b : (x3 + 1) < 2147483648) : Rx k_X4_kindsThatFit 45 [.inr (.inl (0, 0)), .inl x1, .inl x2, .inl x3] [] σ = Rx k_X4_kindsThatFit 4 [.inr (.inl (0, 0)), .inl x1, .inl x2, .inl (x3 + 1)] [] σ := by
  have e0 := wr_id (x := (x3 + 1)) g0a g0b
  have raw := r_X4_kindsThatFit_45 x1 x2 x3 σ 
  simp only [e0] at raw
  exact raw
theorem b_X4_kindsThatFit_51 (x1 : Int) (x2 : Int) (x3 : Int) (σ : St) : Rx k_X4_kindsThatFit 51 [.inr (.inl (0, 0)), .inl x1, .inl x2, .inl x3] [] σ = some (some (.inl x2), σ) := by
  refine (Rx_N (k := 1) (pc' := 52) (ls' := [.inr (.inl (0, 0)), .inl x1, .inl x2, .inl x3]) (st' := [.inl x2]) (σ' := σ) rfl).trans ?_
  exact Rx_ret rfl rfl
theorem b_X4_figuresThatFit_0 (x1 : Int) (u2 : AV) (u3 : AV) (σ : St) : Rx k_X4_figuresThatFit 0 [.inr (.inl (0, 0)), .inl x1, u2, u3] [] σ = Rx k_X4_figuresThatFit 4 [.inr (.inl (0, 0)), .inl x1, .inl 0, .inl 0] [] σ := by
  refine (Rx_N (k := 4) (pc' := 4) (ls' := [.inr (.inl (0, 0)), .inl x1, .inl 0, .inl 0]) (st' := []) (σ' := σ) rfl).trans ?_
  rfl
theorem b_X4_figuresThatFit_4 (x1 : Int) (x2 : Int) (x3 : Int) (σ : St) : Rx k_X4_figuresThatFit 4 [.inr (.inl (0, 0)), .inl x1, .inl x2, .inl x3] [] σ = if 9 < x3 then Rx k_X4_figuresThatFit 51 [.inr (.inl (0, 0)), .inl x1, .inl x2, .inl x3] [] σ else Rx k_X4_figuresThatFit 10 [.inr (.inl (0, 0)), .inl x1, .inl x2, .inl x3] [] σ := by
  exact Rx_gt0 (k := 3) rfl
theorem b_X4_figuresThatFit_10 (x1 : Int) (x2 : Int) (x3 : Int) (σ : St) (h0 : 0 ≤ x1) (h1 : x1 < 5) : Rx k_X4_figuresThatFit 10 [.inr (.inl (0, 0)), .inl x1, .inl x2, .inl x3] [] σ = (Rx k_X1_weakensAs 0 [.inr (.inl (1, 0)), .inl x1, .inl (σ 8 0 x1.toNat), .inl x3, .inr (.inl (5, 0)), .inl (σ 0 0 6), uns] [] σ).bind fun q => Rx k_X4_figuresThatFit 36 [.inr (.inl (0, 0)), .inl x1, .inl x2, .inl x3] (q.1.toList ++ []) q.2 := by
  refine (Rx_N (k := 7) (pc' := 23) (ls' := [.inr (.inl (0, 0)), .inl x1, .inl x2, .inl x3]) (st' := [.inl x1, .inr (.inl (8, 0)), .inl x1, .inr (.inl (1, 0))]) (σ' := σ) rfl).trans ?_
  refine (Rx_ild 5 rfl rfl rfl h0 h1).trans ?_
  refine (Rx_N (k := 5) (pc' := 33) (ls' := [.inr (.inl (0, 0)), .inl x1, .inl x2, .inl x3]) (st' := [.inl (σ 0 0 6), .inr (.inl (5, 0)), .inl x3, .inl (σ 8 0 x1.toNat), .inl x1, .inr (.inl (1, 0))]) (σ' := σ) rfl).trans ?_
  exact Rx_call (n := 3) (y' := k_X1_weakensAs) (as := [.inr (.inl (1, 0)), .inl x1, .inl (σ 8 0 x1.toNat), .inl x3, .inr (.inl (5, 0)), .inl (σ 0 0 6)]) (rest := []) rfl rfl rfl
theorem b_X4_figuresThatFit_36 (x1 : Int) (x2 : Int) (x3 : Int) (s0 : Int) (σ : St) : Rx k_X4_figuresThatFit 36 [.inr (.inl (0, 0)), .inl x1, .inl x2, .inl x3] [.inl s0] σ = if s0 = 0 then Rx k_X4_figuresThatFit 45 [.inr (.inl (0, 0)), .inl x1, .inl x2, .inl x3] [] σ else Rx k_X4_figuresThatFit 39 [.inr (.inl (0, 0)), .inl x1, .inl x2, .inl x3] [] σ := by
  exact Rx_eq0 (k := 1) rfl
theorem r_X4_figuresThatFit_39 (x1 : Int) (x2 : Int) (x3 : Int) (σ : St) : Rx k_X4_figuresThatFit 39 [.inr (.inl (0, 0)), .inl x1, .inl x2, .inl x3] [] σ = Rx k_X4_figuresThatFit 4 [.inr (.inl (0, 0)), .inl x1, .inl (bOr x2 (bShl 1 x3)), .inl (wr (x3 + 1))] [] σ := by
  refine (Rx_N (k := 8) (pc' := 4) (ls' := [.inr (.inl (0, 0)), .inl x1, .inl (bOr x2 (bShl 1 x3)), .inl (wr (x3 + 1))]) (st' := []) (σ' := σ) rfl).trans ?_
  rfl
theorem b_X4_figuresThatFit_39 (x1 : Int) (x2 : Int) (x3 : Int) (σ : St) (g0a : -2147483648 ≤ (x3 + 1)) (g0b : (x3 + 1) < 2147483648) : Rx k_X4_figuresThatFit 39 [.inr (.inl (0, 0)), .inl x1, .inl x2, .inl x3] [] σ = Rx k_X4_figuresThatFit 4 [.inr (.inl (0, 0)), .inl x1, .inl (bOr x2 (bShl 1 x3)), .inl (x3 + 1)] [] σ := by
  have e0 := wr_id (x := (x3 + 1)) g0a g0b
  have raw := r_X4_figuresThatFit_39 x1 x2 x3 σ 
  simp only [e0] at raw
  exact raw
theorem r_X4_figuresThatFit_45 (x1 : Int) (x2 : Int) (x3 : Int) (σ : St) : Rx k_X4_figuresThatFit 45 [.inr (.inl (0, 0)), .inl x1, .inl x2, .inl x3] [] σ = Rx k_X4_figuresThatFit 4 [.inr (.inl (0, 0)), .inl x1, .inl x2, .inl (wr (x3 + 1))] [] σ := by
  refine (Rx_N (k := 2) (pc' := 4) (ls' := [.inr (.inl (0, 0)), .inl x1, .inl x2, .inl (wr (x3 + 1))]) (st' := []) (σ' := σ) rfl).trans ?_
  rfl
theorem b_X4_figuresThatFit_45 (x1 : Int) (x2 : Int) (x3 : Int) (σ : St) (g0a : -2147483648 ≤ (x3 + 1)) (g0b : (x3 + 1) < 2147483648) : Rx k_X4_figuresThatFit 45 [.inr (.inl (0, 0)), .inl x1, .inl x2, .inl x3] [] σ = Rx k_X4_figuresThatFit 4 [.inr (.inl (0, 0)), .inl x1, .inl x2, .inl (x3 + 1)] [] σ := by
  have e0 := wr_id (x := (x3 + 1)) g0a g0b
  have raw := r_X4_figuresThatFit_45 x1 x2 x3 σ 
  simp only [e0] at raw
  exact raw
theorem b_X4_figuresThatFit_51 (x1 : Int) (x2 : Int) (x3 : Int) (σ : St) : Rx k_X4_figuresThatFit 51 [.inr (.inl (0, 0)), .inl x1, .inl x2, .inl x3] [] σ = some (some (.inl x2), σ) := by
  refine (Rx_N (k := 1) (pc' := 52) (ls' := [.inr (.inl (0, 0)), .inl x1, .inl x2, .inl x3]) (st' := [.inl x2]) (σ' := σ) rfl).trans ?_
  exact Rx_ret rfl rfl
theorem b_X4_row_0 (x1 : Int) (u2 : AV) (σ : St) : Rx k_X4_row 0 [.inr (.inl (0, 0)), .inl x1, u2] [] σ = (Rx k_X4_outside 0 [.inl x1, .inl 0, .inl 99] [] σ).bind fun q => Rx k_X4_row 7 [.inr (.inl (0, 0)), .inl x1, u2] (q.1.toList ++ []) q.2 := by
  refine (Rx_N (k := 3) (pc' := 4) (ls' := [.inr (.inl (0, 0)), .inl x1, u2]) (st' := [.inl 99, .inl 0, .inl x1]) (σ' := σ) rfl).trans ?_
  exact Rx_call (n := 3) (y' := k_X4_outside) (as := [.inl x1, .inl 0, .inl 99]) (rest := []) rfl rfl rfl
theorem b_X4_row_7 (x1 : Int) (u2 : AV) (s0 : Int) (σ : St) : Rx k_X4_row 7 [.inr (.inl (0, 0)), .inl x1, u2] [.inl s0] σ = if s0 = 0 then Rx k_X4_row 12 [.inr (.inl (0, 0)), .inl x1, .inl s0] [] σ else Rx k_X4_row 31 [.inr (.inl (0, 0)), .inl x1, .inl s0] [] σ := by
  exact Rx_ne0 (k := 3) rfl
theorem b_X4_row_12 (x1 : Int) (x2 : Int) (σ : St) : Rx k_X4_row 12 [.inr (.inl (0, 0)), .inl x1, .inl x2] [] σ = if (σ 0 0 6) < 0 then Rx k_X4_row 28 [.inr (.inl (0, 0)), .inl x1, .inl x2] [] σ else Rx k_X4_row 19 [.inr (.inl (0, 0)), .inl x1, .inl x2] [] σ := by
  exact Rx_lt0 (k := 3) rfl
theorem b_X4_row_19 (x1 : Int) (x2 : Int) (σ : St) : Rx k_X4_row 19 [.inr (.inl (0, 0)), .inl x1, .inl x2] [] σ = if (σ 0 0 6) < 16 then Rx k_X4_row 31 [.inr (.inl (0, 0)), .inl x1, .inl x2] [] σ else Rx k_X4_row 28 [.inr (.inl (0, 0)), .inl x1, .inl x2] [] σ := by
  exact Rx_lt0 (k := 4) rfl
theorem b_X4_row_28 (x1 : Int) (x2 : Int) (σ : St) : Rx k_X4_row 28 [.inr (.inl (0, 0)), .inl x1, .inl x2] [] σ = if (6 : Int) = (0 : Int) then Rx k_X4_row 41 [.inr (.inl (0, 0)), .inl x1, .inl 6] [] σ else Rx k_X4_row 35 [.inr (.inl (0, 0)), .inl x1, .inl 6] [] σ := by
  exact Rx_eq0 (k := 4) rfl
theorem b_X4_row_31 (x1 : Int) (x2 : Int) (σ : St) : Rx k_X4_row 31 [.inr (.inl (0, 0)), .inl x1, .inl x2] [] σ = if x2 = 0 then Rx k_X4_row 41 [.inr (.inl (0, 0)), .inl x1, .inl x2] [] σ else Rx k_X4_row 35 [.inr (.inl (0, 0)), .inl x1, .inl x2] [] σ := by
  exact Rx_eq0 (k := 2) rfl
theorem b_X4_row_35 (x1 : Int) (x2 : Int) (σ : St) : Rx k_X4_row 35 [.inr (.inl (0, 0)), .inl x1, .inl x2] [] σ = (Rx k_X4_refuse 0 [.inr (.inl (0, 0)), .inl x2] [] σ).bind fun q => Rx k_X4_row 40 [.inr (.inl (0, 0)), .inl x1, .inl x2] (q.1.toList ++ []) q.2 := by
  refine (Rx_N (k := 2) (pc' := 37) (ls' := [.inr (.inl (0, 0)), .inl x1, .inl x2]) (st' := [.inl x2, .inr (.inl (0, 0))]) (σ' := σ) rfl).trans ?_
  exact Rx_call (n := 3) (y' := k_X4_refuse) (as := [.inr (.inl (0, 0)), .inl x2]) (rest := []) rfl rfl rfl
theorem b_X4_row_40 (x1 : Int) (x2 : Int) (s0 : Int) (σ : St) : Rx k_X4_row 40 [.inr (.inl (0, 0)), .inl x1, .inl x2] [.inl s0] σ = some (some (.inl s0), σ) := by
  exact Rx_ret rfl rfl
theorem r_X4_row_41 (x1 : Int) (x2 : Int) (σ : St) (h0 : 0 ≤ (σ 0 0 6)) (h1 : (σ 0 0 6) < 16) : Rx k_X4_row 41 [.inr (.inl (0, 0)), .inl x1, .inl x2] [] σ = some (some (.inl ((up (up σ 5 0 ((σ 0 0 6).toNat) x1) 0 0 6 (wr (((up σ 5 0 ((σ 0 0 6).toNat) x1) 0 0 6) + 1))) 0 0 6)), (up (up σ 5 0 ((σ 0 0 6).toNat) x1) 0 0 6 (wr (((up σ 5 0 ((σ 0 0 6).toNat) x1) 0 0 6) + 1)))) := by
  refine (Rx_N (k := 5) (pc' := 50) (ls' := [.inr (.inl (0, 0)), .inl x1, .inl x2]) (st' := [.inl x1, .inl (σ 0 0 6), .inr (.inl (5, 0))]) (σ' := σ) rfl).trans ?_
  refine (Rx_ist 16 rfl rfl h0 h1).trans ?_
  refine (Rx_N (k := 8) (pc' := 65) (ls' := [.inr (.inl (0, 0)), .inl x1, .inl x2]) (st' := [.inl ((up (up σ 5 0 ((σ 0 0 6).toNat) x1) 0 0 6 (wr (((up σ 5 0 ((σ 0 0 6).toNat) x1) 0 0 6) + 1))) 0 0 6)]) (σ' := (up (up σ 5 0 ((σ 0 0 6).toNat) x1) 0 0 6 (wr (((up σ 5 0 ((σ 0 0 6).toNat) x1) 0 0 6) + 1)))) rfl).trans ?_
  exact Rx_ret rfl rfl
theorem b_X4_row_41 (x1 : Int) (x2 : Int) (σ : St) (h0 : 0 ≤ (σ 0 0 6)) (h1 : (σ 0 0 6) < 16) (g0a : -2147483648 ≤ (((up σ 5 0 ((σ 0 0 6).toNat) x1) 0 0 6) + 1)) (g0b : (((up σ 5 0 ((σ 0 0 6).toNat) x1) 0 0 6) + 1) < 2147483648) : Rx k_X4_row 41 [.inr (.inl (0, 0)), .inl x1, .inl x2] [] σ = some (some (.inl ((up (up σ 5 0 ((σ 0 0 6).toNat) x1) 0 0 6 (((up σ 5 0 ((σ 0 0 6).toNat) x1) 0 0 6) + 1)) 0 0 6)), (up (up σ 5 0 ((σ 0 0 6).toNat) x1) 0 0 6 (((up σ 5 0 ((σ 0 0 6).toNat) x1) 0 0 6) + 1))) := by
  have e0 := wr_id (x := (((up σ 5 0 ((σ 0 0 6).toNat) x1) 0 0 6) + 1)) g0a g0b
  have raw := r_X4_row_41 x1 x2 σ h0 h1
  simp only [e0] at raw
  exact raw
theorem b_X4_judge_0 (u1 : AV) (σ : St) : Rx k_X4_judge 0 [.inr (.inl (0, 0)), u1] [] σ = (Rx k_X1_firstMisjudged 0 [.inr (.inl (1, 0)), .inr (.inl (5, 0)), .inl (σ 0 0 6), uns] [] σ).bind fun q => Rx k_X4_judge 15 [.inr (.inl (0, 0)), u1] (q.1.toList ++ []) q.2 := by
  refine (Rx_N (k := 6) (pc' := 12) (ls' := [.inr (.inl (0, 0)), u1]) (st' := [.inl (σ 0 0 6), .inr (.inl (5, 0)), .inr (.inl (1, 0))]) (σ' := σ) rfl).trans ?_
  exact Rx_call (n := 3) (y' := k_X1_firstMisjudged) (as := [.inr (.inl (1, 0)), .inr (.inl (5, 0)), .inl (σ 0 0 6)]) (rest := []) rfl rfl rfl
theorem b_X4_judge_15 (u1 : AV) (s0 : Int) (σ : St) : Rx k_X4_judge 15 [.inr (.inl (0, 0)), u1] [.inl s0] σ = some (some (.inl s0), (up σ 0 0 6 0)) := by
  refine (Rx_N (k := 5) (pc' := 22) (ls' := [.inr (.inl (0, 0)), .inl s0]) (st' := [.inl s0]) (σ' := (up σ 0 0 6 0)) rfl).trans ?_
  exact Rx_ret rfl rfl
theorem b_X4_clear_0 (u1 : AV) (σ : St) : Rx k_X4_clear 0 [.inr (.inl (0, 0)), u1] [] σ = some (some (.inl (σ 0 0 6)), (up σ 0 0 6 0)) := by
  refine (Rx_N (k := 7) (pc' := 11) (ls' := [.inr (.inl (0, 0)), .inl (σ 0 0 6)]) (st' := [.inl (σ 0 0 6)]) (σ' := (up σ 0 0 6 0)) rfl).trans ?_
  exact Rx_ret rfl rfl
theorem b_X4_lots_0 (x1 : Int) (x2 : Int) (x3 : Int) (u4 : AV) (σ : St) : Rx k_X4_lots 0 [.inr (.inl (0, 0)), .inl x1, .inl x2, .inl x3, u4] [] σ = (Rx k_X4_outside 0 [.inl x1, .inl 1, .inl 20] [] σ).bind fun q => Rx k_X4_lots 7 [.inr (.inl (0, 0)), .inl x1, .inl x2, .inl x3, u4] (q.1.toList ++ []) q.2 := by
  refine (Rx_N (k := 3) (pc' := 4) (ls' := [.inr (.inl (0, 0)), .inl x1, .inl x2, .inl x3, u4]) (st' := [.inl 20, .inl 1, .inl x1]) (σ' := σ) rfl).trans ?_
  exact Rx_call (n := 3) (y' := k_X4_outside) (as := [.inl x1, .inl 1, .inl 20]) (rest := []) rfl rfl rfl
theorem b_X4_lots_7 (x1 : Int) (x2 : Int) (x3 : Int) (u4 : AV) (s0 : Int) (σ : St) : Rx k_X4_lots 7 [.inr (.inl (0, 0)), .inl x1, .inl x2, .inl x3, u4] [.inl s0] σ = if s0 = 0 then Rx k_X4_lots 21 [.inr (.inl (0, 0)), .inl x1, .inl x2, .inl x3, .inl s0] [] σ else Rx k_X4_lots 14 [.inr (.inl (0, 0)), .inl x1, .inl x2, .inl x3, .inl s0] [] σ := by
  exact Rx_eq0 (k := 3) rfl
theorem b_X4_lots_14 (x1 : Int) (x2 : Int) (x3 : Int) (x4 : Int) (σ : St) : Rx k_X4_lots 14 [.inr (.inl (0, 0)), .inl x1, .inl x2, .inl x3, .inl x4] [] σ = (Rx k_X4_refuse 0 [.inr (.inl (0, 0)), .inl x4] [] σ).bind fun q => Rx k_X4_lots 20 [.inr (.inl (0, 0)), .inl x1, .inl x2, .inl x3, .inl x4] (q.1.toList ++ []) q.2 := by
  refine (Rx_N (k := 2) (pc' := 17) (ls' := [.inr (.inl (0, 0)), .inl x1, .inl x2, .inl x3, .inl x4]) (st' := [.inl x4, .inr (.inl (0, 0))]) (σ' := σ) rfl).trans ?_
  exact Rx_call (n := 3) (y' := k_X4_refuse) (as := [.inr (.inl (0, 0)), .inl x4]) (rest := []) rfl rfl rfl
theorem b_X4_lots_20 (x1 : Int) (x2 : Int) (x3 : Int) (x4 : Int) (s0 : Int) (σ : St) : Rx k_X4_lots 20 [.inr (.inl (0, 0)), .inl x1, .inl x2, .inl x3, .inl x4] [.inl s0] σ = some (some (.inl s0), σ) := by
  exact Rx_ret rfl rfl
theorem b_X4_lots_21 (x1 : Int) (x2 : Int) (x3 : Int) (x4 : Int) (σ : St) : Rx k_X4_lots 21 [.inr (.inl (0, 0)), .inl x1, .inl x2, .inl x3, .inl x4] [] σ = (Rx k_X4_isNeither 0 [.inl x3] [] σ).bind fun q => Rx k_X4_lots 25 [.inr (.inl (0, 0)), .inl x1, .inl x2, .inl x3, .inl x4] (q.1.toList ++ []) q.2 := by
  refine (Rx_N (k := 1) (pc' := 22) (ls' := [.inr (.inl (0, 0)), .inl x1, .inl x2, .inl x3, .inl x4]) (st' := [.inl x3]) (σ' := σ) rfl).trans ?_
  exact Rx_call (n := 3) (y' := k_X4_isNeither) (as := [.inl x3]) (rest := []) rfl rfl rfl
theorem b_X4_lots_25 (x1 : Int) (x2 : Int) (x3 : Int) (x4 : Int) (s0 : Int) (σ : St) : Rx k_X4_lots 25 [.inr (.inl (0, 0)), .inl x1, .inl x2, .inl x3, .inl x4] [.inl s0] σ = if s0 = 0 then Rx k_X4_lots 34 [.inr (.inl (0, 0)), .inl x1, .inl x2, .inl x3, .inl x4] [] σ else Rx k_X4_lots 28 [.inr (.inl (0, 0)), .inl x1, .inl x2, .inl x3, .inl x4] [] σ := by
  exact Rx_eq0 (k := 1) rfl
theorem b_X4_lots_28 (x1 : Int) (x2 : Int) (x3 : Int) (x4 : Int) (σ : St) : Rx k_X4_lots 28 [.inr (.inl (0, 0)), .inl x1, .inl x2, .inl x3, .inl x4] [] σ = (Rx k_X4_refuse 0 [.inr (.inl (0, 0)), .inl 2] [] σ).bind fun q => Rx k_X4_lots 33 [.inr (.inl (0, 0)), .inl x1, .inl x2, .inl x3, .inl x4] (q.1.toList ++ []) q.2 := by
  refine (Rx_N (k := 2) (pc' := 30) (ls' := [.inr (.inl (0, 0)), .inl x1, .inl x2, .inl x3, .inl x4]) (st' := [.inl 2, .inr (.inl (0, 0))]) (σ' := σ) rfl).trans ?_
  exact Rx_call (n := 3) (y' := k_X4_refuse) (as := [.inr (.inl (0, 0)), .inl 2]) (rest := []) rfl rfl rfl
theorem b_X4_lots_33 (x1 : Int) (x2 : Int) (x3 : Int) (x4 : Int) (s0 : Int) (σ : St) : Rx k_X4_lots 33 [.inr (.inl (0, 0)), .inl x1, .inl x2, .inl x3, .inl x4] [.inl s0] σ = some (some (.inl s0), σ) := by
  exact Rx_ret rfl rfl
theorem b_X4_lots_34 (x1 : Int) (x2 : Int) (x3 : Int) (x4 : Int) (σ : St) : Rx k_X4_lots 34 [.inr (.inl (0, 0)), .inl x1, .inl x2, .inl x3, .inl x4] [] σ = if (σ 7 0 0) < 1 then Rx k_X4_lots 45 [.inr (.inl (0, 0)), .inl x1, .inl x2, .inl x3, .inl x4] [] σ else Rx k_X4_lots 51 [.inr (.inl (0, 0)), .inl x1, .inl x2, .inl x3, .inl x4] [] σ := by
  exact Rx_ge0 (k := 5) rfl
theorem b_X4_lots_45 (x1 : Int) (x2 : Int) (x3 : Int) (x4 : Int) (σ : St) : Rx k_X4_lots 45 [.inr (.inl (0, 0)), .inl x1, .inl x2, .inl x3, .inl x4] [] σ = (Rx k_X4_refuse 0 [.inr (.inl (0, 0)), .inl 3] [] σ).bind fun q => Rx k_X4_lots 50 [.inr (.inl (0, 0)), .inl x1, .inl x2, .inl x3, .inl x4] (q.1.toList ++ []) q.2 := by
  refine (Rx_N (k := 2) (pc' := 47) (ls' := [.inr (.inl (0, 0)), .inl x1, .inl x2, .inl x3, .inl x4]) (st' := [.inl 3, .inr (.inl (0, 0))]) (σ' := σ) rfl).trans ?_
  exact Rx_call (n := 3) (y' := k_X4_refuse) (as := [.inr (.inl (0, 0)), .inl 3]) (rest := []) rfl rfl rfl
theorem b_X4_lots_50 (x1 : Int) (x2 : Int) (x3 : Int) (x4 : Int) (s0 : Int) (σ : St) : Rx k_X4_lots 50 [.inr (.inl (0, 0)), .inl x1, .inl x2, .inl x3, .inl x4] [.inl s0] σ = some (some (.inl s0), σ) := by
  exact Rx_ret rfl rfl
theorem b_X4_lots_51 (x1 : Int) (x2 : Int) (x3 : Int) (x4 : Int) (σ : St) : Rx k_X4_lots 51 [.inr (.inl (0, 0)), .inl x1, .inl x2, .inl x3, .inl x4] [] σ = (Rx k_X1_termsByLot 0 [.inr (.inl (1, 0)), .inl x1, .inl x2, .inl x3, uns, uns, uns, uns] [] σ).bind fun q => Rx k_X4_lots 61 [.inr (.inl (0, 0)), .inl x1, .inl x2, .inl x3, .inl x4] (q.1.toList ++ []) q.2 := by
  refine (Rx_N (k := 5) (pc' := 58) (ls' := [.inr (.inl (0, 0)), .inl x1, .inl x2, .inl x3, .inl x4]) (st' := [.inl x3, .inl x2, .inl x1, .inr (.inl (1, 0))]) (σ' := σ) rfl).trans ?_
  exact Rx_call (n := 3) (y' := k_X1_termsByLot) (as := [.inr (.inl (1, 0)), .inl x1, .inl x2, .inl x3]) (rest := []) rfl rfl rfl
theorem b_X4_lots_61 (x1 : Int) (x2 : Int) (x3 : Int) (x4 : Int) (s0 : Int) (σ : St) : Rx k_X4_lots 61 [.inr (.inl (0, 0)), .inl x1, .inl x2, .inl x3, .inl x4] [.inl s0] σ = some (some (.inl s0), σ) := by
  exact Rx_ret rfl rfl
theorem b_X4_image_0  (σ : St) : Rx k_X4_image 0 [.inr (.inl (0, 0))] [] σ = (Rx k_X2_become 0 [.inr (.inl (7, 2)), .inr (.inl (7, 0))] [] σ).bind fun q => Rx k_X4_image 11 [.inr (.inl (0, 0))] (q.1.toList ++ []) q.2 := by
  refine (Rx_N (k := 4) (pc' := 8) (ls' := [.inr (.inl (0, 0))]) (st' := [.inr (.inl (7, 0)), .inr (.inl (7, 2))]) (σ' := σ) rfl).trans ?_
  exact Rx_call (n := 3) (y' := k_X2_become) (as := [.inr (.inl (7, 2)), .inr (.inl (7, 0))]) (rest := []) rfl rfl rfl
theorem b_X4_image_11  (σ : St) : Rx k_X4_image 11 [.inr (.inl (0, 0))] [] σ = some (some (.inl ((up σ 0 0 4 1) 7 0 2)), (up σ 0 0 4 1)) := by
  refine (Rx_N (k := 6) (pc' := 23) (ls' := [.inr (.inl (0, 0))]) (st' := [.inl ((up σ 0 0 4 1) 7 0 2)]) (σ' := (up σ 0 0 4 1)) rfl).trans ?_
  exact Rx_ret rfl rfl
theorem b_X4_on_0  (σ : St) : Rx k_X4_on 0 [.inr (.inl (0, 0))] [] σ = if (σ 0 0 4) = 0 then Rx k_X4_on 7 [.inr (.inl (0, 0))] [] σ else Rx k_X4_on 13 [.inr (.inl (0, 0))] [] σ := by
  exact Rx_ne0 (k := 3) rfl
theorem b_X4_on_7  (σ : St) : Rx k_X4_on 7 [.inr (.inl (0, 0))] [] σ = (Rx k_X4_refuse 0 [.inr (.inl (0, 0)), .inl 3] [] σ).bind fun q => Rx k_X4_on 12 [.inr (.inl (0, 0))] (q.1.toList ++ []) q.2 := by
  refine (Rx_N (k := 2) (pc' := 9) (ls' := [.inr (.inl (0, 0))]) (st' := [.inl 3, .inr (.inl (0, 0))]) (σ' := σ) rfl).trans ?_
  exact Rx_call (n := 3) (y' := k_X4_refuse) (as := [.inr (.inl (0, 0)), .inl 3]) (rest := []) rfl rfl rfl
theorem b_X4_on_12 (s0 : Int) (σ : St) : Rx k_X4_on 12 [.inr (.inl (0, 0))] [.inl s0] σ = some (some (.inl s0), σ) := by
  exact Rx_ret rfl rfl
theorem b_X4_on_13  (σ : St) : Rx k_X4_on 13 [.inr (.inl (0, 0))] [] σ = (Rx k_X2_become 0 [.inr (.inl (7, 0)), .inr (.inl (7, 2))] [] σ).bind fun q => Rx k_X4_on 24 [.inr (.inl (0, 0))] (q.1.toList ++ []) q.2 := by
  refine (Rx_N (k := 4) (pc' := 21) (ls' := [.inr (.inl (0, 0))]) (st' := [.inr (.inl (7, 2)), .inr (.inl (7, 0))]) (σ' := σ) rfl).trans ?_
  exact Rx_call (n := 3) (y' := k_X2_become) (as := [.inr (.inl (7, 0)), .inr (.inl (7, 2))]) (rest := []) rfl rfl rfl
theorem b_X4_on_24  (σ : St) : Rx k_X4_on 24 [.inr (.inl (0, 0))] [] σ = some (some (.inl (σ 7 0 2)), σ) := by
  refine (Rx_N (k := 3) (pc' := 31) (ls' := [.inr (.inl (0, 0))]) (st' := [.inl (σ 7 0 2)]) (σ' := σ) rfl).trans ?_
  exact Rx_ret rfl rfl
theorem b_X4_refuse_0 (x1 : Int) (σ : St) : Rx k_X4_refuse 0 [.inr (.inl (0, 0)), .inl x1] [] σ = if x1 < 0 then Rx k_X4_refuse 23 [.inr (.inl (0, 0)), .inl x1] [] σ else Rx k_X4_refuse 4 [.inr (.inl (0, 0)), .inl x1] [] σ := by
  exact Rx_lt0 (k := 2) rfl
theorem b_X4_refuse_4 (x1 : Int) (σ : St) : Rx k_X4_refuse 4 [.inr (.inl (0, 0)), .inl x1] [] σ = if x1 < 7 then Rx k_X4_refuse 13 [.inr (.inl (0, 0)), .inl x1] [] σ else Rx k_X4_refuse 23 [.inr (.inl (0, 0)), .inl x1] [] σ := by
  exact Rx_ge0 (k := 5) rfl
theorem r_X4_refuse_13 (x1 : Int) (σ : St) (h0 : 0 ≤ x1) (h1 : x1 < 7) : Rx k_X4_refuse 13 [.inr (.inl (0, 0)), .inl x1] [] σ = some (some (.inl (wr (-x1))), (up σ 6 0 x1.toNat (wr ((σ 6 0 x1.toNat) + 1)))) := by
  refine (Rx_N (k := 4) (pc' := 19) (ls' := [.inr (.inl (0, 0)), .inl x1]) (st' := [.inl x1, .inr (.inl (6, 0)), .inl x1, .inr (.inl (6, 0))]) (σ' := σ) rfl).trans ?_
  refine (Rx_ild 7 rfl rfl rfl h0 h1).trans ?_
  refine (Rx_N (k := 2) (pc' := 22) (ls' := [.inr (.inl (0, 0)), .inl x1]) (st' := [.inl (wr ((σ 6 0 x1.toNat) + 1)), .inl x1, .inr (.inl (6, 0))]) (σ' := σ) rfl).trans ?_
  refine (Rx_ist 7 rfl rfl h0 h1).trans ?_
  refine (Rx_N (k := 2) (pc' := 25) (ls' := [.inr (.inl (0, 0)), .inl x1]) (st' := [.inl (wr (-x1))]) (σ' := (up σ 6 0 x1.toNat (wr ((σ 6 0 x1.toNat) + 1)))) rfl).trans ?_
  exact Rx_ret rfl rfl
theorem b_X4_refuse_13 (x1 : Int) (σ : St) (h0 : 0 ≤ x1) (h1 : x1 < 7) (g0a : -2147483648 ≤ (-x1)) (g0b : (-x1) < 2147483648) (g1a : -2147483648 ≤ ((σ 6 0 x1.toNat) + 1)) (g1b : ((σ 6 0 x1.toNat) + 1) < 2147483648) : Rx k_X4_refuse 13 [.inr (.inl (0, 0)), .inl x1] [] σ = some (some (.inl (-x1)), (up σ 6 0 x1.toNat ((σ 6 0 x1.toNat) + 1))) := by
  have e0 := wr_id (x := (-x1)) g0a g0b
  have e1 := wr_id (x := ((σ 6 0 x1.toNat) + 1)) g1a g1b
  have raw := r_X4_refuse_13 x1 σ h0 h1
  simp only [e0, e1] at raw
  exact raw
theorem r_X4_refuse_23 (x1 : Int) (σ : St) : Rx k_X4_refuse 23 [.inr (.inl (0, 0)), .inl x1] [] σ = some (some (.inl (wr (-x1))), σ) := by
  refine (Rx_N (k := 2) (pc' := 25) (ls' := [.inr (.inl (0, 0)), .inl x1]) (st' := [.inl (wr (-x1))]) (σ' := σ) rfl).trans ?_
  exact Rx_ret rfl rfl
theorem b_X4_refuse_23 (x1 : Int) (σ : St) (g0a : -2147483648 ≤ (-x1)) (g0b : (-x1) < 2147483648) : Rx k_X4_refuse 23 [.inr (.inl (0, 0)), .inl x1] [] σ = some (some (.inl (-x1)), σ) := by
  have e0 := wr_id (x := (-x1)) g0a g0b
  have raw := r_X4_refuse_23 x1 σ 
  simp only [e0] at raw
  exact raw
theorem b_X4_offUpThing_0 (x1 : Int) (σ : St) : Rx k_X4_offUpThing 0 [.inr (.inl (0, 0)), .inl x1] [] σ = (Rx k_X2_isThing 0 [.inr (.inl (7, 0)), .inl x1] [] σ).bind fun q => Rx k_X4_offUpThing 8 [.inr (.inl (0, 0)), .inl x1] (q.1.toList ++ []) q.2 := by
  refine (Rx_N (k := 3) (pc' := 5) (ls' := [.inr (.inl (0, 0)), .inl x1]) (st' := [.inl x1, .inr (.inl (7, 0))]) (σ' := σ) rfl).trans ?_
  exact Rx_call (n := 3) (y' := k_X2_isThing) (as := [.inr (.inl (7, 0)), .inl x1]) (rest := []) rfl rfl rfl
theorem b_X4_offUpThing_8 (x1 : Int) (s0 : Int) (σ : St) : Rx k_X4_offUpThing 8 [.inr (.inl (0, 0)), .inl x1] [.inl s0] σ = if s0 = 0 then Rx k_X4_offUpThing 11 [.inr (.inl (0, 0)), .inl x1] [] σ else Rx k_X4_offUpThing 13 [.inr (.inl (0, 0)), .inl x1] [] σ := by
  exact Rx_ne0 (k := 1) rfl
theorem b_X4_offUpThing_11 (x1 : Int) (σ : St) : Rx k_X4_offUpThing 11 [.inr (.inl (0, 0)), .inl x1] [] σ = some (some (.inl 1), σ) := by
  refine (Rx_N (k := 1) (pc' := 12) (ls' := [.inr (.inl (0, 0)), .inl x1]) (st' := [.inl 1]) (σ' := σ) rfl).trans ?_
  exact Rx_ret rfl rfl
theorem b_X4_offUpThing_13 (x1 : Int) (σ : St) : Rx k_X4_offUpThing 13 [.inr (.inl (0, 0)), .inl x1] [] σ = (Rx k_X2_isUp 0 [.inr (.inl (7, 0)), .inl x1] [] σ).bind fun q => Rx k_X4_offUpThing 21 [.inr (.inl (0, 0)), .inl x1] (q.1.toList ++ []) q.2 := by
  refine (Rx_N (k := 3) (pc' := 18) (ls' := [.inr (.inl (0, 0)), .inl x1]) (st' := [.inl x1, .inr (.inl (7, 0))]) (σ' := σ) rfl).trans ?_
  exact Rx_call (n := 3) (y' := k_X2_isUp) (as := [.inr (.inl (7, 0)), .inl x1]) (rest := []) rfl rfl rfl
theorem b_X4_offUpThing_21 (x1 : Int) (s0 : Int) (σ : St) : Rx k_X4_offUpThing 21 [.inr (.inl (0, 0)), .inl x1] [.inl s0] σ = if s0 = 0 then Rx k_X4_offUpThing 28 [.inr (.inl (0, 0)), .inl x1] [] σ else Rx k_X4_offUpThing 24 [.inr (.inl (0, 0)), .inl x1] [] σ := by
  exact Rx_eq0 (k := 1) rfl
theorem b_X4_offUpThing_24 (x1 : Int) (σ : St) : Rx k_X4_offUpThing 24 [.inr (.inl (0, 0)), .inl x1] [] σ = some (some (.inl 0), σ) := by
  refine (Rx_N (k := 2) (pc' := 29) (ls' := [.inr (.inl (0, 0)), .inl x1]) (st' := [.inl 0]) (σ' := σ) rfl).trans ?_
  exact Rx_ret rfl rfl
theorem b_X4_offUpThing_28 (x1 : Int) (σ : St) : Rx k_X4_offUpThing 28 [.inr (.inl (0, 0)), .inl x1] [] σ = some (some (.inl 3), σ) := by
  refine (Rx_N (k := 1) (pc' := 29) (ls' := [.inr (.inl (0, 0)), .inl x1]) (st' := [.inl 3]) (σ' := σ) rfl).trans ?_
  exact Rx_ret rfl rfl
theorem b_X4_outside_0 (x0 : Int) (x1 : Int) (x2 : Int) (σ : St) : Rx k_X4_outside 0 [.inl x0, .inl x1, .inl x2] [] σ = if x0 < x1 then Rx k_X4_outside 5 [.inl x0, .inl x1, .inl x2] [] σ else Rx k_X4_outside 7 [.inl x0, .inl x1, .inl x2] [] σ := by
  exact Rx_ge0 (k := 3) rfl
theorem b_X4_outside_5 (x0 : Int) (x1 : Int) (x2 : Int) (σ : St) : Rx k_X4_outside 5 [.inl x0, .inl x1, .inl x2] [] σ = some (some (.inl 4), σ) := by
  refine (Rx_N (k := 1) (pc' := 6) (ls' := [.inl x0, .inl x1, .inl x2]) (st' := [.inl 4]) (σ' := σ) rfl).trans ?_
  exact Rx_ret rfl rfl
theorem b_X4_outside_7 (x0 : Int) (x1 : Int) (x2 : Int) (σ : St) : Rx k_X4_outside 7 [.inl x0, .inl x1, .inl x2] [] σ = if x2 < x0 then Rx k_X4_outside 12 [.inl x0, .inl x1, .inl x2] [] σ else Rx k_X4_outside 17 [.inl x0, .inl x1, .inl x2] [] σ := by
  exact Rx_le0 (k := 3) rfl
theorem b_X4_outside_12 (x0 : Int) (x1 : Int) (x2 : Int) (σ : St) : Rx k_X4_outside 12 [.inl x0, .inl x1, .inl x2] [] σ = some (some (.inl 6), σ) := by
  refine (Rx_N (k := 2) (pc' := 18) (ls' := [.inl x0, .inl x1, .inl x2]) (st' := [.inl 6]) (σ' := σ) rfl).trans ?_
  exact Rx_ret rfl rfl
theorem b_X4_outside_17 (x0 : Int) (x1 : Int) (x2 : Int) (σ : St) : Rx k_X4_outside 17 [.inl x0, .inl x1, .inl x2] [] σ = some (some (.inl 0), σ) := by
  refine (Rx_N (k := 1) (pc' := 18) (ls' := [.inl x0, .inl x1, .inl x2]) (st' := [.inl 0]) (σ' := σ) rfl).trans ?_
  exact Rx_ret rfl rfl
theorem b_X4_isNeither_0 (x0 : Int) (σ : St) : Rx k_X4_isNeither 0 [.inl x0] [] σ = if x0 = 0 then Rx k_X4_isNeither 13 [.inl x0] [] σ else Rx k_X4_isNeither 4 [.inl x0] [] σ := by
  exact Rx_eq0 (k := 2) rfl
theorem b_X4_isNeither_4 (x0 : Int) (σ : St) : Rx k_X4_isNeither 4 [.inl x0] [] σ = if x0 = 1 then Rx k_X4_isNeither 13 [.inl x0] [] σ else Rx k_X4_isNeither 9 [.inl x0] [] σ := by
  exact Rx_eq0 (k := 3) rfl
theorem b_X4_isNeither_9 (x0 : Int) (σ : St) : Rx k_X4_isNeither 9 [.inl x0] [] σ = some (some (.inl 1), σ) := by
  refine (Rx_N (k := 2) (pc' := 14) (ls' := [.inl x0]) (st' := [.inl 1]) (σ' := σ) rfl).trans ?_
  exact Rx_ret rfl rfl
theorem b_X4_isNeither_13 (x0 : Int) (σ : St) : Rx k_X4_isNeither 13 [.inl x0] [] σ = some (some (.inl 0), σ) := by
  refine (Rx_N (k := 1) (pc' := 14) (ls' := [.inl x0]) (st' := [.inl 0]) (σ' := σ) rfl).trans ?_
  exact Rx_ret rfl rfl
theorem b_X4_isPlace_0 (x0 : Int) (σ : St) : Rx k_X4_isPlace 0 [.inl x0] [] σ = if x0 < 0 then Rx k_X4_isPlace 14 [.inl x0] [] σ else Rx k_X4_isPlace 4 [.inl x0] [] σ := by
  exact Rx_lt0 (k := 2) rfl
theorem b_X4_isPlace_4 (x0 : Int) (σ : St) : Rx k_X4_isPlace 4 [.inl x0] [] σ = if x0 < 20 then Rx k_X4_isPlace 10 [.inl x0] [] σ else Rx k_X4_isPlace 14 [.inl x0] [] σ := by
  exact Rx_ge0 (k := 3) rfl
theorem b_X4_isPlace_10 (x0 : Int) (σ : St) : Rx k_X4_isPlace 10 [.inl x0] [] σ = some (some (.inl 1), σ) := by
  refine (Rx_N (k := 2) (pc' := 15) (ls' := [.inl x0]) (st' := [.inl 1]) (σ' := σ) rfl).trans ?_
  exact Rx_ret rfl rfl
theorem b_X4_isPlace_14 (x0 : Int) (σ : St) : Rx k_X4_isPlace 14 [.inl x0] [] σ = some (some (.inl 0), σ) := by
  refine (Rx_N (k := 1) (pc' := 15) (ls' := [.inl x0]) (st' := [.inl 0]) (σ' := σ) rfl).trans ?_
  exact Rx_ret rfl rfl
theorem b_X4_has_0 (x0 : Int) (x1 : Int) (σ : St) : Rx k_X4_has 0 [.inl x0, .inl x1] [] σ = if x1 < 0 then Rx k_X4_has 23 [.inl x0, .inl x1] [] σ else Rx k_X4_has 4 [.inl x0, .inl x1] [] σ := by
  exact Rx_lt0 (k := 2) rfl
theorem b_X4_has_4 (x0 : Int) (x1 : Int) (σ : St) : Rx k_X4_has 4 [.inl x0, .inl x1] [] σ = if x1 < 32 then Rx k_X4_has 10 [.inl x0, .inl x1] [] σ else Rx k_X4_has 23 [.inl x0, .inl x1] [] σ := by
  exact Rx_ge0 (k := 3) rfl
theorem b_X4_has_10 (x0 : Int) (x1 : Int) (σ : St) : Rx k_X4_has 10 [.inl x0, .inl x1] [] σ = if (bAnd (bUshr x0 x1) 1) = 1 then Rx k_X4_has 19 [.inl x0, .inl x1] [] σ else Rx k_X4_has 23 [.inl x0, .inl x1] [] σ := by
  exact Rx_ne0 (k := 7) rfl
theorem b_X4_has_19 (x0 : Int) (x1 : Int) (σ : St) : Rx k_X4_has 19 [.inl x0, .inl x1] [] σ = some (some (.inl 1), σ) := by
  refine (Rx_N (k := 2) (pc' := 24) (ls' := [.inl x0, .inl x1]) (st' := [.inl 1]) (σ' := σ) rfl).trans ?_
  exact Rx_ret rfl rfl
theorem b_X4_has_23 (x0 : Int) (x1 : Int) (σ : St) : Rx k_X4_has 23 [.inl x0, .inl x1] [] σ = some (some (.inl 0), σ) := by
  refine (Rx_N (k := 1) (pc' := 24) (ls' := [.inl x0, .inl x1]) (st' := [.inl 0]) (σ' := σ) rfl).trans ?_
  exact Rx_ret rfl rfl
theorem b_X4_power_0 (x0 : Int) (x1 : Int) (u2 : AV) (u3 : AV) (u4 : AV) (σ : St) : Rx k_X4_power 0 [.inl x0, .inl x1, u2, u3, u4] [] σ = Rx k_X4_power 5 [.inl x0, .inl x1, .inr (.inr 1), uns, .inl 0] [] σ := by
  refine (Rx_N (k := 4) (pc' := 5) (ls' := [.inl x0, .inl x1, .inr (.inr 1), uns, .inl 0]) (st' := []) (σ' := σ) rfl).trans ?_
  rfl
theorem b_X4_power_5 (x0 : Int) (x1 : Int) (w2 : Int) (x4 : Int) (σ : St) : Rx k_X4_power 5 [.inl x0, .inl x1, .inr (.inr w2), uns, .inl x4] [] σ = if x4 < x1 then Rx k_X4_power 11 [.inl x0, .inl x1, .inr (.inr w2), uns, .inl x4] [] σ else Rx k_X4_power 29 [.inl x0, .inl x1, .inr (.inr w2), uns, .inl x4] [] σ := by
  exact Rx_ge0 (k := 3) rfl
theorem b_X4_power_11 (x0 : Int) (x1 : Int) (w2 : Int) (x4 : Int) (σ : St) : Rx k_X4_power 11 [.inl x0, .inl x1, .inr (.inr w2), uns, .inl x4] [] σ = if x4 < 7 then Rx k_X4_power 18 [.inl x0, .inl x1, .inr (.inr w2), uns, .inl x4] [] σ else Rx k_X4_power 29 [.inl x0, .inl x1, .inr (.inr w2), uns, .inl x4] [] σ := by
  exact Rx_ge0 (k := 3) rfl
theorem r_X4_power_18 (x0 : Int) (x1 : Int) (w2 : Int) (x4 : Int) (σ : St) : Rx k_X4_power 18 [.inl x0, .inl x1, .inr (.inr w2), uns, .inl x4] [] σ = Rx k_X4_power 5 [.inl x0, .inl x1, .inr (.inr (wl (w2 * x0))), uns, .inl (wr (x4 + 1))] [] σ := by
  refine (Rx_N (k := 7) (pc' := 5) (ls' := [.inl x0, .inl x1, .inr (.inr (wl (w2 * x0))), uns, .inl (wr (x4 + 1))]) (st' := []) (σ' := σ) rfl).trans ?_
  rfl
theorem b_X4_power_18 (x0 : Int) (x1 : Int) (w2 : Int) (x4 : Int) (σ : St) (g0a : -2147483648 ≤ (x4 + 1)) (g0b : (x4 + 1) < 2147483648) (g1a : -9223372036854775808 ≤ (w2 * x0)) (g1b : (w2 * x0) < 9223372036854775808) : Rx k_X4_power 18 [.inl x0, .inl x1, .inr (.inr w2), uns, .inl x4] [] σ = Rx k_X4_power 5 [.inl x0, .inl x1, .inr (.inr (w2 * x0)), uns, .inl (x4 + 1)] [] σ := by
  have e0 := wr_id (x := (x4 + 1)) g0a g0b
  have e1 := wl_id (x := (w2 * x0)) g1a g1b
  have raw := r_X4_power_18 x0 x1 w2 x4 σ 
  simp only [e0, e1] at raw
  exact raw
theorem b_X4_power_29 (x0 : Int) (x1 : Int) (w2 : Int) (x4 : Int) (σ : St) : Rx k_X4_power 29 [.inl x0, .inl x1, .inr (.inr w2), uns, .inl x4] [] σ = some (some (.inr (.inr w2)), σ) := by
  refine (Rx_N (k := 1) (pc' := 30) (ls' := [.inl x0, .inl x1, .inr (.inr w2), uns, .inl x4]) (st' := [.inr (.inr w2)]) (σ' := σ) rfl).trans ?_
  exact Rx_ret rfl rfl
theorem b_X4_commonDivisor_0 (w0 : Int) (w2 : Int) (u4 : AV) (u5 : AV) (u6 : AV) (u7 : AV) (u8 : AV) (u9 : AV) (u10 : AV) (σ : St) : Rx k_X4_commonDivisor 0 [.inr (.inr w0), uns, .inr (.inr w2), uns, u4, u5, u6, u7, u8, u9, u10] [] σ = Rx k_X4_commonDivisor 9 [.inr (.inr w0), uns, .inr (.inr w2), uns, .inr (.inr w0), uns, .inr (.inr w2), uns, .inl 0, u9, u10] [] σ := by
  refine (Rx_N (k := 6) (pc' := 9) (ls' := [.inr (.inr w0), uns, .inr (.inr w2), uns, .inr (.inr w0), uns, .inr (.inr w2), uns, .inl 0, u9, u10]) (st' := []) (σ' := σ) rfl).trans ?_
  rfl
theorem b_X4_commonDivisor_9 (w0 : Int) (w2 : Int) (w4 : Int) (w6 : Int) (x8 : Int) (u9 : AV) (u10 : AV) (σ : St) : Rx k_X4_commonDivisor 9 [.inr (.inr w0), uns, .inr (.inr w2), uns, .inr (.inr w4), uns, .inr (.inr w6), uns, .inl x8, u9, u10] [] σ = if x8 < 200 then Rx k_X4_commonDivisor 17 [.inr (.inr w0), uns, .inr (.inr w2), uns, .inr (.inr w4), uns, .inr (.inr w6), uns, .inl x8, u9, u10] [] σ else Rx k_X4_commonDivisor 45 [.inr (.inr w0), uns, .inr (.inr w2), uns, .inr (.inr w4), uns, .inr (.inr w6), uns, .inl x8, u9, u10] [] σ := by
  exact Rx_ge0 (k := 3) rfl
theorem b_X4_commonDivisor_17 (w0 : Int) (w2 : Int) (w4 : Int) (w6 : Int) (x8 : Int) (u9 : AV) (u10 : AV) (σ : St) : Rx k_X4_commonDivisor 17 [.inr (.inr w0), uns, .inr (.inr w2), uns, .inr (.inr w4), uns, .inr (.inr w6), uns, .inl x8, u9, u10] [] σ = if (if 0 < w6 then 1 else if w6 = 0 then 0 else -1) = 0 then Rx k_X4_commonDivisor 45 [.inr (.inr w0), uns, .inr (.inr w2), uns, .inr (.inr w4), uns, .inr (.inr w6), uns, .inl x8, u9, u10] [] σ else Rx k_X4_commonDivisor 24 [.inr (.inr w0), uns, .inr (.inr w2), uns, .inr (.inr w4), uns, .inr (.inr w6), uns, .inl x8, u9, u10] [] σ := by
  exact Rx_eq0 (k := 4) rfl
theorem r_X4_commonDivisor_24 (w0 : Int) (w2 : Int) (w4 : Int) (w6 : Int) (x8 : Int) (u9 : AV) (u10 : AV) (σ : St) (h0 : w6 ≠ 0) : Rx k_X4_commonDivisor 24 [.inr (.inr w0), uns, .inr (.inr w2), uns, .inr (.inr w4), uns, .inr (.inr w6), uns, .inl x8, u9, u10] [] σ = Rx k_X4_commonDivisor 9 [.inr (.inr w0), uns, .inr (.inr w2), uns, .inr (.inr w6), uns, .inr (.inr (w4.tmod w6)), uns, .inl (wr (x8 + 1)), .inr (.inr (w4.tmod w6)), uns] [] σ := by
  refine (Rx_N (k := 2) (pc' := 28) (ls' := [.inr (.inr w0), uns, .inr (.inr w2), uns, .inr (.inr w4), uns, .inr (.inr w6), uns, .inl x8, u9, u10]) (st' := [.inr (.inr w6), .inr (.inr w4)]) (σ' := σ) rfl).trans ?_
  refine (Rx_lrem rfl h0).trans ?_
  refine (Rx_N (k := 7) (pc' := 9) (ls' := [.inr (.inr w0), uns, .inr (.inr w2), uns, .inr (.inr w6), uns, .inr (.inr (w4.tmod w6)), uns, .inl (wr (x8 + 1)), .inr (.inr (w4.tmod w6)), uns]) (st' := []) (σ' := σ) rfl).trans ?_
  rfl
theorem b_X4_commonDivisor_24 (w0 : Int) (w2 : Int) (w4 : Int) (w6 : Int) (x8 : Int) (u9 : AV) (u10 : AV) (σ : St) (h0 : w6 ≠ 0) (g0a : -2147483648 ≤ (x8 + 1)) (g0b : (x8 + 1) < 2147483648) : Rx k_X4_commonDivisor 24 [.inr (.inr w0), uns, .inr (.inr w2), uns, .inr (.inr w4), uns, .inr (.inr w6), uns, .inl x8, u9, u10] [] σ = Rx k_X4_commonDivisor 9 [.inr (.inr w0), uns, .inr (.inr w2), uns, .inr (.inr w6), uns, .inr (.inr (w4.tmod w6)), uns, .inl (x8 + 1), .inr (.inr (w4.tmod w6)), uns] [] σ := by
  have e0 := wr_id (x := (x8 + 1)) g0a g0b
  have raw := r_X4_commonDivisor_24 w0 w2 w4 w6 x8 u9 u10 σ h0
  simp only [e0] at raw
  exact raw
theorem b_X4_commonDivisor_45 (w0 : Int) (w2 : Int) (w4 : Int) (w6 : Int) (x8 : Int) (u9 : AV) (u10 : AV) (σ : St) : Rx k_X4_commonDivisor 45 [.inr (.inr w0), uns, .inr (.inr w2), uns, .inr (.inr w4), uns, .inr (.inr w6), uns, .inl x8, u9, u10] [] σ = some (some (.inr (.inr w4)), σ) := by
  refine (Rx_N (k := 1) (pc' := 47) (ls' := [.inr (.inr w0), uns, .inr (.inr w2), uns, .inr (.inr w4), uns, .inr (.inr w6), uns, .inl x8, u9, u10]) (st' := [.inr (.inr w4)]) (σ' := σ) rfl).trans ?_
  exact Rx_ret rfl rfl
