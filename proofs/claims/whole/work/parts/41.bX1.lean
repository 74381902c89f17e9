theorem b_X1_hear_0 (u2 : AV) (u3 : AV) (u4 : AV) (σ : St) : Rx k_X1_hear 0 [.inr (.inl (1, 0)), .inr (.inl (3, 0)), u2, u3, u4] [] σ = (Rx k_X2_become 0 [.inr (.inl (7, 1)), .inr (.inl (7, 0))] [] σ).bind fun q => Rx k_X1_hear 11 [.inr (.inl (1, 0)), .inr (.inl (3, 0)), u2, u3, u4] (q.1.toList ++ []) q.2 := by
  refine (Rx_N (k := 4) (pc' := 8) (ls' := [.inr (.inl (1, 0)), .inr (.inl (3, 0)), u2, u3, u4]) (st' := [.inr (.inl (7, 0)), .inr (.inl (7, 1))]) (σ' := σ) rfl).trans ?_
  exact Rx_call (n := 3) (y' := k_X2_become) (as := [.inr (.inl (7, 1)), .inr (.inl (7, 0))]) (rest := []) rfl rfl rfl
theorem b_X1_hear_11 (u2 : AV) (u3 : AV) (u4 : AV) (σ : St) : Rx k_X1_hear 11 [.inr (.inl (1, 0)), .inr (.inl (3, 0)), u2, u3, u4] [] σ = Rx k_X1_hear 18 [.inr (.inl (1, 0)), .inr (.inl (3, 0)), .inl 0, .inl 0, .inl 0] [] σ := by
  refine (Rx_N (k := 6) (pc' := 18) (ls' := [.inr (.inl (1, 0)), .inr (.inl (3, 0)), .inl 0, .inl 0, .inl 0]) (st' := []) (σ' := σ) rfl).trans ?_
  rfl
theorem b_X1_hear_18 (x2 : Int) (x3 : Int) (x4 : Int) (σ : St) : Rx k_X1_hear 18 [.inr (.inl (1, 0)), .inr (.inl (3, 0)), .inl x2, .inl x3, .inl x4] [] σ = if x4 < 96 then Rx k_X1_hear 25 [.inr (.inl (1, 0)), .inr (.inl (3, 0)), .inl x2, .inl x3, .inl x4] [] σ else Rx k_X1_hear 74 [.inr (.inl (1, 0)), .inr (.inl (3, 0)), .inl x2, .inl x3, .inl x4] [] σ := by
  exact Rx_ge0 (k := 3) rfl
theorem b_X1_hear_25 (x2 : Int) (x3 : Int) (x4 : Int) (σ : St) : Rx k_X1_hear 25 [.inr (.inl (1, 0)), .inr (.inl (3, 0)), .inl x2, .inl x3, .inl x4] [] σ = if x2 < (σ 3 0 1) then Rx k_X1_hear 33 [.inr (.inl (1, 0)), .inr (.inl (3, 0)), .inl x2, .inl x3, .inl x4] [] σ else Rx k_X1_hear 74 [.inr (.inl (1, 0)), .inr (.inl (3, 0)), .inl x2, .inl x3, .inl x4] [] σ := by
  exact Rx_ge0 (k := 4) rfl
theorem b_X1_hear_33 (x2 : Int) (x3 : Int) (x4 : Int) (σ : St) : Rx k_X1_hear 33 [.inr (.inl (1, 0)), .inr (.inl (3, 0)), .inl x2, .inl x3, .inl x4] [] σ = (Rx k_X0_tell 0 [.inr (.inl (3, 0)), .inl x2, .inr (.inl (7, 1))] [] σ).bind fun q => Rx k_X1_hear 42 [.inr (.inl (1, 0)), .inr (.inl (3, 0)), .inl x2, .inl x3, .inl x4] (q.1.toList ++ []) q.2 := by
  refine (Rx_N (k := 4) (pc' := 39) (ls' := [.inr (.inl (1, 0)), .inr (.inl (3, 0)), .inl x2, .inl x3, .inl x4]) (st' := [.inr (.inl (7, 1)), .inl x2, .inr (.inl (3, 0))]) (σ' := σ) rfl).trans ?_
  exact Rx_call (n := 3) (y' := k_X0_tell) (as := [.inr (.inl (3, 0)), .inl x2, .inr (.inl (7, 1))]) (rest := []) rfl rfl rfl
theorem b_X1_hear_42 (x2 : Int) (x3 : Int) (x4 : Int) (s0 : Int) (σ : St) : Rx k_X1_hear 42 [.inr (.inl (1, 0)), .inr (.inl (3, 0)), .inl x2, .inl x3, .inl x4] [.inl s0] σ = if s0 = 0 then Rx k_X1_hear 45 [.inr (.inl (1, 0)), .inr (.inl (3, 0)), .inl x2, .inl x3, .inl x4] [] σ else Rx k_X1_hear 51 [.inr (.inl (1, 0)), .inr (.inl (3, 0)), .inl x2, .inl x3, .inl x4] [] σ := by
  exact Rx_ne0 (k := 1) rfl
theorem r_X1_hear_45 (x2 : Int) (x3 : Int) (x4 : Int) (σ : St) : Rx k_X1_hear 45 [.inr (.inl (1, 0)), .inr (.inl (3, 0)), .inl x2, .inl x3, .inl x4] [] σ = some (some (.inl (wr ((-2000) - x2))), σ) := by
  refine (Rx_N (k := 3) (pc' := 50) (ls' := [.inr (.inl (1, 0)), .inr (.inl (3, 0)), .inl x2, .inl x3, .inl x4]) (st' := [.inl (wr ((-2000) - x2))]) (σ' := σ) rfl).trans ?_
  exact Rx_ret rfl rfl
theorem b_X1_hear_45 (x2 : Int) (x3 : Int) (x4 : Int) (σ : St) (g0a : -2147483648 ≤ ((-2000) - x2)) (g0b : ((-2000) - x2) < 2147483648) : Rx k_X1_hear 45 [.inr (.inl (1, 0)), .inr (.inl (3, 0)), .inl x2, .inl x3, .inl x4] [] σ = some (some (.inl ((-2000) - x2)), σ) := by
  have e0 := wr_id (x := ((-2000) - x2)) g0a g0b
  have raw := r_X1_hear_45 x2 x3 x4 σ 
  simp only [e0] at raw
  exact raw
theorem b_X1_hear_51 (x2 : Int) (x3 : Int) (x4 : Int) (σ : St) : Rx k_X1_hear 51 [.inr (.inl (1, 0)), .inr (.inl (3, 0)), .inl x2, .inl x3, .inl x4] [] σ = (Rx k_X0_letterAt 0 [.inr (.inl (3, 0)), .inl x2] [] σ).bind fun q => Rx k_X1_hear 57 [.inr (.inl (1, 0)), .inr (.inl (3, 0)), .inl x2, .inl x3, .inl x4] (q.1.toList ++ [.inl x2]) q.2 := by
  refine (Rx_N (k := 3) (pc' := 54) (ls' := [.inr (.inl (1, 0)), .inr (.inl (3, 0)), .inl x2, .inl x3, .inl x4]) (st' := [.inl x2, .inr (.inl (3, 0)), .inl x2]) (σ' := σ) rfl).trans ?_
  exact Rx_call (n := 3) (y' := k_X0_letterAt) (as := [.inr (.inl (3, 0)), .inl x2]) (rest := [.inl x2]) rfl rfl rfl
theorem b_X1_hear_57 (x2 : Int) (x3 : Int) (x4 : Int) (s1 : Int) (s0 : Int) (σ : St) : Rx k_X1_hear 57 [.inr (.inl (1, 0)), .inr (.inl (3, 0)), .inl x2, .inl x3, .inl x4] [.inl s1, .inl s0] σ = (Rx k_X0_formOf 0 [.inl s1] [] σ).bind fun q => Rx k_X1_hear 60 [.inr (.inl (1, 0)), .inr (.inl (3, 0)), .inl x2, .inl x3, .inl x4] (q.1.toList ++ [.inl s0]) q.2 := by
  exact Rx_call (n := 3) (y' := k_X0_formOf) (as := [.inl s1]) (rest := [.inl s0]) rfl rfl rfl
theorem b_X1_hear_60 (x2 : Int) (x3 : Int) (x4 : Int) (q1 : Nat) (s0 : Int) (σ : St) : Rx k_X1_hear 60 [.inr (.inl (1, 0)), .inr (.inl (3, 0)), .inl x2, .inl x3, .inl x4] [.inr (.inl (30, q1)), .inl s0] σ = (Rx k_J0_length_8abf5 0 [.inr (.inl (30, q1))] [] σ).bind fun q => Rx k_X1_hear 63 [.inr (.inl (1, 0)), .inr (.inl (3, 0)), .inl x2, .inl x3, .inl x4] (q.1.toList ++ [.inl s0]) q.2 := by
  exact Rx_call (n := 3) (y' := k_J0_length_8abf5) (as := [.inr (.inl (30, q1))]) (rest := [.inl s0]) rfl rfl rfl
theorem r_X1_hear_63 (x2 : Int) (x3 : Int) (x4 : Int) (s1 : Int) (s0 : Int) (σ : St) : Rx k_X1_hear 63 [.inr (.inl (1, 0)), .inr (.inl (3, 0)), .inl x2, .inl x3, .inl x4] [.inl s1, .inl s0] σ = Rx k_X1_hear 18 [.inr (.inl (1, 0)), .inr (.inl (3, 0)), .inl (wr (s0 + s1)), .inl (wr (x3 + 1)), .inl (wr (x4 + 1))] [] σ := by
  refine (Rx_N (k := 5) (pc' := 18) (ls' := [.inr (.inl (1, 0)), .inr (.inl (3, 0)), .inl (wr (s0 + s1)), .inl (wr (x3 + 1)), .inl (wr (x4 + 1))]) (st' := []) (σ' := σ) rfl).trans ?_
  rfl
theorem b_X1_hear_63 (x2 : Int) (x3 : Int) (x4 : Int) (s1 : Int) (s0 : Int) (σ : St) (g0a : -2147483648 ≤ (x3 + 1)) (g0b : (x3 + 1) < 2147483648) (g1a : -2147483648 ≤ (x4 + 1)) (g1b : (x4 + 1) < 2147483648) (g2a : -2147483648 ≤ (s0 + s1)) (g2b : (s0 + s1) < 2147483648) : Rx k_X1_hear 63 [.inr (.inl (1, 0)), .inr (.inl (3, 0)), .inl x2, .inl x3, .inl x4] [.inl s1, .inl s0] σ = Rx k_X1_hear 18 [.inr (.inl (1, 0)), .inr (.inl (3, 0)), .inl (s0 + s1), .inl (x3 + 1), .inl (x4 + 1)] [] σ := by
  have e0 := wr_id (x := (x3 + 1)) g0a g0b
  have e1 := wr_id (x := (x4 + 1)) g1a g1b
  have e2 := wr_id (x := (s0 + s1)) g2a g2b
  have raw := r_X1_hear_63 x2 x3 x4 s1 s0 σ 
  simp only [e0, e1, e2] at raw
  exact raw
theorem b_X1_hear_74 (x2 : Int) (x3 : Int) (x4 : Int) (σ : St) : Rx k_X1_hear 74 [.inr (.inl (1, 0)), .inr (.inl (3, 0)), .inl x2, .inl x3, .inl x4] [] σ = (Rx k_X2_become 0 [.inr (.inl (7, 0)), .inr (.inl (7, 1))] [] σ).bind fun q => Rx k_X1_hear 85 [.inr (.inl (1, 0)), .inr (.inl (3, 0)), .inl x2, .inl x3, .inl x4] (q.1.toList ++ []) q.2 := by
  refine (Rx_N (k := 4) (pc' := 82) (ls' := [.inr (.inl (1, 0)), .inr (.inl (3, 0)), .inl x2, .inl x3, .inl x4]) (st' := [.inr (.inl (7, 1)), .inr (.inl (7, 0))]) (σ' := σ) rfl).trans ?_
  exact Rx_call (n := 3) (y' := k_X2_become) (as := [.inr (.inl (7, 0)), .inr (.inl (7, 1))]) (rest := []) rfl rfl rfl
theorem b_X1_hear_85 (x2 : Int) (x3 : Int) (x4 : Int) (σ : St) : Rx k_X1_hear 85 [.inr (.inl (1, 0)), .inr (.inl (3, 0)), .inl x2, .inl x3, .inl x4] [] σ = some (some (.inl x3), σ) := by
  refine (Rx_N (k := 1) (pc' := 86) (ls' := [.inr (.inl (1, 0)), .inr (.inl (3, 0)), .inl x2, .inl x3, .inl x4]) (st' := [.inl x3]) (σ' := σ) rfl).trans ?_
  exact Rx_ret rfl rfl
theorem b_X1_behind_0 (x1 : Int) (σ : St) : Rx k_X1_behind 0 [.inr (.inl (1, 0)), .inl x1] [] σ = (Rx k_X2_become 0 [.inr (.inl (7, 1)), .inr (.inl (7, 0))] [] σ).bind fun q => Rx k_X1_behind 11 [.inr (.inl (1, 0)), .inl x1] (q.1.toList ++ []) q.2 := by
  refine (Rx_N (k := 4) (pc' := 8) (ls' := [.inr (.inl (1, 0)), .inl x1]) (st' := [.inr (.inl (7, 0)), .inr (.inl (7, 1))]) (σ' := σ) rfl).trans ?_
  exact Rx_call (n := 3) (y' := k_X2_become) (as := [.inr (.inl (7, 1)), .inr (.inl (7, 0))]) (rest := []) rfl rfl rfl
theorem b_X1_behind_11 (x1 : Int) (σ : St) : Rx k_X1_behind 11 [.inr (.inl (1, 0)), .inl x1] [] σ = (Rx k_X2_passDays 0 [.inr (.inl (7, 1)), .inl x1, uns] [] σ).bind fun q => Rx k_X1_behind 19 [.inr (.inl (1, 0)), .inl x1] (q.1.toList ++ []) q.2 := by
  refine (Rx_N (k := 3) (pc' := 16) (ls' := [.inr (.inl (1, 0)), .inl x1]) (st' := [.inl x1, .inr (.inl (7, 1))]) (σ' := σ) rfl).trans ?_
  exact Rx_call (n := 3) (y' := k_X2_passDays) (as := [.inr (.inl (7, 1)), .inl x1]) (rest := []) rfl rfl rfl
theorem b_X1_behind_19 (x1 : Int) (σ : St) : Rx k_X1_behind 19 [.inr (.inl (1, 0)), .inl x1] [] σ = some (some (.inr (.inl (7, 1))), σ) := by
  refine (Rx_N (k := 2) (pc' := 23) (ls' := [.inr (.inl (1, 0)), .inl x1]) (st' := [.inr (.inl (7, 1))]) (σ' := σ) rfl).trans ?_
  exact Rx_ret rfl rfl
theorem b_X1_downBehind_0 (x1 : Int) (σ : St) : Rx k_X1_downBehind 0 [.inr (.inl (1, 0)), .inl x1] [] σ = (Rx k_X2_become 0 [.inr (.inl (7, 1)), .inr (.inl (7, 0))] [] σ).bind fun q => Rx k_X1_downBehind 11 [.inr (.inl (1, 0)), .inl x1] (q.1.toList ++ []) q.2 := by
  refine (Rx_N (k := 4) (pc' := 8) (ls' := [.inr (.inl (1, 0)), .inl x1]) (st' := [.inr (.inl (7, 0)), .inr (.inl (7, 1))]) (σ' := σ) rfl).trans ?_
  exact Rx_call (n := 3) (y' := k_X2_become) (as := [.inr (.inl (7, 1)), .inr (.inl (7, 0))]) (rest := []) rfl rfl rfl
theorem b_X1_downBehind_11 (x1 : Int) (σ : St) : Rx k_X1_downBehind 11 [.inr (.inl (1, 0)), .inl x1] [] σ = (Rx k_X1_downFromThen 0 [.inr (.inl (1, 0)), .inl x1, uns] [] σ).bind fun q => Rx k_X1_downBehind 16 [.inr (.inl (1, 0)), .inl x1] (q.1.toList ++ []) q.2 := by
  refine (Rx_N (k := 2) (pc' := 13) (ls' := [.inr (.inl (1, 0)), .inl x1]) (st' := [.inl x1, .inr (.inl (1, 0))]) (σ' := σ) rfl).trans ?_
  exact Rx_call (n := 3) (y' := k_X1_downFromThen) (as := [.inr (.inl (1, 0)), .inl x1]) (rest := []) rfl rfl rfl
theorem b_X1_downBehind_16 (x1 : Int) (s0 : Int) (σ : St) : Rx k_X1_downBehind 16 [.inr (.inl (1, 0)), .inl x1] [.inl s0] σ = some (some (.inl s0), σ) := by
  exact Rx_ret rfl rfl
theorem b_X1_downFromThen_0 (x1 : Int) (u2 : AV) (σ : St) : Rx k_X1_downFromThen 0 [.inr (.inl (1, 0)), .inl x1, u2] [] σ = Rx k_X1_downFromThen 2 [.inr (.inl (1, 0)), .inl x1, .inl 0] [] σ := by
  refine (Rx_N (k := 2) (pc' := 2) (ls' := [.inr (.inl (1, 0)), .inl x1, .inl 0]) (st' := []) (σ' := σ) rfl).trans ?_
  rfl
theorem b_X1_downFromThen_2 (x1 : Int) (x2 : Int) (σ : St) : Rx k_X1_downFromThen 2 [.inr (.inl (1, 0)), .inl x1, .inl x2] [] σ = if 99 < x2 then Rx k_X1_downFromThen 34 [.inr (.inl (1, 0)), .inl x1, .inl x2] [] σ else Rx k_X1_downFromThen 8 [.inr (.inl (1, 0)), .inl x1, .inl x2] [] σ := by
  exact Rx_gt0 (k := 3) rfl
theorem b_X1_downFromThen_8 (x1 : Int) (x2 : Int) (σ : St) : Rx k_X1_downFromThen 8 [.inr (.inl (1, 0)), .inl x1, .inl x2] [] σ = (Rx k_X2_isUp 0 [.inr (.inl (7, 1)), .inl x1] [] σ).bind fun q => Rx k_X1_downFromThen 16 [.inr (.inl (1, 0)), .inl x1, .inl x2] (q.1.toList ++ []) q.2 := by
  refine (Rx_N (k := 3) (pc' := 13) (ls' := [.inr (.inl (1, 0)), .inl x1, .inl x2]) (st' := [.inl x1, .inr (.inl (7, 1))]) (σ' := σ) rfl).trans ?_
  exact Rx_call (n := 3) (y' := k_X2_isUp) (as := [.inr (.inl (7, 1)), .inl x1]) (rest := []) rfl rfl rfl
theorem b_X1_downFromThen_16 (x1 : Int) (x2 : Int) (s0 : Int) (σ : St) : Rx k_X1_downFromThen 16 [.inr (.inl (1, 0)), .inl x1, .inl x2] [.inl s0] σ = if s0 = 0 then Rx k_X1_downFromThen 19 [.inr (.inl (1, 0)), .inl x1, .inl x2] [] σ else Rx k_X1_downFromThen 21 [.inr (.inl (1, 0)), .inl x1, .inl x2] [] σ := by
  exact Rx_ne0 (k := 1) rfl
theorem b_X1_downFromThen_19 (x1 : Int) (x2 : Int) (σ : St) : Rx k_X1_downFromThen 19 [.inr (.inl (1, 0)), .inl x1, .inl x2] [] σ = some (some (.inl x2), σ) := by
  refine (Rx_N (k := 1) (pc' := 20) (ls' := [.inr (.inl (1, 0)), .inl x1, .inl x2]) (st' := [.inl x2]) (σ' := σ) rfl).trans ?_
  exact Rx_ret rfl rfl
theorem b_X1_downFromThen_21 (x1 : Int) (x2 : Int) (σ : St) : Rx k_X1_downFromThen 21 [.inr (.inl (1, 0)), .inl x1, .inl x2] [] σ = (Rx k_X2_passDay 0 [.inr (.inl (7, 1)), uns, uns] [] σ).bind fun q => Rx k_X1_downFromThen 28 [.inr (.inl (1, 0)), .inl x1, .inl x2] (q.1.toList ++ []) q.2 := by
  refine (Rx_N (k := 2) (pc' := 25) (ls' := [.inr (.inl (1, 0)), .inl x1, .inl x2]) (st' := [.inr (.inl (7, 1))]) (σ' := σ) rfl).trans ?_
  exact Rx_call (n := 3) (y' := k_X2_passDay) (as := [.inr (.inl (7, 1))]) (rest := []) rfl rfl rfl
theorem r_X1_downFromThen_28 (x1 : Int) (x2 : Int) (σ : St) : Rx k_X1_downFromThen 28 [.inr (.inl (1, 0)), .inl x1, .inl x2] [] σ = Rx k_X1_downFromThen 2 [.inr (.inl (1, 0)), .inl x1, .inl (wr (x2 + 1))] [] σ := by
  refine (Rx_N (k := 2) (pc' := 2) (ls' := [.inr (.inl (1, 0)), .inl x1, .inl (wr (x2 + 1))]) (st' := []) (σ' := σ) rfl).trans ?_
  rfl
theorem b_X1_downFromThen_28 (x1 : Int) (x2 : Int) (σ : St) (g0a : -2147483648 ≤ (x2 + 1)) (g0b : (x2 + 1) < 2147483648) : Rx k_X1_downFromThen 28 [.inr (.inl (1, 0)), .inl x1, .inl x2] [] σ = Rx k_X1_downFromThen 2 [.inr (.inl (1, 0)), .inl x1, .inl (x2 + 1)] [] σ := by
  have e0 := wr_id (x := (x2 + 1)) g0a g0b
  have raw := r_X1_downFromThen_28 x1 x2 σ 
  simp only [e0] at raw
  exact raw
theorem b_X1_downFromThen_34 (x1 : Int) (x2 : Int) (σ : St) : Rx k_X1_downFromThen 34 [.inr (.inl (1, 0)), .inl x1, .inl x2] [] σ = some (some (.inl (-9)), σ) := by
  refine (Rx_N (k := 1) (pc' := 36) (ls' := [.inr (.inl (1, 0)), .inl x1, .inl x2]) (st' := [.inl (-9)]) (σ' := σ) rfl).trans ?_
  exact Rx_ret rfl rfl
theorem b_X1_firstDownBehind_0 (u1 : AV) (σ : St) : Rx k_X1_firstDownBehind 0 [.inr (.inl (1, 0)), u1] [] σ = (Rx k_X2_become 0 [.inr (.inl (7, 1)), .inr (.inl (7, 0))] [] σ).bind fun q => Rx k_X1_firstDownBehind 11 [.inr (.inl (1, 0)), u1] (q.1.toList ++ []) q.2 := by
  refine (Rx_N (k := 4) (pc' := 8) (ls' := [.inr (.inl (1, 0)), u1]) (st' := [.inr (.inl (7, 0)), .inr (.inl (7, 1))]) (σ' := σ) rfl).trans ?_
  exact Rx_call (n := 3) (y' := k_X2_become) (as := [.inr (.inl (7, 1)), .inr (.inl (7, 0))]) (rest := []) rfl rfl rfl
theorem b_X1_firstDownBehind_11 (u1 : AV) (σ : St) : Rx k_X1_firstDownBehind 11 [.inr (.inl (1, 0)), u1] [] σ = Rx k_X1_firstDownBehind 13 [.inr (.inl (1, 0)), .inl 1] [] σ := by
  refine (Rx_N (k := 2) (pc' := 13) (ls' := [.inr (.inl (1, 0)), .inl 1]) (st' := []) (σ' := σ) rfl).trans ?_
  rfl
theorem b_X1_firstDownBehind_13 (x1 : Int) (σ : St) : Rx k_X1_firstDownBehind 13 [.inr (.inl (1, 0)), .inl x1] [] σ = if 99 < x1 then Rx k_X1_firstDownBehind 51 [.inr (.inl (1, 0)), .inl x1] [] σ else Rx k_X1_firstDownBehind 19 [.inr (.inl (1, 0)), .inl x1] [] σ := by
  exact Rx_gt0 (k := 3) rfl
theorem b_X1_firstDownBehind_19 (x1 : Int) (σ : St) : Rx k_X1_firstDownBehind 19 [.inr (.inl (1, 0)), .inl x1] [] σ = (Rx k_X2_passDay 0 [.inr (.inl (7, 1)), uns, uns] [] σ).bind fun q => Rx k_X1_firstDownBehind 26 [.inr (.inl (1, 0)), .inl x1] (q.1.toList ++ []) q.2 := by
  refine (Rx_N (k := 2) (pc' := 23) (ls' := [.inr (.inl (1, 0)), .inl x1]) (st' := [.inr (.inl (7, 1))]) (σ' := σ) rfl).trans ?_
  exact Rx_call (n := 3) (y' := k_X2_passDay) (as := [.inr (.inl (7, 1))]) (rest := []) rfl rfl rfl
theorem b_X1_firstDownBehind_26 (x1 : Int) (σ : St) : Rx k_X1_firstDownBehind 26 [.inr (.inl (1, 0)), .inl x1] [] σ = if (σ 7 1 3) = (σ 7 0 3) then Rx k_X1_firstDownBehind 45 [.inr (.inl (1, 0)), .inl x1] [] σ else Rx k_X1_firstDownBehind 43 [.inr (.inl (1, 0)), .inl x1] [] σ := by
  exact Rx_eq0 (k := 7) rfl
theorem b_X1_firstDownBehind_43 (x1 : Int) (σ : St) : Rx k_X1_firstDownBehind 43 [.inr (.inl (1, 0)), .inl x1] [] σ = some (some (.inl x1), σ) := by
  refine (Rx_N (k := 1) (pc' := 44) (ls' := [.inr (.inl (1, 0)), .inl x1]) (st' := [.inl x1]) (σ' := σ) rfl).trans ?_
  exact Rx_ret rfl rfl
theorem r_X1_firstDownBehind_45 (x1 : Int) (σ : St) : Rx k_X1_firstDownBehind 45 [.inr (.inl (1, 0)), .inl x1] [] σ = Rx k_X1_firstDownBehind 13 [.inr (.inl (1, 0)), .inl (wr (x1 + 1))] [] σ := by
  refine (Rx_N (k := 2) (pc' := 13) (ls' := [.inr (.inl (1, 0)), .inl (wr (x1 + 1))]) (st' := []) (σ' := σ) rfl).trans ?_
  rfl
theorem b_X1_firstDownBehind_45 (x1 : Int) (σ : St) (g0a : -2147483648 ≤ (x1 + 1)) (g0b : (x1 + 1) < 2147483648) : Rx k_X1_firstDownBehind 45 [.inr (.inl (1, 0)), .inl x1] [] σ = Rx k_X1_firstDownBehind 13 [.inr (.inl (1, 0)), .inl (x1 + 1)] [] σ := by
  have e0 := wr_id (x := (x1 + 1)) g0a g0b
  have raw := r_X1_firstDownBehind_45 x1 σ 
  simp only [e0] at raw
  exact raw
theorem b_X1_firstDownBehind_51 (x1 : Int) (σ : St) : Rx k_X1_firstDownBehind 51 [.inr (.inl (1, 0)), .inl x1] [] σ = some (some (.inl (-9)), σ) := by
  refine (Rx_N (k := 1) (pc' := 53) (ls' := [.inr (.inl (1, 0)), .inl x1]) (st' := [.inl (-9)]) (σ' := σ) rfl).trans ?_
  exact Rx_ret rfl rfl
theorem b_X1_flatBehind_0 (u1 : AV) (σ : St) : Rx k_X1_flatBehind 0 [.inr (.inl (1, 0)), u1] [] σ = (Rx k_X2_become 0 [.inr (.inl (7, 1)), .inr (.inl (7, 0))] [] σ).bind fun q => Rx k_X1_flatBehind 11 [.inr (.inl (1, 0)), u1] (q.1.toList ++ []) q.2 := by
  refine (Rx_N (k := 4) (pc' := 8) (ls' := [.inr (.inl (1, 0)), u1]) (st' := [.inr (.inl (7, 0)), .inr (.inl (7, 1))]) (σ' := σ) rfl).trans ?_
  exact Rx_call (n := 3) (y' := k_X2_become) (as := [.inr (.inl (7, 1)), .inr (.inl (7, 0))]) (rest := []) rfl rfl rfl
theorem b_X1_flatBehind_11 (u1 : AV) (σ : St) : Rx k_X1_flatBehind 11 [.inr (.inl (1, 0)), u1] [] σ = Rx k_X1_flatBehind 13 [.inr (.inl (1, 0)), .inl 0] [] σ := by
  refine (Rx_N (k := 2) (pc' := 13) (ls' := [.inr (.inl (1, 0)), .inl 0]) (st' := []) (σ' := σ) rfl).trans ?_
  rfl
theorem b_X1_flatBehind_13 (x1 : Int) (σ : St) : Rx k_X1_flatBehind 13 [.inr (.inl (1, 0)), .inl x1] [] σ = if 99 < x1 then Rx k_X1_flatBehind 44 [.inr (.inl (1, 0)), .inl x1] [] σ else Rx k_X1_flatBehind 19 [.inr (.inl (1, 0)), .inl x1] [] σ := by
  exact Rx_gt0 (k := 3) rfl
theorem b_X1_flatBehind_19 (x1 : Int) (σ : St) : Rx k_X1_flatBehind 19 [.inr (.inl (1, 0)), .inl x1] [] σ = if (σ 7 1 3) = 0 then Rx k_X1_flatBehind 29 [.inr (.inl (1, 0)), .inl x1] [] σ else Rx k_X1_flatBehind 31 [.inr (.inl (1, 0)), .inl x1] [] σ := by
  exact Rx_ne0 (k := 4) rfl
theorem b_X1_flatBehind_29 (x1 : Int) (σ : St) : Rx k_X1_flatBehind 29 [.inr (.inl (1, 0)), .inl x1] [] σ = some (some (.inl x1), σ) := by
  refine (Rx_N (k := 1) (pc' := 30) (ls' := [.inr (.inl (1, 0)), .inl x1]) (st' := [.inl x1]) (σ' := σ) rfl).trans ?_
  exact Rx_ret rfl rfl
theorem b_X1_flatBehind_31 (x1 : Int) (σ : St) : Rx k_X1_flatBehind 31 [.inr (.inl (1, 0)), .inl x1] [] σ = (Rx k_X2_passDay 0 [.inr (.inl (7, 1)), uns, uns] [] σ).bind fun q => Rx k_X1_flatBehind 38 [.inr (.inl (1, 0)), .inl x1] (q.1.toList ++ []) q.2 := by
  refine (Rx_N (k := 2) (pc' := 35) (ls' := [.inr (.inl (1, 0)), .inl x1]) (st' := [.inr (.inl (7, 1))]) (σ' := σ) rfl).trans ?_
  exact Rx_call (n := 3) (y' := k_X2_passDay) (as := [.inr (.inl (7, 1))]) (rest := []) rfl rfl rfl
theorem r_X1_flatBehind_38 (x1 : Int) (σ : St) : Rx k_X1_flatBehind 38 [.inr (.inl (1, 0)), .inl x1] [] σ = Rx k_X1_flatBehind 13 [.inr (.inl (1, 0)), .inl (wr (x1 + 1))] [] σ := by
  refine (Rx_N (k := 2) (pc' := 13) (ls' := [.inr (.inl (1, 0)), .inl (wr (x1 + 1))]) (st' := []) (σ' := σ) rfl).trans ?_
  rfl
theorem b_X1_flatBehind_38 (x1 : Int) (σ : St) (g0a : -2147483648 ≤ (x1 + 1)) (g0b : (x1 + 1) < 2147483648) : Rx k_X1_flatBehind 38 [.inr (.inl (1, 0)), .inl x1] [] σ = Rx k_X1_flatBehind 13 [.inr (.inl (1, 0)), .inl (x1 + 1)] [] σ := by
  have e0 := wr_id (x := (x1 + 1)) g0a g0b
  have raw := r_X1_flatBehind_38 x1 σ 
  simp only [e0] at raw
  exact raw
theorem b_X1_flatBehind_44 (x1 : Int) (σ : St) : Rx k_X1_flatBehind 44 [.inr (.inl (1, 0)), .inl x1] [] σ = some (some (.inl (-9)), σ) := by
  refine (Rx_N (k := 1) (pc' := 46) (ls' := [.inr (.inl (1, 0)), .inl x1]) (st' := [.inl (-9)]) (σ' := σ) rfl).trans ?_
  exact Rx_ret rfl rfl
theorem b_X1_betterLean_0 (x1 : Int) (u2 : AV) (u3 : AV) (u4 : AV) (u5 : AV) (u6 : AV) (σ : St) : Rx k_X1_betterLean 0 [.inr (.inl (1, 0)), .inl x1, u2, u3, u4, u5, u6] [] σ = Rx k_X1_betterLean 8 [.inr (.inl (1, 0)), .inl x1, .inl (-9), .inl (-1), .inl 0, u5, u6] [] σ := by
  refine (Rx_N (k := 6) (pc' := 8) (ls' := [.inr (.inl (1, 0)), .inl x1, .inl (-9), .inl (-1), .inl 0, u5, u6]) (st' := []) (σ' := σ) rfl).trans ?_
  rfl
theorem b_X1_betterLean_8 (x1 : Int) (x2 : Int) (x3 : Int) (x4 : Int) (u5 : AV) (u6 : AV) (σ : St) : Rx k_X1_betterLean 8 [.inr (.inl (1, 0)), .inl x1, .inl x2, .inl x3, .inl x4, u5, u6] [] σ = if x4 < (σ 7 0 0) then Rx k_X1_betterLean 20 [.inr (.inl (1, 0)), .inl x1, .inl x2, .inl x3, .inl x4, u5, u6] [] σ else Rx k_X1_betterLean 83 [.inr (.inl (1, 0)), .inl x1, .inl x2, .inl x3, .inl x4, u5, u6] [] σ := by
  exact Rx_ge0 (k := 5) rfl
theorem b_X1_betterLean_20 (x1 : Int) (x2 : Int) (x3 : Int) (x4 : Int) (u5 : AV) (u6 : AV) (σ : St) : Rx k_X1_betterLean 20 [.inr (.inl (1, 0)), .inl x1, .inl x2, .inl x3, .inl x4, u5, u6] [] σ = (Rx k_X2_become 0 [.inr (.inl (7, 1)), .inr (.inl (7, 0))] [] σ).bind fun q => Rx k_X1_betterLean 31 [.inr (.inl (1, 0)), .inl x1, .inl x2, .inl x3, .inl x4, u5, u6] (q.1.toList ++ []) q.2 := by
  refine (Rx_N (k := 4) (pc' := 28) (ls' := [.inr (.inl (1, 0)), .inl x1, .inl x2, .inl x3, .inl x4, u5, u6]) (st' := [.inr (.inl (7, 0)), .inr (.inl (7, 1))]) (σ' := σ) rfl).trans ?_
  exact Rx_call (n := 3) (y' := k_X2_become) (as := [.inr (.inl (7, 1)), .inr (.inl (7, 0))]) (rest := []) rfl rfl rfl
theorem b_X1_betterLean_31 (x1 : Int) (x2 : Int) (x3 : Int) (x4 : Int) (u5 : AV) (u6 : AV) (σ : St) : Rx k_X1_betterLean 31 [.inr (.inl (1, 0)), .inl x1, .inl x2, .inl x3, .inl x4, u5, u6] [] σ = (Rx k_X2_leanOn 0 [.inr (.inl (7, 1)), .inl x1, .inl x4] [] σ).bind fun q => Rx k_X1_betterLean 41 [.inr (.inl (1, 0)), .inl x1, .inl x2, .inl x3, .inl x4, u5, u6] (q.1.toList ++ []) q.2 := by
  refine (Rx_N (k := 4) (pc' := 38) (ls' := [.inr (.inl (1, 0)), .inl x1, .inl x2, .inl x3, .inl x4, u5, u6]) (st' := [.inl x4, .inl x1, .inr (.inl (7, 1))]) (σ' := σ) rfl).trans ?_
  exact Rx_call (n := 3) (y' := k_X2_leanOn) (as := [.inr (.inl (7, 1)), .inl x1, .inl x4]) (rest := []) rfl rfl rfl
theorem b_X1_betterLean_41 (x1 : Int) (x2 : Int) (x3 : Int) (x4 : Int) (u5 : AV) (u6 : AV) (s0 : Int) (σ : St) : Rx k_X1_betterLean 41 [.inr (.inl (1, 0)), .inl x1, .inl x2, .inl x3, .inl x4, u5, u6] [.inl s0] σ = (Rx k_X1_downFromThen 0 [.inr (.inl (1, 0)), .inl x1, uns] [] σ).bind fun q => Rx k_X1_betterLean 47 [.inr (.inl (1, 0)), .inl x1, .inl x2, .inl x3, .inl x4, u5, u6] (q.1.toList ++ []) q.2 := by
  refine (Rx_N (k := 3) (pc' := 44) (ls' := [.inr (.inl (1, 0)), .inl x1, .inl x2, .inl x3, .inl x4, u5, u6]) (st' := [.inl x1, .inr (.inl (1, 0))]) (σ' := σ) rfl).trans ?_
  exact Rx_call (n := 3) (y' := k_X1_downFromThen) (as := [.inr (.inl (1, 0)), .inl x1]) (rest := []) rfl rfl rfl
theorem b_X1_betterLean_47 (x1 : Int) (x2 : Int) (x3 : Int) (x4 : Int) (u5 : AV) (u6 : AV) (s0 : Int) (σ : St) : Rx k_X1_betterLean 47 [.inr (.inl (1, 0)), .inl x1, .inl x2, .inl x3, .inl x4, u5, u6] [.inl s0] σ = if s0 = (-9) then Rx k_X1_betterLean 56 [.inr (.inl (1, 0)), .inl x1, .inl x2, .inl x3, .inl x4, .inl s0, u6] [] σ else Rx k_X1_betterLean 61 [.inr (.inl (1, 0)), .inl x1, .inl x2, .inl x3, .inl x4, .inl s0, u6] [] σ := by
  exact Rx_ne0 (k := 4) rfl
theorem b_X1_betterLean_56 (x1 : Int) (x2 : Int) (x3 : Int) (x4 : Int) (x5 : Int) (u6 : AV) (σ : St) : Rx k_X1_betterLean 56 [.inr (.inl (1, 0)), .inl x1, .inl x2, .inl x3, .inl x4, .inl x5, u6] [] σ = if x3 < 100 then Rx k_X1_betterLean 71 [.inr (.inl (1, 0)), .inl x1, .inl x2, .inl x3, .inl x4, .inl x5, .inl 100] [] σ else Rx k_X1_betterLean 77 [.inr (.inl (1, 0)), .inl x1, .inl x2, .inl x3, .inl x4, .inl x5, .inl 100] [] σ := by
  exact Rx_le0 (k := 6) rfl
theorem b_X1_betterLean_61 (x1 : Int) (x2 : Int) (x3 : Int) (x4 : Int) (x5 : Int) (u6 : AV) (σ : St) : Rx k_X1_betterLean 61 [.inr (.inl (1, 0)), .inl x1, .inl x2, .inl x3, .inl x4, .inl x5, u6] [] σ = if x3 < x5 then Rx k_X1_betterLean 71 [.inr (.inl (1, 0)), .inl x1, .inl x2, .inl x3, .inl x4, .inl x5, .inl x5] [] σ else Rx k_X1_betterLean 77 [.inr (.inl (1, 0)), .inl x1, .inl x2, .inl x3, .inl x4, .inl x5, .inl x5] [] σ := by
  exact Rx_le0 (k := 5) rfl
theorem r_X1_betterLean_71 (x1 : Int) (x2 : Int) (x3 : Int) (x4 : Int) (x5 : Int) (x6 : Int) (σ : St) : Rx k_X1_betterLean 71 [.inr (.inl (1, 0)), .inl x1, .inl x2, .inl x3, .inl x4, .inl x5, .inl x6] [] σ = Rx k_X1_betterLean 8 [.inr (.inl (1, 0)), .inl x1, .inl x4, .inl x6, .inl (wr (x4 + 1)), .inl x5, .inl x6] [] σ := by
  refine (Rx_N (k := 6) (pc' := 8) (ls' := [.inr (.inl (1, 0)), .inl x1, .inl x4, .inl x6, .inl (wr (x4 + 1)), .inl x5, .inl x6]) (st' := []) (σ' := σ) rfl).trans ?_
  rfl
theorem b_X1_betterLean_71 (x1 : Int) (x2 : Int) (x3 : Int) (x4 : Int) (x5 : Int) (x6 : Int) (σ : St) (g0a : -2147483648 ≤ (x4 + 1)) (g0b : (x4 + 1) < 2147483648) : Rx k_X1_betterLean 71 [.inr (.inl (1, 0)), .inl x1, .inl x2, .inl x3, .inl x4, .inl x5, .inl x6] [] σ = Rx k_X1_betterLean 8 [.inr (.inl (1, 0)), .inl x1, .inl x4, .inl x6, .inl (x4 + 1), .inl x5, .inl x6] [] σ := by
  have e0 := wr_id (x := (x4 + 1)) g0a g0b
  have raw := r_X1_betterLean_71 x1 x2 x3 x4 x5 x6 σ 
  simp only [e0] at raw
  exact raw
theorem r_X1_betterLean_77 (x1 : Int) (x2 : Int) (x3 : Int) (x4 : Int) (x5 : Int) (x6 : Int) (σ : St) : Rx k_X1_betterLean 77 [.inr (.inl (1, 0)), .inl x1, .inl x2, .inl x3, .inl x4, .inl x5, .inl x6] [] σ = Rx k_X1_betterLean 8 [.inr (.inl (1, 0)), .inl x1, .inl x2, .inl x3, .inl (wr (x4 + 1)), .inl x5, .inl x6] [] σ := by
  refine (Rx_N (k := 2) (pc' := 8) (ls' := [.inr (.inl (1, 0)), .inl x1, .inl x2, .inl x3, .inl (wr (x4 + 1)), .inl x5, .inl x6]) (st' := []) (σ' := σ) rfl).trans ?_
  rfl
theorem b_X1_betterLean_77 (x1 : Int) (x2 : Int) (x3 : Int) (x4 : Int) (x5 : Int) (x6 : Int) (σ : St) (g0a : -2147483648 ≤ (x4 + 1)) (g0b : (x4 + 1) < 2147483648) : Rx k_X1_betterLean 77 [.inr (.inl (1, 0)), .inl x1, .inl x2, .inl x3, .inl x4, .inl x5, .inl x6] [] σ = Rx k_X1_betterLean 8 [.inr (.inl (1, 0)), .inl x1, .inl x2, .inl x3, .inl (x4 + 1), .inl x5, .inl x6] [] σ := by
  have e0 := wr_id (x := (x4 + 1)) g0a g0b
  have raw := r_X1_betterLean_77 x1 x2 x3 x4 x5 x6 σ 
  simp only [e0] at raw
  exact raw
theorem b_X1_betterLean_83 (x1 : Int) (x2 : Int) (x3 : Int) (x4 : Int) (u5 : AV) (u6 : AV) (σ : St) : Rx k_X1_betterLean 83 [.inr (.inl (1, 0)), .inl x1, .inl x2, .inl x3, .inl x4, u5, u6] [] σ = some (some (.inl x2), σ) := by
  refine (Rx_N (k := 1) (pc' := 84) (ls' := [.inr (.inl (1, 0)), .inl x1, .inl x2, .inl x3, .inl x4, u5, u6]) (st' := [.inl x2]) (σ' := σ) rfl).trans ?_
  exact Rx_ret rfl rfl
theorem b_X1_bestOfThree_0 (x1 : Int) (x2 : Int) (x3 : Int) (x4 : Int) (u5 : AV) (u6 : AV) (u7 : AV) (u8 : AV) (u9 : AV) (u10 : AV) (u11 : AV) (σ : St) : Rx k_X1_bestOfThree 0 [.inr (.inl (1, 0)), .inl x1, .inl x2, .inl x3, .inl x4, u5, u6, u7, u8, u9, u10, u11] [] σ = Rx k_X1_bestOfThree 10 [.inr (.inl (1, 0)), .inl x1, .inl x2, .inl x3, .inl x4, .inl (-9), .inl (-1), .inl 0, u8, u9, u10, u11] [] σ := by
  refine (Rx_N (k := 6) (pc' := 10) (ls' := [.inr (.inl (1, 0)), .inl x1, .inl x2, .inl x3, .inl x4, .inl (-9), .inl (-1), .inl 0, u8, u9, u10, u11]) (st' := []) (σ' := σ) rfl).trans ?_
  rfl
theorem b_X1_bestOfThree_10 (x1 : Int) (x2 : Int) (x3 : Int) (x4 : Int) (x5 : Int) (x6 : Int) (x7 : Int) (u8 : AV) (u9 : AV) (u10 : AV) (u11 : AV) (σ : St) : Rx k_X1_bestOfThree 10 [.inr (.inl (1, 0)), .inl x1, .inl x2, .inl x3, .inl x4, .inl x5, .inl x6, .inl x7, u8, u9, u10, u11] [] σ = if x7 < (σ 7 0 0) then Rx k_X1_bestOfThree 22 [.inr (.inl (1, 0)), .inl x1, .inl x2, .inl x3, .inl x4, .inl x5, .inl x6, .inl x7, u8, u9, u10, u11] [] σ else Rx k_X1_bestOfThree 114 [.inr (.inl (1, 0)), .inl x1, .inl x2, .inl x3, .inl x4, .inl x5, .inl x6, .inl x7, u8, u9, u10, u11] [] σ := by
  exact Rx_ge0 (k := 5) rfl
theorem b_X1_bestOfThree_22 (x1 : Int) (x2 : Int) (x3 : Int) (x4 : Int) (x5 : Int) (x6 : Int) (x7 : Int) (u8 : AV) (u9 : AV) (u10 : AV) (u11 : AV) (σ : St) : Rx k_X1_bestOfThree 22 [.inr (.inl (1, 0)), .inl x1, .inl x2, .inl x3, .inl x4, .inl x5, .inl x6, .inl x7, u8, u9, u10, u11] [] σ = Rx k_X1_bestOfThree 25 [.inr (.inl (1, 0)), .inl x1, .inl x2, .inl x3, .inl x4, .inl x5, .inl x6, .inl x7, .inl 0, u9, u10, u11] [] σ := by
  refine (Rx_N (k := 2) (pc' := 25) (ls' := [.inr (.inl (1, 0)), .inl x1, .inl x2, .inl x3, .inl x4, .inl x5, .inl x6, .inl x7, .inl 0, u9, u10, u11]) (st' := []) (σ' := σ) rfl).trans ?_
  rfl
theorem b_X1_bestOfThree_25 (x1 : Int) (x2 : Int) (x3 : Int) (x4 : Int) (x5 : Int) (x6 : Int) (x7 : Int) (x8 : Int) (u9 : AV) (u10 : AV) (u11 : AV) (σ : St) : Rx k_X1_bestOfThree 25 [.inr (.inl (1, 0)), .inl x1, .inl x2, .inl x3, .inl x4, .inl x5, .inl x6, .inl x7, .inl x8, u9, u10, u11] [] σ = if x8 < (σ 7 0 0) then Rx k_X1_bestOfThree 37 [.inr (.inl (1, 0)), .inl x1, .inl x2, .inl x3, .inl x4, .inl x5, .inl x6, .inl x7, .inl x8, u9, u10, u11] [] σ else Rx k_X1_bestOfThree 108 [.inr (.inl (1, 0)), .inl x1, .inl x2, .inl x3, .inl x4, .inl x5, .inl x6, .inl x7, .inl x8, u9, u10, u11] [] σ := by
  exact Rx_ge0 (k := 5) rfl
theorem b_X1_bestOfThree_37 (x1 : Int) (x2 : Int) (x3 : Int) (x4 : Int) (x5 : Int) (x6 : Int) (x7 : Int) (x8 : Int) (u9 : AV) (u10 : AV) (u11 : AV) (σ : St) : Rx k_X1_bestOfThree 37 [.inr (.inl (1, 0)), .inl x1, .inl x2, .inl x3, .inl x4, .inl x5, .inl x6, .inl x7, .inl x8, u9, u10, u11] [] σ = Rx k_X1_bestOfThree 40 [.inr (.inl (1, 0)), .inl x1, .inl x2, .inl x3, .inl x4, .inl x5, .inl x6, .inl x7, .inl x8, .inl 0, u10, u11] [] σ := by
  refine (Rx_N (k := 2) (pc' := 40) (ls' := [.inr (.inl (1, 0)), .inl x1, .inl x2, .inl x3, .inl x4, .inl x5, .inl x6, .inl x7, .inl x8, .inl 0, u10, u11]) (st' := []) (σ' := σ) rfl).trans ?_
  rfl
theorem b_X1_bestOfThree_40 (x1 : Int) (x2 : Int) (x3 : Int) (x4 : Int) (x5 : Int) (x6 : Int) (x7 : Int) (x8 : Int) (x9 : Int) (u10 : AV) (u11 : AV) (σ : St) : Rx k_X1_bestOfThree 40 [.inr (.inl (1, 0)), .inl x1, .inl x2, .inl x3, .inl x4, .inl x5, .inl x6, .inl x7, .inl x8, .inl x9, u10, u11] [] σ = if x9 < (σ 7 0 0) then Rx k_X1_bestOfThree 52 [.inr (.inl (1, 0)), .inl x1, .inl x2, .inl x3, .inl x4, .inl x5, .inl x6, .inl x7, .inl x8, .inl x9, u10, u11] [] σ else Rx k_X1_bestOfThree 102 [.inr (.inl (1, 0)), .inl x1, .inl x2, .inl x3, .inl x4, .inl x5, .inl x6, .inl x7, .inl x8, .inl x9, u10, u11] [] σ := by
  exact Rx_ge0 (k := 5) rfl
theorem r_X1_bestOfThree_52 (x1 : Int) (x2 : Int) (x3 : Int) (x4 : Int) (x5 : Int) (x6 : Int) (x7 : Int) (x8 : Int) (x9 : Int) (u10 : AV) (u11 : AV) (σ : St) : Rx k_X1_bestOfThree 52 [.inr (.inl (1, 0)), .inl x1, .inl x2, .inl x3, .inl x4, .inl x5, .inl x6, .inl x7, .inl x8, .inl x9, u10, u11] [] σ = (Rx k_X1_standingLeant 0 [.inr (.inl (1, 0)), .inl x1, .inl x2, .inl x3, .inl (wr ((wr ((wr (100 * x7)) + (wr (10 * x8)))) + x9)), .inl x4] [] σ).bind fun q => Rx k_X1_bestOfThree 79 [.inr (.inl (1, 0)), .inl x1, .inl x2, .inl x3, .inl x4, .inl x5, .inl x6, .inl x7, .inl x8, .inl x9, .inl (wr ((wr ((wr (100 * x7)) + (wr (10 * x8)))) + x9)), u11] (q.1.toList ++ []) q.2 := by
  refine (Rx_N (k := 16) (pc' := 76) (ls' := [.inr (.inl (1, 0)), .inl x1, .inl x2, .inl x3, .inl x4, .inl x5, .inl x6, .inl x7, .inl x8, .inl x9, .inl (wr ((wr ((wr (100 * x7)) + (wr (10 * x8)))) + x9)), u11]) (st' := [.inl x4, .inl (wr ((wr ((wr (100 * x7)) + (wr (10 * x8)))) + x9)), .inl x3, .inl x2, .inl x1, .inr (.inl (1, 0))]) (σ' := σ) rfl).trans ?_
  exact Rx_call (n := 3) (y' := k_X1_standingLeant) (as := [.inr (.inl (1, 0)), .inl x1, .inl x2, .inl x3, .inl (wr ((wr ((wr (100 * x7)) + (wr (10 * x8)))) + x9)), .inl x4]) (rest := []) rfl rfl rfl
theorem b_X1_bestOfThree_52 (x1 : Int) (x2 : Int) (x3 : Int) (x4 : Int) (x5 : Int) (x6 : Int) (x7 : Int) (x8 : Int) (x9 : Int) (u10 : AV) (u11 : AV) (σ : St) (g0a : -2147483648 ≤ (10 * x8)) (g0b : (10 * x8) < 2147483648) (g1a : -2147483648 ≤ (100 * x7)) (g1b : (100 * x7) < 2147483648) (g2a : -2147483648 ≤ (((100 * x7)) + (10 * x8))) (g2b : (((100 * x7)) + (10 * x8)) < 2147483648) (g3a : -2147483648 ≤ (((((100 * x7)) + (10 * x8))) + x9)) (g3b : (((((100 * x7)) + (10 * x8))) + x9) < 2147483648) : Rx k_X1_bestOfThree 52 [.inr (.inl (1, 0)), .inl x1, .inl x2, .inl x3, .inl x4, .inl x5, .inl x6, .inl x7, .inl x8, .inl x9, u10, u11] [] σ = (Rx k_X1_standingLeant 0 [.inr (.inl (1, 0)), .inl x1, .inl x2, .inl x3, .inl (((((100 * x7)) + (10 * x8))) + x9), .inl x4] [] σ).bind fun q => Rx k_X1_bestOfThree 79 [.inr (.inl (1, 0)), .inl x1, .inl x2, .inl x3, .inl x4, .inl x5, .inl x6, .inl x7, .inl x8, .inl x9, .inl (((((100 * x7)) + (10 * x8))) + x9), u11] (q.1.toList ++ []) q.2 := by
  have e0 := wr_id (x := (10 * x8)) g0a g0b
  have e1 := wr_id (x := (100 * x7)) g1a g1b
  have e2 := wr_id (x := (((100 * x7)) + (10 * x8))) g2a g2b
  have e3 := wr_id (x := (((((100 * x7)) + (10 * x8))) + x9)) g3a g3b
  have raw := r_X1_bestOfThree_52 x1 x2 x3 x4 x5 x6 x7 x8 x9 u10 u11 σ 
  simp only [e0, e1, e2, e3] at raw
  exact raw
theorem b_X1_bestOfThree_79 (x1 : Int) (x2 : Int) (x3 : Int) (x4 : Int) (x5 : Int) (x6 : Int) (x7 : Int) (x8 : Int) (x9 : Int) (x10 : Int) (u11 : AV) (s0 : Int) (σ : St) : Rx k_X1_bestOfThree 79 [.inr (.inl (1, 0)), .inl x1, .inl x2, .inl x3, .inl x4, .inl x5, .inl x6, .inl x7, .inl x8, .inl x9, .inl x10, u11] [.inl s0] σ = if x6 < s0 then Rx k_X1_bestOfThree 88 [.inr (.inl (1, 0)), .inl x1, .inl x2, .inl x3, .inl x4, .inl x5, .inl x6, .inl x7, .inl x8, .inl x9, .inl x10, .inl s0] [] σ else Rx k_X1_bestOfThree 96 [.inr (.inl (1, 0)), .inl x1, .inl x2, .inl x3, .inl x4, .inl x5, .inl x6, .inl x7, .inl x8, .inl x9, .inl x10, .inl s0] [] σ := by
  exact Rx_le0 (k := 4) rfl
theorem r_X1_bestOfThree_88 (x1 : Int) (x2 : Int) (x3 : Int) (x4 : Int) (x5 : Int) (x6 : Int) (x7 : Int) (x8 : Int) (x9 : Int) (x10 : Int) (x11 : Int) (σ : St) : Rx k_X1_bestOfThree 88 [.inr (.inl (1, 0)), .inl x1, .inl x2, .inl x3, .inl x4, .inl x5, .inl x6, .inl x7, .inl x8, .inl x9, .inl x10, .inl x11] [] σ = Rx k_X1_bestOfThree 40 [.inr (.inl (1, 0)), .inl x1, .inl x2, .inl x3, .inl x4, .inl x10, .inl x11, .inl x7, .inl x8, .inl (wr (x9 + 1)), .inl x10, .inl x11] [] σ := by
  refine (Rx_N (k := 6) (pc' := 40) (ls' := [.inr (.inl (1, 0)), .inl x1, .inl x2, .inl x3, .inl x4, .inl x10, .inl x11, .inl x7, .inl x8, .inl (wr (x9 + 1)), .inl x10, .inl x11]) (st' := []) (σ' := σ) rfl).trans ?_
  rfl
theorem b_X1_bestOfThree_88 (x1 : Int) (x2 : Int) (x3 : Int) (x4 : Int) (x5 : Int) (x6 : Int) (x7 : Int) (x8 : Int) (x9 : Int) (x10 : Int) (x11 : Int) (σ : St) (g0a : -2147483648 ≤ (x9 + 1)) (g0b : (x9 + 1) < 2147483648) : Rx k_X1_bestOfThree 88 [.inr (.inl (1, 0)), .inl x1, .inl x2, .inl x3, .inl x4, .inl x5, .inl x6, .inl x7, .inl x8, .inl x9, .inl x10, .inl x11] [] σ = Rx k_X1_bestOfThree 40 [.inr (.inl (1, 0)), .inl x1, .inl x2, .inl x3, .inl x4, .inl x10, .inl x11, .inl x7, .inl x8, .inl (x9 + 1), .inl x10, .inl x11] [] σ := by
  have e0 := wr_id (x := (x9 + 1)) g0a g0b
  have raw := r_X1_bestOfThree_88 x1 x2 x3 x4 x5 x6 x7 x8 x9 x10 x11 σ 
  simp only [e0] at raw
  exact raw
theorem r_X1_bestOfThree_96 (x1 : Int) (x2 : Int) (x3 : Int) (x4 : Int) (x5 : Int) (x6 : Int) (x7 : Int) (x8 : Int) (x9 : Int) (x10 : Int) (x11 : Int) (σ : St) : Rx k_X1_bestOfThree 96 [.inr (.inl (1, 0)), .inl x1, .inl x2, .inl x3, .inl x4, .inl x5, .inl x6, .inl x7, .inl x8, .inl x9, .inl x10, .inl x11] [] σ = Rx k_X1_bestOfThree 40 [.inr (.inl (1, 0)), .inl x1, .inl x2, .inl x3, .inl x4, .inl x5, .inl x6, .inl x7, .inl x8, .inl (wr (x9 + 1)), .inl x10, .inl x11] [] σ := by
  refine (Rx_N (k := 2) (pc' := 40) (ls' := [.inr (.inl (1, 0)), .inl x1, .inl x2, .inl x3, .inl x4, .inl x5, .inl x6, .inl x7, .inl x8, .inl (wr (x9 + 1)), .inl x10, .inl x11]) (st' := []) (σ' := σ) rfl).trans ?_
  rfl
theorem b_X1_bestOfThree_96 (x1 : Int) (x2 : Int) (x3 : Int) (x4 : Int) (x5 : Int) (x6 : Int) (x7 : Int) (x8 : Int) (x9 : Int) (x10 : Int) (x11 : Int) (σ : St) (g0a : -2147483648 ≤ (x9 + 1)) (g0b : (x9 + 1) < 2147483648) : Rx k_X1_bestOfThree 96 [.inr (.inl (1, 0)), .inl x1, .inl x2, .inl x3, .inl x4, .inl x5, .inl x6, .inl x7, .inl x8, .inl x9, .inl x10, .inl x11] [] σ = Rx k_X1_bestOfThree 40 [.inr (.inl (1, 0)), .inl x1, .inl x2, .inl x3, .inl x4, .inl x5, .inl x6, .inl x7, .inl x8, .inl (x9 + 1), .inl x10, .inl x11] [] σ := by
  have e0 := wr_id (x := (x9 + 1)) g0a g0b
  have raw := r_X1_bestOfThree_96 x1 x2 x3 x4 x5 x6 x7 x8 x9 x10 x11 σ 
  simp only [e0] at raw
  exact raw
theorem r_X1_bestOfThree_102 (x1 : Int) (x2 : Int) (x3 : Int) (x4 : Int) (x5 : Int) (x6 : Int) (x7 : Int) (x8 : Int) (x9 : Int) (u10 : AV) (u11 : AV) (σ : St) : Rx k_X1_bestOfThree 102 [.inr (.inl (1, 0)), .inl x1, .inl x2, .inl x3, .inl x4, .inl x5, .inl x6, .inl x7, .inl x8, .inl x9, u10, u11] [] σ = Rx k_X1_bestOfThree 25 [.inr (.inl (1, 0)), .inl x1, .inl x2, .inl x3, .inl x4, .inl x5, .inl x6, .inl x7, .inl (wr (x8 + 1)), .inl x9, u10, u11] [] σ := by
  refine (Rx_N (k := 2) (pc' := 25) (ls' := [.inr (.inl (1, 0)), .inl x1, .inl x2, .inl x3, .inl x4, .inl x5, .inl x6, .inl x7, .inl (wr (x8 + 1)), .inl x9, u10, u11]) (st' := []) (σ' := σ) rfl).trans ?_
  rfl
theorem b_X1_bestOfThree_102 (x1 : Int) (x2 : Int) (x3 : Int) (x4 : Int) (x5 : Int) (x6 : Int) (x7 : Int) (x8 : Int) (x9 : Int) (u10 : AV) (u11 : AV) (σ : St) (g0a : -2147483648 ≤ (x8 + 1)) (g0b : (x8 + 1) < 2147483648) : Rx k_X1_bestOfThree 102 [.inr (.inl (1, 0)), .inl x1, .inl x2, .inl x3, .inl x4, .inl x5, .inl x6, .inl x7, .inl x8, .inl x9, u10, u11] [] σ = Rx k_X1_bestOfThree 25 [.inr (.inl (1, 0)), .inl x1, .inl x2, .inl x3, .inl x4, .inl x5, .inl x6, .inl x7, .inl (x8 + 1), .inl x9, u10, u11] [] σ := by
  have e0 := wr_id (x := (x8 + 1)) g0a g0b
  have raw := r_X1_bestOfThree_102 x1 x2 x3 x4 x5 x6 x7 x8 x9 u10 u11 σ 
  simp only [e0] at raw
  exact raw
theorem r_X1_bestOfThree_108 (x1 : Int) (x2 : Int) (x3 : Int) (x4 : Int) (x5 : Int) (x6 : Int) (x7 : Int) (x8 : Int) (u9 : AV) (u10 : AV) (u11 : AV) (σ : St) : Rx k_X1_bestOfThree 108 [.inr (.inl (1, 0)), .inl x1, .inl x2, .inl x3, .inl x4, .inl x5, .inl x6, .inl x7, .inl x8, u9, u10, u11] [] σ = Rx k_X1_bestOfThree 10 [.inr (.inl (1, 0)), .inl x1, .inl x2, .inl x3, .inl x4, .inl x5, .inl x6, .inl (wr (x7 + 1)), .inl x8, u9, u10, u11] [] σ := by
  refine (Rx_N (k := 2) (pc' := 10) (ls' := [.inr (.inl (1, 0)), .inl x1, .inl x2, .inl x3, .inl x4, .inl x5, .inl x6, .inl (wr (x7 + 1)), .inl x8, u9, u10, u11]) (st' := []) (σ' := σ) rfl).trans ?_
  rfl
theorem b_X1_bestOfThree_108 (x1 : Int) (x2 : Int) (x3 : Int) (x4 : Int) (x5 : Int) (x6 : Int) (x7 : Int) (x8 : Int) (u9 : AV) (u10 : AV) (u11 : AV) (σ : St) (g0a : -2147483648 ≤ (x7 + 1)) (g0b : (x7 + 1) < 2147483648) : Rx k_X1_bestOfThree 108 [.inr (.inl (1, 0)), .inl x1, .inl x2, .inl x3, .inl x4, .inl x5, .inl x6, .inl x7, .inl x8, u9, u10, u11] [] σ = Rx k_X1_bestOfThree 10 [.inr (.inl (1, 0)), .inl x1, .inl x2, .inl x3, .inl x4, .inl x5, .inl x6, .inl (x7 + 1), .inl x8, u9, u10, u11] [] σ := by
  have e0 := wr_id (x := (x7 + 1)) g0a g0b
  have raw := r_X1_bestOfThree_108 x1 x2 x3 x4 x5 x6 x7 x8 u9 u10 u11 σ 
  simp only [e0] at raw
  exact raw
theorem b_X1_bestOfThree_114 (x1 : Int) (x2 : Int) (x3 : Int) (x4 : Int) (x5 : Int) (x6 : Int) (x7 : Int) (u8 : AV) (u9 : AV) (u10 : AV) (u11 : AV) (σ : St) : Rx k_X1_bestOfThree 114 [.inr (.inl (1, 0)), .inl x1, .inl x2, .inl x3, .inl x4, .inl x5, .inl x6, .inl x7, u8, u9, u10, u11] [] σ = some (some (.inl x5), σ) := by
  refine (Rx_N (k := 1) (pc' := 116) (ls' := [.inr (.inl (1, 0)), .inl x1, .inl x2, .inl x3, .inl x4, .inl x5, .inl x6, .inl x7, u8, u9, u10, u11]) (st' := [.inl x5]) (σ' := σ) rfl).trans ?_
  exact Rx_ret rfl rfl
theorem b_X1_standingLeant_0 (x1 : Int) (x2 : Int) (x3 : Int) (x4 : Int) (x5 : Int) (σ : St) : Rx k_X1_standingLeant 0 [.inr (.inl (1, 0)), .inl x1, .inl x2, .inl x3, .inl x4, .inl x5] [] σ = (Rx k_X2_become 0 [.inr (.inl (7, 1)), .inr (.inl (7, 0))] [] σ).bind fun q => Rx k_X1_standingLeant 11 [.inr (.inl (1, 0)), .inl x1, .inl x2, .inl x3, .inl x4, .inl x5] (q.1.toList ++ []) q.2 := by
  refine (Rx_N (k := 4) (pc' := 8) (ls' := [.inr (.inl (1, 0)), .inl x1, .inl x2, .inl x3, .inl x4, .inl x5]) (st' := [.inr (.inl (7, 0)), .inr (.inl (7, 1))]) (σ' := σ) rfl).trans ?_
  exact Rx_call (n := 3) (y' := k_X2_become) (as := [.inr (.inl (7, 1)), .inr (.inl (7, 0))]) (rest := []) rfl rfl rfl
theorem r_X1_standingLeant_11 (x1 : Int) (x2 : Int) (x3 : Int) (x4 : Int) (x5 : Int) (σ : St) : Rx k_X1_standingLeant 11 [.inr (.inl (1, 0)), .inl x1, .inl x2, .inl x3, .inl x4, .inl x5] [] σ = (Rx k_X2_leanOn 0 [.inr (.inl (7, 1)), .inl x1, .inl (wr (x4.tdiv 100))] [] σ).bind fun q => Rx k_X1_standingLeant 24 [.inr (.inl (1, 0)), .inl x1, .inl x2, .inl x3, .inl x4, .inl x5] (q.1.toList ++ []) q.2 := by
  refine (Rx_N (k := 6) (pc' := 21) (ls' := [.inr (.inl (1, 0)), .inl x1, .inl x2, .inl x3, .inl x4, .inl x5]) (st' := [.inl (wr (x4.tdiv 100)), .inl x1, .inr (.inl (7, 1))]) (σ' := σ) rfl).trans ?_
  exact Rx_call (n := 3) (y' := k_X2_leanOn) (as := [.inr (.inl (7, 1)), .inl x1, .inl (wr (x4.tdiv 100))]) (rest := []) rfl rfl rfl
theorem b_X1_standingLeant_11 (x1 : Int) (x2 : Int) (x3 : Int) (x4 : Int) (x5 : Int) (σ : St) (g0a : -2147483648 ≤ (x4.tdiv 100)) (g0b : (x4.tdiv 100) < 2147483648) : Rx k_X1_standingLeant 11 [.inr (.inl (1, 0)), .inl x1, .inl x2, .inl x3, .inl x4, .inl x5] [] σ = (Rx k_X2_leanOn 0 [.inr (.inl (7, 1)), .inl x1, .inl (x4.tdiv 100)] [] σ).bind fun q => Rx k_X1_standingLeant 24 [.inr (.inl (1, 0)), .inl x1, .inl x2, .inl x3, .inl x4, .inl x5] (q.1.toList ++ []) q.2 := by
  have e0 := wr_id (x := (x4.tdiv 100)) g0a g0b
  have raw := r_X1_standingLeant_11 x1 x2 x3 x4 x5 σ 
  simp only [e0] at raw
  exact raw
theorem r_X1_standingLeant_24 (x1 : Int) (x2 : Int) (x3 : Int) (x4 : Int) (x5 : Int) (s0 : Int) (σ : St) : Rx k_X1_standingLeant 24 [.inr (.inl (1, 0)), .inl x1, .inl x2, .inl x3, .inl x4, .inl x5] [.inl s0] σ = (Rx k_X2_leanOn 0 [.inr (.inl (7, 1)), .inl x2, .inl ((wr (x4.tdiv 10)).tmod 10)] [] σ).bind fun q => Rx k_X1_standingLeant 41 [.inr (.inl (1, 0)), .inl x1, .inl x2, .inl x3, .inl x4, .inl x5] (q.1.toList ++ []) q.2 := by
  refine (Rx_N (k := 9) (pc' := 38) (ls' := [.inr (.inl (1, 0)), .inl x1, .inl x2, .inl x3, .inl x4, .inl x5]) (st' := [.inl ((wr (x4.tdiv 10)).tmod 10), .inl x2, .inr (.inl (7, 1))]) (σ' := σ) rfl).trans ?_
  exact Rx_call (n := 3) (y' := k_X2_leanOn) (as := [.inr (.inl (7, 1)), .inl x2, .inl ((wr (x4.tdiv 10)).tmod 10)]) (rest := []) rfl rfl rfl
theorem b_X1_standingLeant_24 (x1 : Int) (x2 : Int) (x3 : Int) (x4 : Int) (x5 : Int) (s0 : Int) (σ : St) (g0a : -2147483648 ≤ (x4.tdiv 10)) (g0b : (x4.tdiv 10) < 2147483648) : Rx k_X1_standingLeant 24 [.inr (.inl (1, 0)), .inl x1, .inl x2, .inl x3, .inl x4, .inl x5] [.inl s0] σ = (Rx k_X2_leanOn 0 [.inr (.inl (7, 1)), .inl x2, .inl (((x4.tdiv 10)).tmod 10)] [] σ).bind fun q => Rx k_X1_standingLeant 41 [.inr (.inl (1, 0)), .inl x1, .inl x2, .inl x3, .inl x4, .inl x5] (q.1.toList ++ []) q.2 := by
  have e0 := wr_id (x := (x4.tdiv 10)) g0a g0b
  have raw := r_X1_standingLeant_24 x1 x2 x3 x4 x5 s0 σ 
  simp only [e0] at raw
  exact raw
theorem b_X1_standingLeant_41 (x1 : Int) (x2 : Int) (x3 : Int) (x4 : Int) (x5 : Int) (s0 : Int) (σ : St) : Rx k_X1_standingLeant 41 [.inr (.inl (1, 0)), .inl x1, .inl x2, .inl x3, .inl x4, .inl x5] [.inl s0] σ = (Rx k_X2_leanOn 0 [.inr (.inl (7, 1)), .inl x3, .inl (x4.tmod 10)] [] σ).bind fun q => Rx k_X1_standingLeant 55 [.inr (.inl (1, 0)), .inl x1, .inl x2, .inl x3, .inl x4, .inl x5] (q.1.toList ++ []) q.2 := by
  refine (Rx_N (k := 7) (pc' := 52) (ls' := [.inr (.inl (1, 0)), .inl x1, .inl x2, .inl x3, .inl x4, .inl x5]) (st' := [.inl (x4.tmod 10), .inl x3, .inr (.inl (7, 1))]) (σ' := σ) rfl).trans ?_
  exact Rx_call (n := 3) (y' := k_X2_leanOn) (as := [.inr (.inl (7, 1)), .inl x3, .inl (x4.tmod 10)]) (rest := []) rfl rfl rfl
theorem b_X1_standingLeant_55 (x1 : Int) (x2 : Int) (x3 : Int) (x4 : Int) (x5 : Int) (s0 : Int) (σ : St) : Rx k_X1_standingLeant 55 [.inr (.inl (1, 0)), .inl x1, .inl x2, .inl x3, .inl x4, .inl x5] [.inl s0] σ = (Rx k_X2_passDays 0 [.inr (.inl (7, 1)), .inl x5, uns] [] σ).bind fun q => Rx k_X1_standingLeant 65 [.inr (.inl (1, 0)), .inl x1, .inl x2, .inl x3, .inl x4, .inl x5] (q.1.toList ++ []) q.2 := by
  refine (Rx_N (k := 4) (pc' := 62) (ls' := [.inr (.inl (1, 0)), .inl x1, .inl x2, .inl x3, .inl x4, .inl x5]) (st' := [.inl x5, .inr (.inl (7, 1))]) (σ' := σ) rfl).trans ?_
  exact Rx_call (n := 3) (y' := k_X2_passDays) (as := [.inr (.inl (7, 1)), .inl x5]) (rest := []) rfl rfl rfl
theorem b_X1_standingLeant_65 (x1 : Int) (x2 : Int) (x3 : Int) (x4 : Int) (x5 : Int) (σ : St) : Rx k_X1_standingLeant 65 [.inr (.inl (1, 0)), .inl x1, .inl x2, .inl x3, .inl x4, .inl x5] [] σ = (Rx k_X2_standing 0 [.inr (.inl (7, 1))] [] σ).bind fun q => Rx k_X1_standingLeant 72 [.inr (.inl (1, 0)), .inl x1, .inl x2, .inl x3, .inl x4, .inl x5] (q.1.toList ++ []) q.2 := by
  refine (Rx_N (k := 2) (pc' := 69) (ls' := [.inr (.inl (1, 0)), .inl x1, .inl x2, .inl x3, .inl x4, .inl x5]) (st' := [.inr (.inl (7, 1))]) (σ' := σ) rfl).trans ?_
  exact Rx_call (n := 3) (y' := k_X2_standing) (as := [.inr (.inl (7, 1))]) (rest := []) rfl rfl rfl
theorem b_X1_standingLeant_72 (x1 : Int) (x2 : Int) (x3 : Int) (x4 : Int) (x5 : Int) (s0 : Int) (σ : St) : Rx k_X1_standingLeant 72 [.inr (.inl (1, 0)), .inl x1, .inl x2, .inl x3, .inl x4, .inl x5] [.inl s0] σ = some (some (.inl s0), σ) := by
  exact Rx_ret rfl rfl
theorem b_X1_toMend_0 (x1 : Int) (u2 : AV) (u3 : AV) (u4 : AV) (u5 : AV) (σ : St) : Rx k_X1_toMend 0 [.inr (.inl (1, 0)), .inl x1, u2, u3, u4, u5] [] σ = (Rx k_X1_behind 0 [.inr (.inl (1, 0)), .inl x1] [] σ).bind fun q => Rx k_X1_toMend 8 [.inr (.inl (1, 0)), .inl x1, .inl (-9), u3, u4, u5] (q.1.toList ++ []) q.2 := by
  refine (Rx_N (k := 4) (pc' := 5) (ls' := [.inr (.inl (1, 0)), .inl x1, .inl (-9), u3, u4, u5]) (st' := [.inl x1, .inr (.inl (1, 0))]) (σ' := σ) rfl).trans ?_
  exact Rx_call (n := 3) (y' := k_X1_behind) (as := [.inr (.inl (1, 0)), .inl x1]) (rest := []) rfl rfl rfl
theorem b_X1_toMend_8 (x1 : Int) (x2 : Int) (u3 : AV) (u4 : AV) (u5 : AV) (q0 : Nat) (σ : St) : Rx k_X1_toMend 8 [.inr (.inl (1, 0)), .inl x1, .inl x2, u3, u4, u5] [.inr (.inl (7, q0))] σ = (Rx k_X2_standing 0 [.inr (.inl (7, q0))] [] σ).bind fun q => Rx k_X1_toMend 11 [.inr (.inl (1, 0)), .inl x1, .inl x2, u3, u4, u5] (q.1.toList ++ []) q.2 := by
  exact Rx_call (n := 3) (y' := k_X2_standing) (as := [.inr (.inl (7, q0))]) (rest := []) rfl rfl rfl
theorem b_X1_toMend_11 (x1 : Int) (x2 : Int) (u3 : AV) (u4 : AV) (u5 : AV) (s0 : Int) (σ : St) : Rx k_X1_toMend 11 [.inr (.inl (1, 0)), .inl x1, .inl x2, u3, u4, u5] [.inl s0] σ = Rx k_X1_toMend 15 [.inr (.inl (1, 0)), .inl x1, .inl x2, .inl s0, .inl 0, u5] [] σ := by
  refine (Rx_N (k := 3) (pc' := 15) (ls' := [.inr (.inl (1, 0)), .inl x1, .inl x2, .inl s0, .inl 0, u5]) (st' := []) (σ' := σ) rfl).trans ?_
  rfl
theorem b_X1_toMend_15 (x1 : Int) (x2 : Int) (x3 : Int) (x4 : Int) (u5 : AV) (σ : St) : Rx k_X1_toMend 15 [.inr (.inl (1, 0)), .inl x1, .inl x2, .inl x3, .inl x4, u5] [] σ = if x4 < (σ 7 0 0) then Rx k_X1_toMend 27 [.inr (.inl (1, 0)), .inl x1, .inl x2, .inl x3, .inl x4, u5] [] σ else Rx k_X1_toMend 56 [.inr (.inl (1, 0)), .inl x1, .inl x2, .inl x3, .inl x4, u5] [] σ := by
  exact Rx_ge0 (k := 5) rfl
theorem b_X1_toMend_27 (x1 : Int) (x2 : Int) (x3 : Int) (x4 : Int) (u5 : AV) (σ : St) : Rx k_X1_toMend 27 [.inr (.inl (1, 0)), .inl x1, .inl x2, .inl x3, .inl x4, u5] [] σ = (Rx k_X1_standingWith 0 [.inr (.inl (1, 0)), .inl x4, .inl 99, .inl x1] [] σ).bind fun q => Rx k_X1_toMend 36 [.inr (.inl (1, 0)), .inl x1, .inl x2, .inl x3, .inl x4, u5] (q.1.toList ++ []) q.2 := by
  refine (Rx_N (k := 4) (pc' := 33) (ls' := [.inr (.inl (1, 0)), .inl x1, .inl x2, .inl x3, .inl x4, u5]) (st' := [.inl x1, .inl 99, .inl x4, .inr (.inl (1, 0))]) (σ' := σ) rfl).trans ?_
  exact Rx_call (n := 3) (y' := k_X1_standingWith) (as := [.inr (.inl (1, 0)), .inl x4, .inl 99, .inl x1]) (rest := []) rfl rfl rfl
theorem b_X1_toMend_36 (x1 : Int) (x2 : Int) (x3 : Int) (x4 : Int) (u5 : AV) (s0 : Int) (σ : St) : Rx k_X1_toMend 36 [.inr (.inl (1, 0)), .inl x1, .inl x2, .inl x3, .inl x4, u5] [.inl s0] σ = if x3 < s0 then Rx k_X1_toMend 44 [.inr (.inl (1, 0)), .inl x1, .inl x2, .inl x3, .inl x4, .inl s0] [] σ else Rx k_X1_toMend 50 [.inr (.inl (1, 0)), .inl x1, .inl x2, .inl x3, .inl x4, .inl s0] [] σ := by
  exact Rx_le0 (k := 4) rfl
theorem r_X1_toMend_44 (x1 : Int) (x2 : Int) (x3 : Int) (x4 : Int) (x5 : Int) (σ : St) : Rx k_X1_toMend 44 [.inr (.inl (1, 0)), .inl x1, .inl x2, .inl x3, .inl x4, .inl x5] [] σ = Rx k_X1_toMend 15 [.inr (.inl (1, 0)), .inl x1, .inl x4, .inl x5, .inl (wr (x4 + 1)), .inl x5] [] σ := by
  refine (Rx_N (k := 6) (pc' := 15) (ls' := [.inr (.inl (1, 0)), .inl x1, .inl x4, .inl x5, .inl (wr (x4 + 1)), .inl x5]) (st' := []) (σ' := σ) rfl).trans ?_
  rfl
theorem b_X1_toMend_44 (x1 : Int) (x2 : Int) (x3 : Int) (x4 : Int) (x5 : Int) (σ : St) (g0a : -2147483648 ≤ (x4 + 1)) (g0b : (x4 + 1) < 2147483648) : Rx k_X1_toMend 44 [.inr (.inl (1, 0)), .inl x1, .inl x2, .inl x3, .inl x4, .inl x5] [] σ = Rx k_X1_toMend 15 [.inr (.inl (1, 0)), .inl x1, .inl x4, .inl x5, .inl (x4 + 1), .inl x5] [] σ := by
  have e0 := wr_id (x := (x4 + 1)) g0a g0b
  have raw := r_X1_toMend_44 x1 x2 x3 x4 x5 σ 
  simp only [e0] at raw
  exact raw
theorem r_X1_toMend_50 (x1 : Int) (x2 : Int) (x3 : Int) (x4 : Int) (x5 : Int) (σ : St) : Rx k_X1_toMend 50 [.inr (.inl (1, 0)), .inl x1, .inl x2, .inl x3, .inl x4, .inl x5] [] σ = Rx k_X1_toMend 15 [.inr (.inl (1, 0)), .inl x1, .inl x2, .inl x3, .inl (wr (x4 + 1)), .inl x5] [] σ := by
  refine (Rx_N (k := 2) (pc' := 15) (ls' := [.inr (.inl (1, 0)), .inl x1, .inl x2, .inl x3, .inl (wr (x4 + 1)), .inl x5]) (st' := []) (σ' := σ) rfl).trans ?_
  rfl
theorem b_X1_toMend_50 (x1 : Int) (x2 : Int) (x3 : Int) (x4 : Int) (x5 : Int) (σ : St) (g0a : -2147483648 ≤ (x4 + 1)) (g0b : (x4 + 1) < 2147483648) : Rx k_X1_toMend 50 [.inr (.inl (1, 0)), .inl x1, .inl x2, .inl x3, .inl x4, .inl x5] [] σ = Rx k_X1_toMend 15 [.inr (.inl (1, 0)), .inl x1, .inl x2, .inl x3, .inl (x4 + 1), .inl x5] [] σ := by
  have e0 := wr_id (x := (x4 + 1)) g0a g0b
  have raw := r_X1_toMend_50 x1 x2 x3 x4 x5 σ 
  simp only [e0] at raw
  exact raw
theorem b_X1_toMend_56 (x1 : Int) (x2 : Int) (x3 : Int) (x4 : Int) (u5 : AV) (σ : St) : Rx k_X1_toMend 56 [.inr (.inl (1, 0)), .inl x1, .inl x2, .inl x3, .inl x4, u5] [] σ = some (some (.inl x2), σ) := by
  refine (Rx_N (k := 1) (pc' := 57) (ls' := [.inr (.inl (1, 0)), .inl x1, .inl x2, .inl x3, .inl x4, u5]) (st' := [.inl x2]) (σ' := σ) rfl).trans ?_
  exact Rx_ret rfl rfl
theorem b_X1_toBreak_0 (x1 : Int) (u2 : AV) (u3 : AV) (u4 : AV) (u5 : AV) (σ : St) : Rx k_X1_toBreak 0 [.inr (.inl (1, 0)), .inl x1, u2, u3, u4, u5] [] σ = (Rx k_X1_behind 0 [.inr (.inl (1, 0)), .inl x1] [] σ).bind fun q => Rx k_X1_toBreak 8 [.inr (.inl (1, 0)), .inl x1, .inl (-9), u3, u4, u5] (q.1.toList ++ []) q.2 := by
  refine (Rx_N (k := 4) (pc' := 5) (ls' := [.inr (.inl (1, 0)), .inl x1, .inl (-9), u3, u4, u5]) (st' := [.inl x1, .inr (.inl (1, 0))]) (σ' := σ) rfl).trans ?_
  exact Rx_call (n := 3) (y' := k_X1_behind) (as := [.inr (.inl (1, 0)), .inl x1]) (rest := []) rfl rfl rfl
theorem b_X1_toBreak_8 (x1 : Int) (x2 : Int) (u3 : AV) (u4 : AV) (u5 : AV) (q0 : Nat) (σ : St) : Rx k_X1_toBreak 8 [.inr (.inl (1, 0)), .inl x1, .inl x2, u3, u4, u5] [.inr (.inl (7, q0))] σ = (Rx k_X2_standing 0 [.inr (.inl (7, q0))] [] σ).bind fun q => Rx k_X1_toBreak 11 [.inr (.inl (1, 0)), .inl x1, .inl x2, u3, u4, u5] (q.1.toList ++ []) q.2 := by
  exact Rx_call (n := 3) (y' := k_X2_standing) (as := [.inr (.inl (7, q0))]) (rest := []) rfl rfl rfl
theorem b_X1_toBreak_11 (x1 : Int) (x2 : Int) (u3 : AV) (u4 : AV) (u5 : AV) (s0 : Int) (σ : St) : Rx k_X1_toBreak 11 [.inr (.inl (1, 0)), .inl x1, .inl x2, u3, u4, u5] [.inl s0] σ = Rx k_X1_toBreak 15 [.inr (.inl (1, 0)), .inl x1, .inl x2, .inl s0, .inl 0, u5] [] σ := by
  refine (Rx_N (k := 3) (pc' := 15) (ls' := [.inr (.inl (1, 0)), .inl x1, .inl x2, .inl s0, .inl 0, u5]) (st' := []) (σ' := σ) rfl).trans ?_
  rfl
theorem b_X1_toBreak_15 (x1 : Int) (x2 : Int) (x3 : Int) (x4 : Int) (u5 : AV) (σ : St) : Rx k_X1_toBreak 15 [.inr (.inl (1, 0)), .inl x1, .inl x2, .inl x3, .inl x4, u5] [] σ = if x4 < (σ 7 0 0) then Rx k_X1_toBreak 27 [.inr (.inl (1, 0)), .inl x1, .inl x2, .inl x3, .inl x4, u5] [] σ else Rx k_X1_toBreak 55 [.inr (.inl (1, 0)), .inl x1, .inl x2, .inl x3, .inl x4, u5] [] σ := by
  exact Rx_ge0 (k := 5) rfl
theorem b_X1_toBreak_27 (x1 : Int) (x2 : Int) (x3 : Int) (x4 : Int) (u5 : AV) (σ : St) : Rx k_X1_toBreak 27 [.inr (.inl (1, 0)), .inl x1, .inl x2, .inl x3, .inl x4, u5] [] σ = (Rx k_X1_standingWith 0 [.inr (.inl (1, 0)), .inl x4, .inl 0, .inl x1] [] σ).bind fun q => Rx k_X1_toBreak 35 [.inr (.inl (1, 0)), .inl x1, .inl x2, .inl x3, .inl x4, u5] (q.1.toList ++ []) q.2 := by
  refine (Rx_N (k := 4) (pc' := 32) (ls' := [.inr (.inl (1, 0)), .inl x1, .inl x2, .inl x3, .inl x4, u5]) (st' := [.inl x1, .inl 0, .inl x4, .inr (.inl (1, 0))]) (σ' := σ) rfl).trans ?_
  exact Rx_call (n := 3) (y' := k_X1_standingWith) (as := [.inr (.inl (1, 0)), .inl x4, .inl 0, .inl x1]) (rest := []) rfl rfl rfl
theorem b_X1_toBreak_35 (x1 : Int) (x2 : Int) (x3 : Int) (x4 : Int) (u5 : AV) (s0 : Int) (σ : St) : Rx k_X1_toBreak 35 [.inr (.inl (1, 0)), .inl x1, .inl x2, .inl x3, .inl x4, u5] [.inl s0] σ = if s0 < x3 then Rx k_X1_toBreak 43 [.inr (.inl (1, 0)), .inl x1, .inl x2, .inl x3, .inl x4, .inl s0] [] σ else Rx k_X1_toBreak 49 [.inr (.inl (1, 0)), .inl x1, .inl x2, .inl x3, .inl x4, .inl s0] [] σ := by
  exact Rx_ge0 (k := 4) rfl
theorem r_X1_toBreak_43 (x1 : Int) (x2 : Int) (x3 : Int) (x4 : Int) (x5 : Int) (σ : St) : Rx k_X1_toBreak 43 [.inr (.inl (1, 0)), .inl x1, .inl x2, .inl x3, .inl x4, .inl x5] [] σ = Rx k_X1_toBreak 15 [.inr (.inl (1, 0)), .inl x1, .inl x4, .inl x5, .inl (wr (x4 + 1)), .inl x5] [] σ := by
  refine (Rx_N (k := 6) (pc' := 15) (ls' := [.inr (.inl (1, 0)), .inl x1, .inl x4, .inl x5, .inl (wr (x4 + 1)), .inl x5]) (st' := []) (σ' := σ) rfl).trans ?_
  rfl
theorem b_X1_toBreak_43 (x1 : Int) (x2 : Int) (x3 : Int) (x4 : Int) (x5 : Int) (σ : St) (g0a : -2147483648 ≤ (x4 + 1)) (g0b : (x4 + 1) < 2147483648) : Rx k_X1_toBreak 43 [.inr (.inl (1, 0)), .inl x1, .inl x2, .inl x3, .inl x4, .inl x5] [] σ = Rx k_X1_toBreak 15 [.inr (.inl (1, 0)), .inl x1, .inl x4, .inl x5, .inl (x4 + 1), .inl x5] [] σ := by
  have e0 := wr_id (x := (x4 + 1)) g0a g0b
  have raw := r_X1_toBreak_43 x1 x2 x3 x4 x5 σ 
  simp only [e0] at raw
  exact raw
theorem r_X1_toBreak_49 (x1 : Int) (x2 : Int) (x3 : Int) (x4 : Int) (x5 : Int) (σ : St) : Rx k_X1_toBreak 49 [.inr (.inl (1, 0)), .inl x1, .inl x2, .inl x3, .inl x4, .inl x5] [] σ = Rx k_X1_toBreak 15 [.inr (.inl (1, 0)), .inl x1, .inl x2, .inl x3, .inl (wr (x4 + 1)), .inl x5] [] σ := by
  refine (Rx_N (k := 2) (pc' := 15) (ls' := [.inr (.inl (1, 0)), .inl x1, .inl x2, .inl x3, .inl (wr (x4 + 1)), .inl x5]) (st' := []) (σ' := σ) rfl).trans ?_
  rfl
theorem b_X1_toBreak_49 (x1 : Int) (x2 : Int) (x3 : Int) (x4 : Int) (x5 : Int) (σ : St) (g0a : -2147483648 ≤ (x4 + 1)) (g0b : (x4 + 1) < 2147483648) : Rx k_X1_toBreak 49 [.inr (.inl (1, 0)), .inl x1, .inl x2, .inl x3, .inl x4, .inl x5] [] σ = Rx k_X1_toBreak 15 [.inr (.inl (1, 0)), .inl x1, .inl x2, .inl x3, .inl (x4 + 1), .inl x5] [] σ := by
  have e0 := wr_id (x := (x4 + 1)) g0a g0b
  have raw := r_X1_toBreak_49 x1 x2 x3 x4 x5 σ 
  simp only [e0] at raw
  exact raw
theorem b_X1_toBreak_55 (x1 : Int) (x2 : Int) (x3 : Int) (x4 : Int) (u5 : AV) (σ : St) : Rx k_X1_toBreak 55 [.inr (.inl (1, 0)), .inl x1, .inl x2, .inl x3, .inl x4, u5] [] σ = some (some (.inl x2), σ) := by
  refine (Rx_N (k := 1) (pc' := 56) (ls' := [.inr (.inl (1, 0)), .inl x1, .inl x2, .inl x3, .inl x4, u5]) (st' := [.inl x2]) (σ' := σ) rfl).trans ?_
  exact Rx_ret rfl rfl
theorem b_X1_standingWith_0 (x1 : Int) (x2 : Int) (x3 : Int) (σ : St) : Rx k_X1_standingWith 0 [.inr (.inl (1, 0)), .inl x1, .inl x2, .inl x3] [] σ = (Rx k_X2_become 0 [.inr (.inl (7, 1)), .inr (.inl (7, 0))] [] σ).bind fun q => Rx k_X1_standingWith 11 [.inr (.inl (1, 0)), .inl x1, .inl x2, .inl x3] (q.1.toList ++ []) q.2 := by
  refine (Rx_N (k := 4) (pc' := 8) (ls' := [.inr (.inl (1, 0)), .inl x1, .inl x2, .inl x3]) (st' := [.inr (.inl (7, 0)), .inr (.inl (7, 1))]) (σ' := σ) rfl).trans ?_
  exact Rx_call (n := 3) (y' := k_X2_become) (as := [.inr (.inl (7, 1)), .inr (.inl (7, 0))]) (rest := []) rfl rfl rfl
theorem b_X1_standingWith_11 (x1 : Int) (x2 : Int) (x3 : Int) (σ : St) : Rx k_X1_standingWith 11 [.inr (.inl (1, 0)), .inl x1, .inl x2, .inl x3] [] σ = (Rx k_X2_strengthen 0 [.inr (.inl (7, 1)), .inl x1, .inl x2] [] σ).bind fun q => Rx k_X1_standingWith 20 [.inr (.inl (1, 0)), .inl x1, .inl x2, .inl x3] (q.1.toList ++ []) q.2 := by
  refine (Rx_N (k := 4) (pc' := 17) (ls' := [.inr (.inl (1, 0)), .inl x1, .inl x2, .inl x3]) (st' := [.inl x2, .inl x1, .inr (.inl (7, 1))]) (σ' := σ) rfl).trans ?_
  exact Rx_call (n := 3) (y' := k_X2_strengthen) (as := [.inr (.inl (7, 1)), .inl x1, .inl x2]) (rest := []) rfl rfl rfl
theorem b_X1_standingWith_20 (x1 : Int) (x2 : Int) (x3 : Int) (s0 : Int) (σ : St) : Rx k_X1_standingWith 20 [.inr (.inl (1, 0)), .inl x1, .inl x2, .inl x3] [.inl s0] σ = (Rx k_X2_passDays 0 [.inr (.inl (7, 1)), .inl x3, uns] [] σ).bind fun q => Rx k_X1_standingWith 29 [.inr (.inl (1, 0)), .inl x1, .inl x2, .inl x3] (q.1.toList ++ []) q.2 := by
  refine (Rx_N (k := 4) (pc' := 26) (ls' := [.inr (.inl (1, 0)), .inl x1, .inl x2, .inl x3]) (st' := [.inl x3, .inr (.inl (7, 1))]) (σ' := σ) rfl).trans ?_
  exact Rx_call (n := 3) (y' := k_X2_passDays) (as := [.inr (.inl (7, 1)), .inl x3]) (rest := []) rfl rfl rfl
theorem b_X1_standingWith_29 (x1 : Int) (x2 : Int) (x3 : Int) (σ : St) : Rx k_X1_standingWith 29 [.inr (.inl (1, 0)), .inl x1, .inl x2, .inl x3] [] σ = (Rx k_X2_standing 0 [.inr (.inl (7, 1))] [] σ).bind fun q => Rx k_X1_standingWith 36 [.inr (.inl (1, 0)), .inl x1, .inl x2, .inl x3] (q.1.toList ++ []) q.2 := by
  refine (Rx_N (k := 2) (pc' := 33) (ls' := [.inr (.inl (1, 0)), .inl x1, .inl x2, .inl x3]) (st' := [.inr (.inl (7, 1))]) (σ' := σ) rfl).trans ?_
  exact Rx_call (n := 3) (y' := k_X2_standing) (as := [.inr (.inl (7, 1))]) (rest := []) rfl rfl rfl
theorem b_X1_standingWith_36 (x1 : Int) (x2 : Int) (x3 : Int) (s0 : Int) (σ : St) : Rx k_X1_standingWith 36 [.inr (.inl (1, 0)), .inl x1, .inl x2, .inl x3] [.inl s0] σ = some (some (.inl s0), σ) := by
  exact Rx_ret rfl rfl
theorem b_X1_safestPlace_0 (x1 : Int) (u2 : AV) (u3 : AV) (u4 : AV) (u5 : AV) (σ : St) : Rx k_X1_safestPlace 0 [.inr (.inl (1, 0)), .inl x1, u2, u3, u4, u5] [] σ = Rx k_X1_safestPlace 9 [.inr (.inl (1, 0)), .inl x1, .inl (-9), .inl 11, .inl 0, u5] [] σ := by
  refine (Rx_N (k := 6) (pc' := 9) (ls' := [.inr (.inl (1, 0)), .inl x1, .inl (-9), .inl 11, .inl 0, u5]) (st' := []) (σ' := σ) rfl).trans ?_
  rfl
theorem b_X1_safestPlace_9 (x1 : Int) (x2 : Int) (x3 : Int) (x4 : Int) (u5 : AV) (σ : St) : Rx k_X1_safestPlace 9 [.inr (.inl (1, 0)), .inl x1, .inl x2, .inl x3, .inl x4, u5] [] σ = if x4 < 20 then Rx k_X1_safestPlace 16 [.inr (.inl (1, 0)), .inl x1, .inl x2, .inl x3, .inl x4, u5] [] σ else Rx k_X1_safestPlace 61 [.inr (.inl (1, 0)), .inl x1, .inl x2, .inl x3, .inl x4, u5] [] σ := by
  exact Rx_ge0 (k := 3) rfl
theorem b_X1_safestPlace_16 (x1 : Int) (x2 : Int) (x3 : Int) (x4 : Int) (u5 : AV) (σ : St) : Rx k_X1_safestPlace 16 [.inr (.inl (1, 0)), .inl x1, .inl x2, .inl x3, .inl x4, u5] [] σ = (Rx k_X2_isFreeFor 0 [.inr (.inl (7, 0)), .inl x1, .inl x4] [] σ).bind fun q => Rx k_X1_safestPlace 26 [.inr (.inl (1, 0)), .inl x1, .inl x2, .inl x3, .inl x4, u5] (q.1.toList ++ []) q.2 := by
  refine (Rx_N (k := 4) (pc' := 23) (ls' := [.inr (.inl (1, 0)), .inl x1, .inl x2, .inl x3, .inl x4, u5]) (st' := [.inl x4, .inl x1, .inr (.inl (7, 0))]) (σ' := σ) rfl).trans ?_
  exact Rx_call (n := 3) (y' := k_X2_isFreeFor) (as := [.inr (.inl (7, 0)), .inl x1, .inl x4]) (rest := []) rfl rfl rfl
theorem b_X1_safestPlace_26 (x1 : Int) (x2 : Int) (x3 : Int) (x4 : Int) (u5 : AV) (s0 : Int) (σ : St) : Rx k_X1_safestPlace 26 [.inr (.inl (1, 0)), .inl x1, .inl x2, .inl x3, .inl x4, u5] [.inl s0] σ = if s0 = 0 then Rx k_X1_safestPlace 39 [.inr (.inl (1, 0)), .inl x1, .inl x2, .inl x3, .inl x4, u5] [] σ else Rx k_X1_safestPlace 29 [.inr (.inl (1, 0)), .inl x1, .inl x2, .inl x3, .inl x4, u5] [] σ := by
  exact Rx_eq0 (k := 1) rfl
theorem b_X1_safestPlace_29 (x1 : Int) (x2 : Int) (x3 : Int) (x4 : Int) (u5 : AV) (σ : St) : Rx k_X1_safestPlace 29 [.inr (.inl (1, 0)), .inl x1, .inl x2, .inl x3, .inl x4, u5] [] σ = (Rx k_X1_felledFrom 0 [.inr (.inl (1, 0)), .inl x1, .inl x4] [] σ).bind fun q => Rx k_X1_safestPlace 36 [.inr (.inl (1, 0)), .inl x1, .inl x2, .inl x3, .inl x4, u5] (q.1.toList ++ []) q.2 := by
  refine (Rx_N (k := 3) (pc' := 33) (ls' := [.inr (.inl (1, 0)), .inl x1, .inl x2, .inl x3, .inl x4, u5]) (st' := [.inl x4, .inl x1, .inr (.inl (1, 0))]) (σ' := σ) rfl).trans ?_
  exact Rx_call (n := 3) (y' := k_X1_felledFrom) (as := [.inr (.inl (1, 0)), .inl x1, .inl x4]) (rest := []) rfl rfl rfl
theorem b_X1_safestPlace_36 (x1 : Int) (x2 : Int) (x3 : Int) (x4 : Int) (u5 : AV) (s0 : Int) (σ : St) : Rx k_X1_safestPlace 36 [.inr (.inl (1, 0)), .inl x1, .inl x2, .inl x3, .inl x4, u5] [.inl s0] σ = if s0 < x3 then Rx k_X1_safestPlace 49 [.inr (.inl (1, 0)), .inl x1, .inl x2, .inl x3, .inl x4, .inl s0] [] σ else Rx k_X1_safestPlace 55 [.inr (.inl (1, 0)), .inl x1, .inl x2, .inl x3, .inl x4, .inl s0] [] σ := by
  exact Rx_ge0 (k := 5) rfl
theorem b_X1_safestPlace_39 (x1 : Int) (x2 : Int) (x3 : Int) (x4 : Int) (u5 : AV) (σ : St) : Rx k_X1_safestPlace 39 [.inr (.inl (1, 0)), .inl x1, .inl x2, .inl x3, .inl x4, u5] [] σ = if 11 < x3 then Rx k_X1_safestPlace 49 [.inr (.inl (1, 0)), .inl x1, .inl x2, .inl x3, .inl x4, .inl 11] [] σ else Rx k_X1_safestPlace 55 [.inr (.inl (1, 0)), .inl x1, .inl x2, .inl x3, .inl x4, .inl 11] [] σ := by
  exact Rx_ge0 (k := 5) rfl
theorem r_X1_safestPlace_49 (x1 : Int) (x2 : Int) (x3 : Int) (x4 : Int) (x5 : Int) (σ : St) : Rx k_X1_safestPlace 49 [.inr (.inl (1, 0)), .inl x1, .inl x2, .inl x3, .inl x4, .inl x5] [] σ = Rx k_X1_safestPlace 9 [.inr (.inl (1, 0)), .inl x1, .inl x4, .inl x5, .inl (wr (x4 + 1)), .inl x5] [] σ := by
  refine (Rx_N (k := 6) (pc' := 9) (ls' := [.inr (.inl (1, 0)), .inl x1, .inl x4, .inl x5, .inl (wr (x4 + 1)), .inl x5]) (st' := []) (σ' := σ) rfl).trans ?_
  rfl
theorem b_X1_safestPlace_49 (x1 : Int) (x2 : Int) (x3 : Int) (x4 : Int) (x5 : Int) (σ : St) (g0a : -2147483648 ≤ (x4 + 1)) (g0b : (x4 + 1) < 2147483648) : Rx k_X1_safestPlace 49 [.inr (.inl (1, 0)), .inl x1, .inl x2, .inl x3, .inl x4, .inl x5] [] σ = Rx k_X1_safestPlace 9 [.inr (.inl (1, 0)), .inl x1, .inl x4, .inl x5, .inl (x4 + 1), .inl x5] [] σ := by
  have e0 := wr_id (x := (x4 + 1)) g0a g0b
  have raw := r_X1_safestPlace_49 x1 x2 x3 x4 x5 σ 
  simp only [e0] at raw
  exact raw
theorem r_X1_safestPlace_55 (x1 : Int) (x2 : Int) (x3 : Int) (x4 : Int) (x5 : Int) (σ : St) : Rx k_X1_safestPlace 55 [.inr (.inl (1, 0)), .inl x1, .inl x2, .inl x3, .inl x4, .inl x5] [] σ = Rx k_X1_safestPlace 9 [.inr (.inl (1, 0)), .inl x1, .inl x2, .inl x3, .inl (wr (x4 + 1)), .inl x5] [] σ := by
  refine (Rx_N (k := 2) (pc' := 9) (ls' := [.inr (.inl (1, 0)), .inl x1, .inl x2, .inl x3, .inl (wr (x4 + 1)), .inl x5]) (st' := []) (σ' := σ) rfl).trans ?_
  rfl
theorem b_X1_safestPlace_55 (x1 : Int) (x2 : Int) (x3 : Int) (x4 : Int) (x5 : Int) (σ : St) (g0a : -2147483648 ≤ (x4 + 1)) (g0b : (x4 + 1) < 2147483648) : Rx k_X1_safestPlace 55 [.inr (.inl (1, 0)), .inl x1, .inl x2, .inl x3, .inl x4, .inl x5] [] σ = Rx k_X1_safestPlace 9 [.inr (.inl (1, 0)), .inl x1, .inl x2, .inl x3, .inl (x4 + 1), .inl x5] [] σ := by
  have e0 := wr_id (x := (x4 + 1)) g0a g0b
  have raw := r_X1_safestPlace_55 x1 x2 x3 x4 x5 σ 
  simp only [e0] at raw
  exact raw
theorem b_X1_safestPlace_61 (x1 : Int) (x2 : Int) (x3 : Int) (x4 : Int) (u5 : AV) (σ : St) : Rx k_X1_safestPlace 61 [.inr (.inl (1, 0)), .inl x1, .inl x2, .inl x3, .inl x4, u5] [] σ = some (some (.inl x2), σ) := by
  refine (Rx_N (k := 1) (pc' := 62) (ls' := [.inr (.inl (1, 0)), .inl x1, .inl x2, .inl x3, .inl x4, u5]) (st' := [.inl x2]) (σ' := σ) rfl).trans ?_
  exact Rx_ret rfl rfl
theorem b_X1_felledFrom_0 (x1 : Int) (x2 : Int) (σ : St) : Rx k_X1_felledFrom 0 [.inr (.inl (1, 0)), .inl x1, .inl x2] [] σ = (Rx k_X2_become 0 [.inr (.inl (7, 1)), .inr (.inl (7, 0))] [] σ).bind fun q => Rx k_X1_felledFrom 11 [.inr (.inl (1, 0)), .inl x1, .inl x2] (q.1.toList ++ []) q.2 := by
  refine (Rx_N (k := 4) (pc' := 8) (ls' := [.inr (.inl (1, 0)), .inl x1, .inl x2]) (st' := [.inr (.inl (7, 0)), .inr (.inl (7, 1))]) (σ' := σ) rfl).trans ?_
  exact Rx_call (n := 3) (y' := k_X2_become) (as := [.inr (.inl (7, 1)), .inr (.inl (7, 0))]) (rest := []) rfl rfl rfl
theorem b_X1_felledFrom_11 (x1 : Int) (x2 : Int) (σ : St) : Rx k_X1_felledFrom 11 [.inr (.inl (1, 0)), .inl x1, .inl x2] [] σ = (Rx k_X2_moveTo 0 [.inr (.inl (7, 1)), .inl x1, .inl x2] [] σ).bind fun q => Rx k_X1_felledFrom 20 [.inr (.inl (1, 0)), .inl x1, .inl x2] (q.1.toList ++ []) q.2 := by
  refine (Rx_N (k := 4) (pc' := 17) (ls' := [.inr (.inl (1, 0)), .inl x1, .inl x2]) (st' := [.inl x2, .inl x1, .inr (.inl (7, 1))]) (σ' := σ) rfl).trans ?_
  exact Rx_call (n := 3) (y' := k_X2_moveTo) (as := [.inr (.inl (7, 1)), .inl x1, .inl x2]) (rest := []) rfl rfl rfl
theorem b_X1_felledFrom_20 (x1 : Int) (x2 : Int) (σ : St) : Rx k_X1_felledFrom 20 [.inr (.inl (1, 0)), .inl x1, .inl x2] [] σ = (Rx k_X2_felledBy 0 [.inr (.inl (7, 1)), .inl x1, .inl 0, uns, uns, uns, uns, uns] [] σ).bind fun q => Rx k_X1_felledFrom 29 [.inr (.inl (1, 0)), .inl x1, .inl x2] (q.1.toList ++ []) q.2 := by
  refine (Rx_N (k := 4) (pc' := 26) (ls' := [.inr (.inl (1, 0)), .inl x1, .inl x2]) (st' := [.inl 0, .inl x1, .inr (.inl (7, 1))]) (σ' := σ) rfl).trans ?_
  exact Rx_call (n := 3) (y' := k_X2_felledBy) (as := [.inr (.inl (7, 1)), .inl x1, .inl 0]) (rest := []) rfl rfl rfl
theorem b_X1_felledFrom_29 (x1 : Int) (x2 : Int) (s0 : Int) (σ : St) : Rx k_X1_felledFrom 29 [.inr (.inl (1, 0)), .inl x1, .inl x2] [.inl s0] σ = (Rx k_J6_bitCount_0f7a4 0 [.inl s0] [] σ).bind fun q => Rx k_X1_felledFrom 32 [.inr (.inl (1, 0)), .inl x1, .inl x2] (q.1.toList ++ []) q.2 := by
  exact Rx_call (n := 3) (y' := k_J6_bitCount_0f7a4) (as := [.inl s0]) (rest := []) rfl rfl rfl
theorem b_X1_felledFrom_32 (x1 : Int) (x2 : Int) (s0 : Int) (σ : St) : Rx k_X1_felledFrom 32 [.inr (.inl (1, 0)), .inl x1, .inl x2] [.inl s0] σ = some (some (.inl s0), σ) := by
  exact Rx_ret rfl rfl
theorem b_X1_standingRobbed_0 (x1 : Int) (u2 : AV) (σ : St) : Rx k_X1_standingRobbed 0 [.inr (.inl (1, 0)), .inl x1, u2] [] σ = (Rx k_X2_become 0 [.inr (.inl (7, 1)), .inr (.inl (7, 0))] [] σ).bind fun q => Rx k_X1_standingRobbed 11 [.inr (.inl (1, 0)), .inl x1, u2] (q.1.toList ++ []) q.2 := by
  refine (Rx_N (k := 4) (pc' := 8) (ls' := [.inr (.inl (1, 0)), .inl x1, u2]) (st' := [.inr (.inl (7, 0)), .inr (.inl (7, 1))]) (σ' := σ) rfl).trans ?_
  exact Rx_call (n := 3) (y' := k_X2_become) (as := [.inr (.inl (7, 1)), .inr (.inl (7, 0))]) (rest := []) rfl rfl rfl
theorem b_X1_standingRobbed_11 (x1 : Int) (u2 : AV) (σ : St) : Rx k_X1_standingRobbed 11 [.inr (.inl (1, 0)), .inl x1, u2] [] σ = Rx k_X1_standingRobbed 13 [.inr (.inl (1, 0)), .inl x1, .inl 0] [] σ := by
  refine (Rx_N (k := 2) (pc' := 13) (ls' := [.inr (.inl (1, 0)), .inl x1, .inl 0]) (st' := []) (σ' := σ) rfl).trans ?_
  rfl
theorem b_X1_standingRobbed_13 (x1 : Int) (x2 : Int) (σ : St) : Rx k_X1_standingRobbed 13 [.inr (.inl (1, 0)), .inl x1, .inl x2] [] σ = if x2 < x1 then Rx k_X1_standingRobbed 18 [.inr (.inl (1, 0)), .inl x1, .inl x2] [] σ else Rx k_X1_standingRobbed 46 [.inr (.inl (1, 0)), .inl x1, .inl x2] [] σ := by
  exact Rx_ge0 (k := 3) rfl
theorem b_X1_standingRobbed_18 (x1 : Int) (x2 : Int) (σ : St) : Rx k_X1_standingRobbed 18 [.inr (.inl (1, 0)), .inl x1, .inl x2] [] σ = (Rx k_X2_leastPlacedWithoutSpare 0 [.inr (.inl (7, 1)), uns, uns] [] σ).bind fun q => Rx k_X1_standingRobbed 29 [.inr (.inl (1, 0)), .inl x1, .inl x2] (q.1.toList ++ [.inr (.inl (7, 1))]) q.2 := by
  refine (Rx_N (k := 4) (pc' := 26) (ls' := [.inr (.inl (1, 0)), .inl x1, .inl x2]) (st' := [.inr (.inl (7, 1)), .inr (.inl (7, 1))]) (σ' := σ) rfl).trans ?_
  exact Rx_call (n := 3) (y' := k_X2_leastPlacedWithoutSpare) (as := [.inr (.inl (7, 1))]) (rest := [.inr (.inl (7, 1))]) rfl rfl rfl
theorem b_X1_standingRobbed_29 (x1 : Int) (x2 : Int) (s1 : Int) (σ : St) : Rx k_X1_standingRobbed 29 [.inr (.inl (1, 0)), .inl x1, .inl x2] [.inl s1, .inr (.inl (7, 1))] σ = (Rx k_X2_topple 0 [.inr (.inl (7, 1)), .inl s1, uns, uns] [] σ).bind fun q => Rx k_X1_standingRobbed 32 [.inr (.inl (1, 0)), .inl x1, .inl x2] (q.1.toList ++ []) q.2 := by
  exact Rx_call (n := 3) (y' := k_X2_topple) (as := [.inr (.inl (7, 1)), .inl s1]) (rest := []) rfl rfl rfl
theorem b_X1_standingRobbed_32 (x1 : Int) (x2 : Int) (s0 : Int) (σ : St) : Rx k_X1_standingRobbed 32 [.inr (.inl (1, 0)), .inl x1, .inl x2] [.inl s0] σ = (Rx k_X2_passDay 0 [.inr (.inl (7, 1)), uns, uns] [] σ).bind fun q => Rx k_X1_standingRobbed 40 [.inr (.inl (1, 0)), .inl x1, .inl x2] (q.1.toList ++ []) q.2 := by
  refine (Rx_N (k := 3) (pc' := 37) (ls' := [.inr (.inl (1, 0)), .inl x1, .inl x2]) (st' := [.inr (.inl (7, 1))]) (σ' := σ) rfl).trans ?_
  exact Rx_call (n := 3) (y' := k_X2_passDay) (as := [.inr (.inl (7, 1))]) (rest := []) rfl rfl rfl
theorem r_X1_standingRobbed_40 (x1 : Int) (x2 : Int) (σ : St) : Rx k_X1_standingRobbed 40 [.inr (.inl (1, 0)), .inl x1, .inl x2] [] σ = Rx k_X1_standingRobbed 13 [.inr (.inl (1, 0)), .inl x1, .inl (wr (x2 + 1))] [] σ := by
  refine (Rx_N (k := 2) (pc' := 13) (ls' := [.inr (.inl (1, 0)), .inl x1, .inl (wr (x2 + 1))]) (st' := []) (σ' := σ) rfl).trans ?_
  rfl
theorem b_X1_standingRobbed_40 (x1 : Int) (x2 : Int) (σ : St) (g0a : -2147483648 ≤ (x2 + 1)) (g0b : (x2 + 1) < 2147483648) : Rx k_X1_standingRobbed 40 [.inr (.inl (1, 0)), .inl x1, .inl x2] [] σ = Rx k_X1_standingRobbed 13 [.inr (.inl (1, 0)), .inl x1, .inl (x2 + 1)] [] σ := by
  have e0 := wr_id (x := (x2 + 1)) g0a g0b
  have raw := r_X1_standingRobbed_40 x1 x2 σ 
  simp only [e0] at raw
  exact raw
theorem b_X1_standingRobbed_46 (x1 : Int) (x2 : Int) (σ : St) : Rx k_X1_standingRobbed 46 [.inr (.inl (1, 0)), .inl x1, .inl x2] [] σ = (Rx k_X2_standing 0 [.inr (.inl (7, 1))] [] σ).bind fun q => Rx k_X1_standingRobbed 53 [.inr (.inl (1, 0)), .inl x1, .inl x2] (q.1.toList ++ []) q.2 := by
  refine (Rx_N (k := 2) (pc' := 50) (ls' := [.inr (.inl (1, 0)), .inl x1, .inl x2]) (st' := [.inr (.inl (7, 1))]) (σ' := σ) rfl).trans ?_
  exact Rx_call (n := 3) (y' := k_X2_standing) (as := [.inr (.inl (7, 1))]) (rest := []) rfl rfl rfl
theorem b_X1_standingRobbed_53 (x1 : Int) (x2 : Int) (s0 : Int) (σ : St) : Rx k_X1_standingRobbed 53 [.inr (.inl (1, 0)), .inl x1, .inl x2] [.inl s0] σ = some (some (.inl s0), σ) := by
  exact Rx_ret rfl rfl
theorem b_X1_nothingToRobBehind_0 (u1 : AV) (u2 : AV) (σ : St) : Rx k_X1_nothingToRobBehind 0 [.inr (.inl (1, 0)), u1, u2] [] σ = (Rx k_X2_become 0 [.inr (.inl (7, 1)), .inr (.inl (7, 0))] [] σ).bind fun q => Rx k_X1_nothingToRobBehind 11 [.inr (.inl (1, 0)), u1, u2] (q.1.toList ++ []) q.2 := by
  refine (Rx_N (k := 4) (pc' := 8) (ls' := [.inr (.inl (1, 0)), u1, u2]) (st' := [.inr (.inl (7, 0)), .inr (.inl (7, 1))]) (σ' := σ) rfl).trans ?_
  exact Rx_call (n := 3) (y' := k_X2_become) (as := [.inr (.inl (7, 1)), .inr (.inl (7, 0))]) (rest := []) rfl rfl rfl
theorem b_X1_nothingToRobBehind_11 (u1 : AV) (u2 : AV) (σ : St) : Rx k_X1_nothingToRobBehind 11 [.inr (.inl (1, 0)), u1, u2] [] σ = Rx k_X1_nothingToRobBehind 13 [.inr (.inl (1, 0)), .inl 0, u2] [] σ := by
  refine (Rx_N (k := 2) (pc' := 13) (ls' := [.inr (.inl (1, 0)), .inl 0, u2]) (st' := []) (σ' := σ) rfl).trans ?_
  rfl
theorem b_X1_nothingToRobBehind_13 (x1 : Int) (u2 : AV) (σ : St) : Rx k_X1_nothingToRobBehind 13 [.inr (.inl (1, 0)), .inl x1, u2] [] σ = if 99 < x1 then Rx k_X1_nothingToRobBehind 57 [.inr (.inl (1, 0)), .inl x1, u2] [] σ else Rx k_X1_nothingToRobBehind 19 [.inr (.inl (1, 0)), .inl x1, u2] [] σ := by
  exact Rx_gt0 (k := 3) rfl
theorem b_X1_nothingToRobBehind_19 (x1 : Int) (u2 : AV) (σ : St) : Rx k_X1_nothingToRobBehind 19 [.inr (.inl (1, 0)), .inl x1, u2] [] σ = (Rx k_X2_leastPlacedWithoutSpare 0 [.inr (.inl (7, 1)), uns, uns] [] σ).bind fun q => Rx k_X1_nothingToRobBehind 26 [.inr (.inl (1, 0)), .inl x1, u2] (q.1.toList ++ []) q.2 := by
  refine (Rx_N (k := 2) (pc' := 23) (ls' := [.inr (.inl (1, 0)), .inl x1, u2]) (st' := [.inr (.inl (7, 1))]) (σ' := σ) rfl).trans ?_
  exact Rx_call (n := 3) (y' := k_X2_leastPlacedWithoutSpare) (as := [.inr (.inl (7, 1))]) (rest := []) rfl rfl rfl
theorem b_X1_nothingToRobBehind_26 (x1 : Int) (u2 : AV) (s0 : Int) (σ : St) : Rx k_X1_nothingToRobBehind 26 [.inr (.inl (1, 0)), .inl x1, u2] [.inl s0] σ = if s0 = (-9) then Rx k_X1_nothingToRobBehind 33 [.inr (.inl (1, 0)), .inl x1, .inl s0] [] σ else Rx k_X1_nothingToRobBehind 35 [.inr (.inl (1, 0)), .inl x1, .inl s0] [] σ := by
  exact Rx_ne0 (k := 4) rfl
theorem b_X1_nothingToRobBehind_33 (x1 : Int) (x2 : Int) (σ : St) : Rx k_X1_nothingToRobBehind 33 [.inr (.inl (1, 0)), .inl x1, .inl x2] [] σ = some (some (.inl x1), σ) := by
  refine (Rx_N (k := 1) (pc' := 34) (ls' := [.inr (.inl (1, 0)), .inl x1, .inl x2]) (st' := [.inl x1]) (σ' := σ) rfl).trans ?_
  exact Rx_ret rfl rfl
theorem b_X1_nothingToRobBehind_35 (x1 : Int) (x2 : Int) (σ : St) : Rx k_X1_nothingToRobBehind 35 [.inr (.inl (1, 0)), .inl x1, .inl x2] [] σ = (Rx k_X2_topple 0 [.inr (.inl (7, 1)), .inl x2, uns, uns] [] σ).bind fun q => Rx k_X1_nothingToRobBehind 43 [.inr (.inl (1, 0)), .inl x1, .inl x2] (q.1.toList ++ []) q.2 := by
  refine (Rx_N (k := 3) (pc' := 40) (ls' := [.inr (.inl (1, 0)), .inl x1, .inl x2]) (st' := [.inl x2, .inr (.inl (7, 1))]) (σ' := σ) rfl).trans ?_
  exact Rx_call (n := 3) (y' := k_X2_topple) (as := [.inr (.inl (7, 1)), .inl x2]) (rest := []) rfl rfl rfl
theorem b_X1_nothingToRobBehind_43 (x1 : Int) (x2 : Int) (s0 : Int) (σ : St) : Rx k_X1_nothingToRobBehind 43 [.inr (.inl (1, 0)), .inl x1, .inl x2] [.inl s0] σ = (Rx k_X2_passDay 0 [.inr (.inl (7, 1)), uns, uns] [] σ).bind fun q => Rx k_X1_nothingToRobBehind 51 [.inr (.inl (1, 0)), .inl x1, .inl x2] (q.1.toList ++ []) q.2 := by
  refine (Rx_N (k := 3) (pc' := 48) (ls' := [.inr (.inl (1, 0)), .inl x1, .inl x2]) (st' := [.inr (.inl (7, 1))]) (σ' := σ) rfl).trans ?_
  exact Rx_call (n := 3) (y' := k_X2_passDay) (as := [.inr (.inl (7, 1))]) (rest := []) rfl rfl rfl
theorem r_X1_nothingToRobBehind_51 (x1 : Int) (x2 : Int) (σ : St) : Rx k_X1_nothingToRobBehind 51 [.inr (.inl (1, 0)), .inl x1, .inl x2] [] σ = Rx k_X1_nothingToRobBehind 13 [.inr (.inl (1, 0)), .inl (wr (x1 + 1)), .inl x2] [] σ := by
  refine (Rx_N (k := 2) (pc' := 13) (ls' := [.inr (.inl (1, 0)), .inl (wr (x1 + 1)), .inl x2]) (st' := []) (σ' := σ) rfl).trans ?_
  rfl
theorem b_X1_nothingToRobBehind_51 (x1 : Int) (x2 : Int) (σ : St) (g0a : -2147483648 ≤ (x1 + 1)) (g0b : (x1 + 1) < 2147483648) : Rx k_X1_nothingToRobBehind 51 [.inr (.inl (1, 0)), .inl x1, .inl x2] [] σ = Rx k_X1_nothingToRobBehind 13 [.inr (.inl (1, 0)), .inl (x1 + 1), .inl x2] [] σ := by
  have e0 := wr_id (x := (x1 + 1)) g0a g0b
  have raw := r_X1_nothingToRobBehind_51 x1 x2 σ 
  simp only [e0] at raw
  exact raw
theorem b_X1_nothingToRobBehind_57 (x1 : Int) (u2 : AV) (σ : St) : Rx k_X1_nothingToRobBehind 57 [.inr (.inl (1, 0)), .inl x1, u2] [] σ = some (some (.inl (-9)), σ) := by
  refine (Rx_N (k := 1) (pc' := 59) (ls' := [.inr (.inl (1, 0)), .inl x1, u2]) (st' := [.inl (-9)]) (σ' := σ) rfl).trans ?_
  exact Rx_ret rfl rfl
theorem b_X1_waysUp_0 (x1 : Int) (x2 : Int) (x3 : Int) (u4 : AV) (u5 : AV) (u6 : AV) (σ : St) : Rx k_X1_waysUp 0 [.inr (.inl (1, 0)), .inl x1, .inl x2, .inl x3, u4, u5, u6] [] σ = Rx k_X1_waysUp 6 [.inr (.inl (1, 0)), .inl x1, .inl x2, .inl x3, .inr (.inr 0), uns, .inl 0] [] σ := by
  refine (Rx_N (k := 4) (pc' := 6) (ls' := [.inr (.inl (1, 0)), .inl x1, .inl x2, .inl x3, .inr (.inr 0), uns, .inl 0]) (st' := []) (σ' := σ) rfl).trans ?_
  rfl
theorem b_X1_waysUp_6 (x1 : Int) (x2 : Int) (x3 : Int) (w4 : Int) (x6 : Int) (σ : St) : Rx k_X1_waysUp 6 [.inr (.inl (1, 0)), .inl x1, .inl x2, .inl x3, .inr (.inr w4), uns, .inl x6] [] σ = if x6 < (bShl 1 x2) then Rx k_X1_waysUp 14 [.inr (.inl (1, 0)), .inl x1, .inl x2, .inl x3, .inr (.inr w4), uns, .inl x6] [] σ else Rx k_X1_waysUp 49 [.inr (.inl (1, 0)), .inl x1, .inl x2, .inl x3, .inr (.inr w4), uns, .inl x6] [] σ := by
  exact Rx_ge0 (k := 5) rfl
theorem b_X1_waysUp_14 (x1 : Int) (x2 : Int) (x3 : Int) (w4 : Int) (x6 : Int) (σ : St) : Rx k_X1_waysUp 14 [.inr (.inl (1, 0)), .inl x1, .inl x2, .inl x3, .inr (.inr w4), uns, .inl x6] [] σ = (Rx k_X1_isUpDraughted 0 [.inr (.inl (1, 0)), .inl x1, .inl x2, .inl x6, uns] [] σ).bind fun q => Rx k_X1_waysUp 22 [.inr (.inl (1, 0)), .inl x1, .inl x2, .inl x3, .inr (.inr w4), uns, .inl x6] (q.1.toList ++ []) q.2 := by
  refine (Rx_N (k := 4) (pc' := 19) (ls' := [.inr (.inl (1, 0)), .inl x1, .inl x2, .inl x3, .inr (.inr w4), uns, .inl x6]) (st' := [.inl x6, .inl x2, .inl x1, .inr (.inl (1, 0))]) (σ' := σ) rfl).trans ?_
  exact Rx_call (n := 3) (y' := k_X1_isUpDraughted) (as := [.inr (.inl (1, 0)), .inl x1, .inl x2, .inl x6]) (rest := []) rfl rfl rfl
theorem b_X1_waysUp_22 (x1 : Int) (x2 : Int) (x3 : Int) (w4 : Int) (x6 : Int) (s0 : Int) (σ : St) : Rx k_X1_waysUp 22 [.inr (.inl (1, 0)), .inl x1, .inl x2, .inl x3, .inr (.inr w4), uns, .inl x6] [.inl s0] σ = if s0 = 0 then Rx k_X1_waysUp 43 [.inr (.inl (1, 0)), .inl x1, .inl x2, .inl x3, .inr (.inr w4), uns, .inl x6] [] σ else Rx k_X1_waysUp 25 [.inr (.inl (1, 0)), .inl x1, .inl x2, .inl x3, .inr (.inr w4), uns, .inl x6] [] σ := by
  exact Rx_eq0 (k := 1) rfl
theorem r_X1_waysUp_25 (x1 : Int) (x2 : Int) (x3 : Int) (w4 : Int) (x6 : Int) (σ : St) : Rx k_X1_waysUp 25 [.inr (.inl (1, 0)), .inl x1, .inl x2, .inl x3, .inr (.inr w4), uns, .inl x6] [] σ = (Rx k_J6_bitCount_0f7a4 0 [.inl x6] [] σ).bind fun q => Rx k_X1_waysUp 36 [.inr (.inl (1, 0)), .inl x1, .inl x2, .inl x3, .inr (.inr w4), uns, .inl x6] (q.1.toList ++ [.inl x2, .inl (wr (x3 - 1)), .inr (.inr w4)]) q.2 := by
  refine (Rx_N (k := 6) (pc' := 33) (ls' := [.inr (.inl (1, 0)), .inl x1, .inl x2, .inl x3, .inr (.inr w4), uns, .inl x6]) (st' := [.inl x6, .inl x2, .inl (wr (x3 - 1)), .inr (.inr w4)]) (σ' := σ) rfl).trans ?_
  exact Rx_call (n := 3) (y' := k_J6_bitCount_0f7a4) (as := [.inl x6]) (rest := [.inl x2, .inl (wr (x3 - 1)), .inr (.inr w4)]) rfl rfl rfl
theorem b_X1_waysUp_25 (x1 : Int) (x2 : Int) (x3 : Int) (w4 : Int) (x6 : Int) (σ : St) (g0a : -2147483648 ≤ (x3 - 1)) (g0b : (x3 - 1) < 2147483648) : Rx k_X1_waysUp 25 [.inr (.inl (1, 0)), .inl x1, .inl x2, .inl x3, .inr (.inr w4), uns, .inl x6] [] σ = (Rx k_J6_bitCount_0f7a4 0 [.inl x6] [] σ).bind fun q => Rx k_X1_waysUp 36 [.inr (.inl (1, 0)), .inl x1, .inl x2, .inl x3, .inr (.inr w4), uns, .inl x6] (q.1.toList ++ [.inl x2, .inl (x3 - 1), .inr (.inr w4)]) q.2 := by
  have e0 := wr_id (x := (x3 - 1)) g0a g0b
  have raw := r_X1_waysUp_25 x1 x2 x3 w4 x6 σ 
  simp only [e0] at raw
  exact raw
theorem r_X1_waysUp_36 (x1 : Int) (x2 : Int) (x3 : Int) (w4 : Int) (x6 : Int) (s3 : Int) (s2 : Int) (s1 : Int) (t0 : Int) (σ : St) : Rx k_X1_waysUp 36 [.inr (.inl (1, 0)), .inl x1, .inl x2, .inl x3, .inr (.inr w4), uns, .inl x6] [.inl s3, .inl s2, .inl s1, .inr (.inr t0)] σ = (Rx k_X4_power 0 [.inl s1, .inl (wr (s2 - s3)), uns, uns, uns] [] σ).bind fun q => Rx k_X1_waysUp 40 [.inr (.inl (1, 0)), .inl x1, .inl x2, .inl x3, .inr (.inr w4), uns, .inl x6] (q.1.toList ++ [.inr (.inr t0)]) q.2 := by
  refine (Rx_N (k := 1) (pc' := 37) (ls' := [.inr (.inl (1, 0)), .inl x1, .inl x2, .inl x3, .inr (.inr w4), uns, .inl x6]) (st' := [.inl (wr (s2 - s3)), .inl s1, .inr (.inr t0)]) (σ' := σ) rfl).trans ?_
  exact Rx_call (n := 3) (y' := k_X4_power) (as := [.inl s1, .inl (wr (s2 - s3))]) (rest := [.inr (.inr t0)]) rfl rfl rfl
theorem b_X1_waysUp_36 (x1 : Int) (x2 : Int) (x3 : Int) (w4 : Int) (x6 : Int) (s3 : Int) (s2 : Int) (s1 : Int) (t0 : Int) (σ : St) (g0a : -2147483648 ≤ (s2 - s3)) (g0b : (s2 - s3) < 2147483648) : Rx k_X1_waysUp 36 [.inr (.inl (1, 0)), .inl x1, .inl x2, .inl x3, .inr (.inr w4), uns, .inl x6] [.inl s3, .inl s2, .inl s1, .inr (.inr t0)] σ = (Rx k_X4_power 0 [.inl s1, .inl (s2 - s3), uns, uns, uns] [] σ).bind fun q => Rx k_X1_waysUp 40 [.inr (.inl (1, 0)), .inl x1, .inl x2, .inl x3, .inr (.inr w4), uns, .inl x6] (q.1.toList ++ [.inr (.inr t0)]) q.2 := by
  have e0 := wr_id (x := (s2 - s3)) g0a g0b
  have raw := r_X1_waysUp_36 x1 x2 x3 w4 x6 s3 s2 s1 t0 σ 
  simp only [e0] at raw
  exact raw
theorem r_X1_waysUp_40 (x1 : Int) (x2 : Int) (x3 : Int) (w4 : Int) (x6 : Int) (t1 : Int) (t0 : Int) (σ : St) : Rx k_X1_waysUp 40 [.inr (.inl (1, 0)), .inl x1, .inl x2, .inl x3, .inr (.inr w4), uns, .inl x6] [.inr (.inr t1), .inr (.inr t0)] σ = Rx k_X1_waysUp 6 [.inr (.inl (1, 0)), .inl x1, .inl x2, .inl x3, .inr (.inr (wl (t0 + t1))), uns, .inl (wr (x6 + 1))] [] σ := by
  refine (Rx_N (k := 4) (pc' := 6) (ls' := [.inr (.inl (1, 0)), .inl x1, .inl x2, .inl x3, .inr (.inr (wl (t0 + t1))), uns, .inl (wr (x6 + 1))]) (st' := []) (σ' := σ) rfl).trans ?_
  rfl
theorem b_X1_waysUp_40 (x1 : Int) (x2 : Int) (x3 : Int) (w4 : Int) (x6 : Int) (t1 : Int) (t0 : Int) (σ : St) (g0a : -2147483648 ≤ (x6 + 1)) (g0b : (x6 + 1) < 2147483648) (g1a : -9223372036854775808 ≤ (t0 + t1)) (g1b : (t0 + t1) < 9223372036854775808) : Rx k_X1_waysUp 40 [.inr (.inl (1, 0)), .inl x1, .inl x2, .inl x3, .inr (.inr w4), uns, .inl x6] [.inr (.inr t1), .inr (.inr t0)] σ = Rx k_X1_waysUp 6 [.inr (.inl (1, 0)), .inl x1, .inl x2, .inl x3, .inr (.inr (t0 + t1)), uns, .inl (x6 + 1)] [] σ := by
  have e0 := wr_id (x := (x6 + 1)) g0a g0b
  have e1 := wl_id (x := (t0 + t1)) g1a g1b
  have raw := r_X1_waysUp_40 x1 x2 x3 w4 x6 t1 t0 σ 
  simp only [e0, e1] at raw
  exact raw
theorem r_X1_waysUp_43 (x1 : Int) (x2 : Int) (x3 : Int) (w4 : Int) (x6 : Int) (σ : St) : Rx k_X1_waysUp 43 [.inr (.inl (1, 0)), .inl x1, .inl x2, .inl x3, .inr (.inr w4), uns, .inl x6] [] σ = Rx k_X1_waysUp 6 [.inr (.inl (1, 0)), .inl x1, .inl x2, .inl x3, .inr (.inr w4), uns, .inl (wr (x6 + 1))] [] σ := by
  refine (Rx_N (k := 2) (pc' := 6) (ls' := [.inr (.inl (1, 0)), .inl x1, .inl x2, .inl x3, .inr (.inr w4), uns, .inl (wr (x6 + 1))]) (st' := []) (σ' := σ) rfl).trans ?_
  rfl
theorem b_X1_waysUp_43 (x1 : Int) (x2 : Int) (x3 : Int) (w4 : Int) (x6 : Int) (σ : St) (g0a : -2147483648 ≤ (x6 + 1)) (g0b : (x6 + 1) < 2147483648) : Rx k_X1_waysUp 43 [.inr (.inl (1, 0)), .inl x1, .inl x2, .inl x3, .inr (.inr w4), uns, .inl x6] [] σ = Rx k_X1_waysUp 6 [.inr (.inl (1, 0)), .inl x1, .inl x2, .inl x3, .inr (.inr w4), uns, .inl (x6 + 1)] [] σ := by
  have e0 := wr_id (x := (x6 + 1)) g0a g0b
  have raw := r_X1_waysUp_43 x1 x2 x3 w4 x6 σ 
  simp only [e0] at raw
  exact raw
theorem b_X1_waysUp_49 (x1 : Int) (x2 : Int) (x3 : Int) (w4 : Int) (x6 : Int) (σ : St) : Rx k_X1_waysUp 49 [.inr (.inl (1, 0)), .inl x1, .inl x2, .inl x3, .inr (.inr w4), uns, .inl x6] [] σ = some (some (.inr (.inr w4)), σ) := by
  refine (Rx_N (k := 1) (pc' := 51) (ls' := [.inr (.inl (1, 0)), .inl x1, .inl x2, .inl x3, .inr (.inr w4), uns, .inl x6]) (st' := [.inr (.inr w4)]) (σ' := σ) rfl).trans ?_
  exact Rx_ret rfl rfl
theorem b_X1_isUpDraughted_0 (x1 : Int) (x2 : Int) (x3 : Int) (u4 : AV) (σ : St) : Rx k_X1_isUpDraughted 0 [.inr (.inl (1, 0)), .inl x1, .inl x2, .inl x3, u4] [] σ = (Rx k_X2_become 0 [.inr (.inl (7, 1)), .inr (.inl (7, 0))] [] σ).bind fun q => Rx k_X1_isUpDraughted 11 [.inr (.inl (1, 0)), .inl x1, .inl x2, .inl x3, u4] (q.1.toList ++ []) q.2 := by
  refine (Rx_N (k := 4) (pc' := 8) (ls' := [.inr (.inl (1, 0)), .inl x1, .inl x2, .inl x3, u4]) (st' := [.inr (.inl (7, 0)), .inr (.inl (7, 1))]) (σ' := σ) rfl).trans ?_
  exact Rx_call (n := 3) (y' := k_X2_become) (as := [.inr (.inl (7, 1)), .inr (.inl (7, 0))]) (rest := []) rfl rfl rfl
theorem b_X1_isUpDraughted_11 (x1 : Int) (x2 : Int) (x3 : Int) (u4 : AV) (σ : St) : Rx k_X1_isUpDraughted 11 [.inr (.inl (1, 0)), .inl x1, .inl x2, .inl x3, u4] [] σ = Rx k_X1_isUpDraughted 14 [.inr (.inl (1, 0)), .inl x1, .inl x2, .inl x3, .inl 0] [] σ := by
  refine (Rx_N (k := 2) (pc' := 14) (ls' := [.inr (.inl (1, 0)), .inl x1, .inl x2, .inl x3, .inl 0]) (st' := []) (σ' := σ) rfl).trans ?_
  rfl
theorem b_X1_isUpDraughted_14 (x1 : Int) (x2 : Int) (x3 : Int) (x4 : Int) (σ : St) : Rx k_X1_isUpDraughted 14 [.inr (.inl (1, 0)), .inl x1, .inl x2, .inl x3, .inl x4] [] σ = if x4 < x2 then Rx k_X1_isUpDraughted 20 [.inr (.inl (1, 0)), .inl x1, .inl x2, .inl x3, .inl x4] [] σ else Rx k_X1_isUpDraughted 64 [.inr (.inl (1, 0)), .inl x1, .inl x2, .inl x3, .inl x4] [] σ := by
  exact Rx_ge0 (k := 3) rfl
theorem b_X1_isUpDraughted_20 (x1 : Int) (x2 : Int) (x3 : Int) (x4 : Int) (σ : St) : Rx k_X1_isUpDraughted 20 [.inr (.inl (1, 0)), .inl x1, .inl x2, .inl x3, .inl x4] [] σ = (Rx k_X4_has 0 [.inl x3, .inl x4] [] σ).bind fun q => Rx k_X1_isUpDraughted 26 [.inr (.inl (1, 0)), .inl x1, .inl x2, .inl x3, .inl x4] (q.1.toList ++ []) q.2 := by
  refine (Rx_N (k := 2) (pc' := 23) (ls' := [.inr (.inl (1, 0)), .inl x1, .inl x2, .inl x3, .inl x4]) (st' := [.inl x4, .inl x3]) (σ' := σ) rfl).trans ?_
  exact Rx_call (n := 3) (y' := k_X4_has) (as := [.inl x3, .inl x4]) (rest := []) rfl rfl rfl
theorem b_X1_isUpDraughted_26 (x1 : Int) (x2 : Int) (x3 : Int) (x4 : Int) (s0 : Int) (σ : St) : Rx k_X1_isUpDraughted 26 [.inr (.inl (1, 0)), .inl x1, .inl x2, .inl x3, .inl x4] [.inl s0] σ = if s0 = 0 then Rx k_X1_isUpDraughted 51 [.inr (.inl (1, 0)), .inl x1, .inl x2, .inl x3, .inl x4] [] σ else Rx k_X1_isUpDraughted 29 [.inr (.inl (1, 0)), .inl x1, .inl x2, .inl x3, .inl x4] [] σ := by
  exact Rx_eq0 (k := 1) rfl
theorem b_X1_isUpDraughted_29 (x1 : Int) (x2 : Int) (x3 : Int) (x4 : Int) (σ : St) : Rx k_X1_isUpDraughted 29 [.inr (.inl (1, 0)), .inl x1, .inl x2, .inl x3, .inl x4] [] σ = (Rx k_X2_leastPlaced 0 [.inr (.inl (7, 1)), .inl (σ 7 1 3), uns] [] σ).bind fun q => Rx k_X1_isUpDraughted 47 [.inr (.inl (1, 0)), .inl x1, .inl x2, .inl x3, .inl x4] (q.1.toList ++ [.inr (.inl (7, 1))]) q.2 := by
  refine (Rx_N (k := 7) (pc' := 44) (ls' := [.inr (.inl (1, 0)), .inl x1, .inl x2, .inl x3, .inl x4]) (st' := [.inl (σ 7 1 3), .inr (.inl (7, 1)), .inr (.inl (7, 1))]) (σ' := σ) rfl).trans ?_
  exact Rx_call (n := 3) (y' := k_X2_leastPlaced) (as := [.inr (.inl (7, 1)), .inl (σ 7 1 3)]) (rest := [.inr (.inl (7, 1))]) rfl rfl rfl
theorem b_X1_isUpDraughted_47 (x1 : Int) (x2 : Int) (x3 : Int) (x4 : Int) (s1 : Int) (σ : St) : Rx k_X1_isUpDraughted 47 [.inr (.inl (1, 0)), .inl x1, .inl x2, .inl x3, .inl x4] [.inl s1, .inr (.inl (7, 1))] σ = (Rx k_X2_topple 0 [.inr (.inl (7, 1)), .inl s1, uns, uns] [] σ).bind fun q => Rx k_X1_isUpDraughted 50 [.inr (.inl (1, 0)), .inl x1, .inl x2, .inl x3, .inl x4] (q.1.toList ++ []) q.2 := by
  exact Rx_call (n := 3) (y' := k_X2_topple) (as := [.inr (.inl (7, 1)), .inl s1]) (rest := []) rfl rfl rfl
theorem b_X1_isUpDraughted_50 (x1 : Int) (x2 : Int) (x3 : Int) (x4 : Int) (s0 : Int) (σ : St) : Rx k_X1_isUpDraughted 50 [.inr (.inl (1, 0)), .inl x1, .inl x2, .inl x3, .inl x4] [.inl s0] σ = (Rx k_X2_passDay 0 [.inr (.inl (7, 1)), uns, uns] [] σ).bind fun q => Rx k_X1_isUpDraughted 58 [.inr (.inl (1, 0)), .inl x1, .inl x2, .inl x3, .inl x4] (q.1.toList ++ []) q.2 := by
  refine (Rx_N (k := 3) (pc' := 55) (ls' := [.inr (.inl (1, 0)), .inl x1, .inl x2, .inl x3, .inl x4]) (st' := [.inr (.inl (7, 1))]) (σ' := σ) rfl).trans ?_
  exact Rx_call (n := 3) (y' := k_X2_passDay) (as := [.inr (.inl (7, 1))]) (rest := []) rfl rfl rfl
theorem b_X1_isUpDraughted_51 (x1 : Int) (x2 : Int) (x3 : Int) (x4 : Int) (σ : St) : Rx k_X1_isUpDraughted 51 [.inr (.inl (1, 0)), .inl x1, .inl x2, .inl x3, .inl x4] [] σ = (Rx k_X2_passDay 0 [.inr (.inl (7, 1)), uns, uns] [] σ).bind fun q => Rx k_X1_isUpDraughted 58 [.inr (.inl (1, 0)), .inl x1, .inl x2, .inl x3, .inl x4] (q.1.toList ++ []) q.2 := by
  refine (Rx_N (k := 2) (pc' := 55) (ls' := [.inr (.inl (1, 0)), .inl x1, .inl x2, .inl x3, .inl x4]) (st' := [.inr (.inl (7, 1))]) (σ' := σ) rfl).trans ?_
  exact Rx_call (n := 3) (y' := k_X2_passDay) (as := [.inr (.inl (7, 1))]) (rest := []) rfl rfl rfl
theorem r_X1_isUpDraughted_58 (x1 : Int) (x2 : Int) (x3 : Int) (x4 : Int) (σ : St) : Rx k_X1_isUpDraughted 58 [.inr (.inl (1, 0)), .inl x1, .inl x2, .inl x3, .inl x4] [] σ = Rx k_X1_isUpDraughted 14 [.inr (.inl (1, 0)), .inl x1, .inl x2, .inl x3, .inl (wr (x4 + 1))] [] σ := by
  refine (Rx_N (k := 2) (pc' := 14) (ls' := [.inr (.inl (1, 0)), .inl x1, .inl x2, .inl x3, .inl (wr (x4 + 1))]) (st' := []) (σ' := σ) rfl).trans ?_
  rfl
theorem b_X1_isUpDraughted_58 (x1 : Int) (x2 : Int) (x3 : Int) (x4 : Int) (σ : St) (g0a : -2147483648 ≤ (x4 + 1)) (g0b : (x4 + 1) < 2147483648) : Rx k_X1_isUpDraughted 58 [.inr (.inl (1, 0)), .inl x1, .inl x2, .inl x3, .inl x4] [] σ = Rx k_X1_isUpDraughted 14 [.inr (.inl (1, 0)), .inl x1, .inl x2, .inl x3, .inl (x4 + 1)] [] σ := by
  have e0 := wr_id (x := (x4 + 1)) g0a g0b
  have raw := r_X1_isUpDraughted_58 x1 x2 x3 x4 σ 
  simp only [e0] at raw
  exact raw
theorem b_X1_isUpDraughted_64 (x1 : Int) (x2 : Int) (x3 : Int) (x4 : Int) (σ : St) : Rx k_X1_isUpDraughted 64 [.inr (.inl (1, 0)), .inl x1, .inl x2, .inl x3, .inl x4] [] σ = (Rx k_X2_isUp 0 [.inr (.inl (7, 1)), .inl x1] [] σ).bind fun q => Rx k_X1_isUpDraughted 72 [.inr (.inl (1, 0)), .inl x1, .inl x2, .inl x3, .inl x4] (q.1.toList ++ []) q.2 := by
  refine (Rx_N (k := 3) (pc' := 69) (ls' := [.inr (.inl (1, 0)), .inl x1, .inl x2, .inl x3, .inl x4]) (st' := [.inl x1, .inr (.inl (7, 1))]) (σ' := σ) rfl).trans ?_
  exact Rx_call (n := 3) (y' := k_X2_isUp) (as := [.inr (.inl (7, 1)), .inl x1]) (rest := []) rfl rfl rfl
theorem b_X1_isUpDraughted_72 (x1 : Int) (x2 : Int) (x3 : Int) (x4 : Int) (s0 : Int) (σ : St) (h0 : rkOK 2 s0 = true) : Rx k_X1_isUpDraughted 72 [.inr (.inl (1, 0)), .inl x1, .inl x2, .inl x3, .inl x4] [.inl s0] σ = some (some (.inl s0), σ) := by
  exact Rx_ret rfl (if_pos h0)
theorem b_X1_settled_0 (x1 : Int) (x2 : Int) (x3 : Int) (u4 : AV) (σ : St) : Rx k_X1_settled 0 [.inr (.inl (1, 0)), .inl x1, .inl x2, .inl x3, u4] [] σ = Rx k_X1_settled 3 [.inr (.inl (1, 0)), .inl x1, .inl x2, .inl x3, .inl 0] [] σ := by
  refine (Rx_N (k := 2) (pc' := 3) (ls' := [.inr (.inl (1, 0)), .inl x1, .inl x2, .inl x3, .inl 0]) (st' := []) (σ' := σ) rfl).trans ?_
  rfl
theorem b_X1_settled_3 (x1 : Int) (x2 : Int) (x3 : Int) (x4 : Int) (σ : St) : Rx k_X1_settled 3 [.inr (.inl (1, 0)), .inl x1, .inl x2, .inl x3, .inl x4] [] σ = if x4 < 4 then Rx k_X1_settled 9 [.inr (.inl (1, 0)), .inl x1, .inl x2, .inl x3, .inl x4] [] σ else Rx k_X1_settled 55 [.inr (.inl (1, 0)), .inl x1, .inl x2, .inl x3, .inl x4] [] σ := by
  exact Rx_ge0 (k := 3) rfl
theorem r_X1_settled_9 (x1 : Int) (x2 : Int) (x3 : Int) (x4 : Int) (σ : St) : Rx k_X1_settled 9 [.inr (.inl (1, 0)), .inl x1, .inl x2, .inl x3, .inl x4] [] σ = if (wr (x4.tdiv 2)) = 1 then Rx k_X1_settled 24 [.inr (.inl (1, 0)), .inl x1, .inl x2, .inl x3, .inl x4] [.inr (.inl (1, 0)), .inl x4, .inr (.inl (2, 0))] σ else Rx k_X1_settled 28 [.inr (.inl (1, 0)), .inl x1, .inl x2, .inl x3, .inl x4] [.inr (.inl (1, 0)), .inl x4, .inr (.inl (2, 0))] σ := by
  exact Rx_ne0 (k := 9) rfl
theorem b_X1_settled_9 (x1 : Int) (x2 : Int) (x3 : Int) (x4 : Int) (σ : St) (g0a : -2147483648 ≤ (x4.tdiv 2)) (g0b : (x4.tdiv 2) < 2147483648) : Rx k_X1_settled 9 [.inr (.inl (1, 0)), .inl x1, .inl x2, .inl x3, .inl x4] [] σ = if (x4.tdiv 2) = 1 then Rx k_X1_settled 24 [.inr (.inl (1, 0)), .inl x1, .inl x2, .inl x3, .inl x4] [.inr (.inl (1, 0)), .inl x4, .inr (.inl (2, 0))] σ else Rx k_X1_settled 28 [.inr (.inl (1, 0)), .inl x1, .inl x2, .inl x3, .inl x4] [.inr (.inl (1, 0)), .inl x4, .inr (.inl (2, 0))] σ := by
  have e0 := wr_id (x := (x4.tdiv 2)) g0a g0b
  have raw := r_X1_settled_9 x1 x2 x3 x4 σ 
  simp only [e0] at raw
  exact raw
theorem b_X1_settled_24 (x1 : Int) (x2 : Int) (x3 : Int) (x4 : Int) (s1 : Int) (σ : St) : Rx k_X1_settled 24 [.inr (.inl (1, 0)), .inl x1, .inl x2, .inl x3, .inl x4] [.inr (.inl (1, 0)), .inl s1, .inr (.inl (2, 0))] σ = if (x4.tmod 2) = 1 then Rx k_X1_settled 38 [.inr (.inl (1, 0)), .inl x1, .inl x2, .inl x3, .inl x4] [.inl x1, .inr (.inl (1, 0)), .inl s1, .inr (.inl (2, 0))] σ else Rx k_X1_settled 42 [.inr (.inl (1, 0)), .inl x1, .inl x2, .inl x3, .inl x4] [.inl x1, .inr (.inl (1, 0)), .inl s1, .inr (.inl (2, 0))] σ := by
  exact Rx_ne0 (k := 7) rfl
theorem b_X1_settled_28 (x1 : Int) (x2 : Int) (x3 : Int) (x4 : Int) (s1 : Int) (σ : St) : Rx k_X1_settled 28 [.inr (.inl (1, 0)), .inl x1, .inl x2, .inl x3, .inl x4] [.inr (.inl (1, 0)), .inl s1, .inr (.inl (2, 0))] σ = if (x4.tmod 2) = 1 then Rx k_X1_settled 38 [.inr (.inl (1, 0)), .inl x1, .inl x2, .inl x3, .inl x4] [.inl (-9), .inr (.inl (1, 0)), .inl s1, .inr (.inl (2, 0))] σ else Rx k_X1_settled 42 [.inr (.inl (1, 0)), .inl x1, .inl x2, .inl x3, .inl x4] [.inl (-9), .inr (.inl (1, 0)), .inl s1, .inr (.inl (2, 0))] σ := by
  exact Rx_ne0 (k := 6) rfl
theorem b_X1_settled_38 (x1 : Int) (x2 : Int) (x3 : Int) (x4 : Int) (s3 : Int) (s1 : Int) (σ : St) : Rx k_X1_settled 38 [.inr (.inl (1, 0)), .inl x1, .inl x2, .inl x3, .inl x4] [.inl s3, .inr (.inl (1, 0)), .inl s1, .inr (.inl (2, 0))] σ = (Rx k_X1_standingPushed 0 [.inr (.inl (1, 0)), .inl s3, .inl x2, .inl x3] [] σ).bind fun q => Rx k_X1_settled 48 [.inr (.inl (1, 0)), .inl x1, .inl x2, .inl x3, .inl x4] (q.1.toList ++ [.inl s1, .inr (.inl (2, 0))]) q.2 := by
  refine (Rx_N (k := 3) (pc' := 45) (ls' := [.inr (.inl (1, 0)), .inl x1, .inl x2, .inl x3, .inl x4]) (st' := [.inl x3, .inl x2, .inl s3, .inr (.inl (1, 0)), .inl s1, .inr (.inl (2, 0))]) (σ' := σ) rfl).trans ?_
  exact Rx_call (n := 3) (y' := k_X1_standingPushed) (as := [.inr (.inl (1, 0)), .inl s3, .inl x2, .inl x3]) (rest := [.inl s1, .inr (.inl (2, 0))]) rfl rfl rfl
theorem b_X1_settled_42 (x1 : Int) (x2 : Int) (x3 : Int) (x4 : Int) (s3 : Int) (s1 : Int) (σ : St) : Rx k_X1_settled 42 [.inr (.inl (1, 0)), .inl x1, .inl x2, .inl x3, .inl x4] [.inl s3, .inr (.inl (1, 0)), .inl s1, .inr (.inl (2, 0))] σ = (Rx k_X1_standingPushed 0 [.inr (.inl (1, 0)), .inl s3, .inl (-9), .inl x3] [] σ).bind fun q => Rx k_X1_settled 48 [.inr (.inl (1, 0)), .inl x1, .inl x2, .inl x3, .inl x4] (q.1.toList ++ [.inl s1, .inr (.inl (2, 0))]) q.2 := by
  refine (Rx_N (k := 2) (pc' := 45) (ls' := [.inr (.inl (1, 0)), .inl x1, .inl x2, .inl x3, .inl x4]) (st' := [.inl x3, .inl (-9), .inl s3, .inr (.inl (1, 0)), .inl s1, .inr (.inl (2, 0))]) (σ' := σ) rfl).trans ?_
  exact Rx_call (n := 3) (y' := k_X1_standingPushed) (as := [.inr (.inl (1, 0)), .inl s3, .inl (-9), .inl x3]) (rest := [.inl s1, .inr (.inl (2, 0))]) rfl rfl rfl
theorem r_X1_settled_48 (x1 : Int) (x2 : Int) (x3 : Int) (x4 : Int) (s2 : Int) (s1 : Int) (σ : St) (h0 : 0 ≤ s1) (h1 : s1 < 4) : Rx k_X1_settled 48 [.inr (.inl (1, 0)), .inl x1, .inl x2, .inl x3, .inl x4] [.inl s2, .inl s1, .inr (.inl (2, 0))] σ = Rx k_X1_settled 3 [.inr (.inl (1, 0)), .inl x1, .inl x2, .inl x3, .inl (wr (x4 + 1))] [] (up σ 2 0 s1.toNat s2) := by
  refine (Rx_ist 4 rfl rfl h0 h1).trans ?_
  refine (Rx_N (k := 2) (pc' := 3) (ls' := [.inr (.inl (1, 0)), .inl x1, .inl x2, .inl x3, .inl (wr (x4 + 1))]) (st' := []) (σ' := (up σ 2 0 s1.toNat s2)) rfl).trans ?_
  rfl
theorem b_X1_settled_48 (x1 : Int) (x2 : Int) (x3 : Int) (x4 : Int) (s2 : Int) (s1 : Int) (σ : St) (h0 : 0 ≤ s1) (h1 : s1 < 4) (g0a : -2147483648 ≤ (x4 + 1)) (g0b : (x4 + 1) < 2147483648) : Rx k_X1_settled 48 [.inr (.inl (1, 0)), .inl x1, .inl x2, .inl x3, .inl x4] [.inl s2, .inl s1, .inr (.inl (2, 0))] σ = Rx k_X1_settled 3 [.inr (.inl (1, 0)), .inl x1, .inl x2, .inl x3, .inl (x4 + 1)] [] (up σ 2 0 s1.toNat s2) := by
  have e0 := wr_id (x := (x4 + 1)) g0a g0b
  have raw := r_X1_settled_48 x1 x2 x3 x4 s2 s1 σ h0 h1
  simp only [e0] at raw
  exact raw
theorem b_X1_settled_55 (x1 : Int) (x2 : Int) (x3 : Int) (x4 : Int) (σ : St) : Rx k_X1_settled 55 [.inr (.inl (1, 0)), .inl x1, .inl x2, .inl x3, .inl x4] [] σ = Rx k_X1_settled 58 [.inr (.inl (1, 0)), .inl x1, .inl x2, .inl x3, .inl 0] [] σ := by
  refine (Rx_N (k := 2) (pc' := 58) (ls' := [.inr (.inl (1, 0)), .inl x1, .inl x2, .inl x3, .inl 0]) (st' := []) (σ' := σ) rfl).trans ?_
  rfl
theorem b_X1_settled_58 (x1 : Int) (x2 : Int) (x3 : Int) (x4 : Int) (σ : St) : Rx k_X1_settled 58 [.inr (.inl (1, 0)), .inl x1, .inl x2, .inl x3, .inl x4] [] σ = if x4 < 4 then Rx k_X1_settled 64 [.inr (.inl (1, 0)), .inl x1, .inl x2, .inl x3, .inl x4] [] σ else Rx k_X1_settled 121 [.inr (.inl (1, 0)), .inl x1, .inl x2, .inl x3, .inl x4] [] σ := by
  exact Rx_ge0 (k := 3) rfl
theorem b_X1_settled_64 (x1 : Int) (x2 : Int) (x3 : Int) (x4 : Int) (σ : St) (h0 : 0 ≤ x4) (h1 : x4 < 4) (h2 : 0 ≤ (bXor x4 2)) (h3 : (bXor x4 2) < 4) : Rx k_X1_settled 64 [.inr (.inl (1, 0)), .inl x1, .inl x2, .inl x3, .inl x4] [] σ = if (σ 2 0 x4.toNat) < (σ 2 0 (bXor x4 2).toNat) then Rx k_X1_settled 115 [.inr (.inl (1, 0)), .inl x1, .inl x2, .inl x3, .inl x4] [] σ else Rx k_X1_settled 83 [.inr (.inl (1, 0)), .inl x1, .inl x2, .inl x3, .inl x4] [] σ := by
  refine (Rx_N (k := 3) (pc' := 70) (ls' := [.inr (.inl (1, 0)), .inl x1, .inl x2, .inl x3, .inl x4]) (st' := [.inl x4, .inr (.inl (2, 0))]) (σ' := σ) rfl).trans ?_
  refine (Rx_ild 4 rfl rfl rfl h0 h1).trans ?_
  refine (Rx_N (k := 5) (pc' := 79) (ls' := [.inr (.inl (1, 0)), .inl x1, .inl x2, .inl x3, .inl x4]) (st' := [.inl (bXor x4 2), .inr (.inl (2, 0)), .inl (σ 2 0 x4.toNat)]) (σ' := σ) rfl).trans ?_
  refine (Rx_ild 4 rfl rfl rfl h2 h3).trans ?_
  exact Rx_lt0 (k := 1) rfl
theorem b_X1_settled_83 (x1 : Int) (x2 : Int) (x3 : Int) (x4 : Int) (σ : St) (h0 : 0 ≤ x4) (h1 : x4 < 4) (h2 : 0 ≤ (bXor x4 1)) (h3 : (bXor x4 1) < 4) : Rx k_X1_settled 83 [.inr (.inl (1, 0)), .inl x1, .inl x2, .inl x3, .inl x4] [] σ = if (σ 2 0 (bXor x4 1).toNat) < (σ 2 0 x4.toNat) then Rx k_X1_settled 115 [.inr (.inl (1, 0)), .inl x1, .inl x2, .inl x3, .inl x4] [] σ else Rx k_X1_settled 102 [.inr (.inl (1, 0)), .inl x1, .inl x2, .inl x3, .inl x4] [] σ := by
  refine (Rx_N (k := 3) (pc' := 89) (ls' := [.inr (.inl (1, 0)), .inl x1, .inl x2, .inl x3, .inl x4]) (st' := [.inl x4, .inr (.inl (2, 0))]) (σ' := σ) rfl).trans ?_
  refine (Rx_ild 4 rfl rfl rfl h0 h1).trans ?_
  refine (Rx_N (k := 5) (pc' := 98) (ls' := [.inr (.inl (1, 0)), .inl x1, .inl x2, .inl x3, .inl x4]) (st' := [.inl (bXor x4 1), .inr (.inl (2, 0)), .inl (σ 2 0 x4.toNat)]) (σ' := σ) rfl).trans ?_
  refine (Rx_ild 4 rfl rfl rfl h2 h3).trans ?_
  exact Rx_gt0 (k := 1) rfl
theorem r_X1_settled_102 (x1 : Int) (x2 : Int) (x3 : Int) (x4 : Int) (σ : St) : Rx k_X1_settled 102 [.inr (.inl (1, 0)), .inl x1, .inl x2, .inl x3, .inl x4] [] σ = some (some (.inl (wr ((wr (10 * (wr (x4.tdiv 2)))) + (x4.tmod 2)))), σ) := by
  refine (Rx_N (k := 9) (pc' := 114) (ls' := [.inr (.inl (1, 0)), .inl x1, .inl x2, .inl x3, .inl x4]) (st' := [.inl (wr ((wr (10 * (wr (x4.tdiv 2)))) + (x4.tmod 2)))]) (σ' := σ) rfl).trans ?_
  exact Rx_ret rfl rfl
theorem b_X1_settled_102 (x1 : Int) (x2 : Int) (x3 : Int) (x4 : Int) (σ : St) (g0a : -2147483648 ≤ (x4.tdiv 2)) (g0b : (x4.tdiv 2) < 2147483648) (g1a : -2147483648 ≤ (10 * (x4.tdiv 2))) (g1b : (10 * (x4.tdiv 2)) < 2147483648) (g2a : -2147483648 ≤ (((10 * (x4.tdiv 2))) + (x4.tmod 2))) (g2b : (((10 * (x4.tdiv 2))) + (x4.tmod 2)) < 2147483648) : Rx k_X1_settled 102 [.inr (.inl (1, 0)), .inl x1, .inl x2, .inl x3, .inl x4] [] σ = some (some (.inl (((10 * (x4.tdiv 2))) + (x4.tmod 2))), σ) := by
  have e0 := wr_id (x := (x4.tdiv 2)) g0a g0b
  have e1 := wr_id (x := (10 * (x4.tdiv 2))) g1a g1b
  have e2 := wr_id (x := (((10 * (x4.tdiv 2))) + (x4.tmod 2))) g2a g2b
  have raw := r_X1_settled_102 x1 x2 x3 x4 σ 
  simp only [e0, e1, e2] at raw
  exact raw
theorem r_X1_settled_115 (x1 : Int) (x2 : Int) (x3 : Int) (x4 : Int) (σ : St) : Rx k_X1_settled 115 [.inr (.inl (1, 0)), .inl x1, .inl x2, .inl x3, .inl x4] [] σ = Rx k_X1_settled 58 [.inr (.inl (1, 0)), .inl x1, .inl x2, .inl x3, .inl (wr (x4 + 1))] [] σ := by
  refine (Rx_N (k := 2) (pc' := 58) (ls' := [.inr (.inl (1, 0)), .inl x1, .inl x2, .inl x3, .inl (wr (x4 + 1))]) (st' := []) (σ' := σ) rfl).trans ?_
  rfl
theorem b_X1_settled_115 (x1 : Int) (x2 : Int) (x3 : Int) (x4 : Int) (σ : St) (g0a : -2147483648 ≤ (x4 + 1)) (g0b : (x4 + 1) < 2147483648) : Rx k_X1_settled 115 [.inr (.inl (1, 0)), .inl x1, .inl x2, .inl x3, .inl x4] [] σ = Rx k_X1_settled 58 [.inr (.inl (1, 0)), .inl x1, .inl x2, .inl x3, .inl (x4 + 1)] [] σ := by
  have e0 := wr_id (x := (x4 + 1)) g0a g0b
  have raw := r_X1_settled_115 x1 x2 x3 x4 σ 
  simp only [e0] at raw
  exact raw
theorem b_X1_settled_121 (x1 : Int) (x2 : Int) (x3 : Int) (x4 : Int) (σ : St) : Rx k_X1_settled 121 [.inr (.inl (1, 0)), .inl x1, .inl x2, .inl x3, .inl x4] [] σ = some (some (.inl (-9)), σ) := by
  refine (Rx_N (k := 1) (pc' := 123) (ls' := [.inr (.inl (1, 0)), .inl x1, .inl x2, .inl x3, .inl x4]) (st' := [.inl (-9)]) (σ' := σ) rfl).trans ?_
  exact Rx_ret rfl rfl
theorem b_X1_standingPushed_0 (x1 : Int) (x2 : Int) (x3 : Int) (σ : St) : Rx k_X1_standingPushed 0 [.inr (.inl (1, 0)), .inl x1, .inl x2, .inl x3] [] σ = (Rx k_X2_become 0 [.inr (.inl (7, 1)), .inr (.inl (7, 0))] [] σ).bind fun q => Rx k_X1_standingPushed 11 [.inr (.inl (1, 0)), .inl x1, .inl x2, .inl x3] (q.1.toList ++ []) q.2 := by
  refine (Rx_N (k := 4) (pc' := 8) (ls' := [.inr (.inl (1, 0)), .inl x1, .inl x2, .inl x3]) (st' := [.inr (.inl (7, 0)), .inr (.inl (7, 1))]) (σ' := σ) rfl).trans ?_
  exact Rx_call (n := 3) (y' := k_X2_become) (as := [.inr (.inl (7, 1)), .inr (.inl (7, 0))]) (rest := []) rfl rfl rfl
theorem b_X1_standingPushed_11 (x1 : Int) (x2 : Int) (x3 : Int) (σ : St) : Rx k_X1_standingPushed 11 [.inr (.inl (1, 0)), .inl x1, .inl x2, .inl x3] [] σ = (Rx k_X2_topple 0 [.inr (.inl (7, 1)), .inl x1, uns, uns] [] σ).bind fun q => Rx k_X1_standingPushed 19 [.inr (.inl (1, 0)), .inl x1, .inl x2, .inl x3] (q.1.toList ++ []) q.2 := by
  refine (Rx_N (k := 3) (pc' := 16) (ls' := [.inr (.inl (1, 0)), .inl x1, .inl x2, .inl x3]) (st' := [.inl x1, .inr (.inl (7, 1))]) (σ' := σ) rfl).trans ?_
  exact Rx_call (n := 3) (y' := k_X2_topple) (as := [.inr (.inl (7, 1)), .inl x1]) (rest := []) rfl rfl rfl
theorem b_X1_standingPushed_19 (x1 : Int) (x2 : Int) (x3 : Int) (s0 : Int) (σ : St) : Rx k_X1_standingPushed 19 [.inr (.inl (1, 0)), .inl x1, .inl x2, .inl x3] [.inl s0] σ = (Rx k_X2_topple 0 [.inr (.inl (7, 1)), .inl x2, uns, uns] [] σ).bind fun q => Rx k_X1_standingPushed 28 [.inr (.inl (1, 0)), .inl x1, .inl x2, .inl x3] (q.1.toList ++ []) q.2 := by
  refine (Rx_N (k := 4) (pc' := 25) (ls' := [.inr (.inl (1, 0)), .inl x1, .inl x2, .inl x3]) (st' := [.inl x2, .inr (.inl (7, 1))]) (σ' := σ) rfl).trans ?_
  exact Rx_call (n := 3) (y' := k_X2_topple) (as := [.inr (.inl (7, 1)), .inl x2]) (rest := []) rfl rfl rfl
theorem b_X1_standingPushed_28 (x1 : Int) (x2 : Int) (x3 : Int) (s0 : Int) (σ : St) : Rx k_X1_standingPushed 28 [.inr (.inl (1, 0)), .inl x1, .inl x2, .inl x3] [.inl s0] σ = (Rx k_X2_passDays 0 [.inr (.inl (7, 1)), .inl x3, uns] [] σ).bind fun q => Rx k_X1_standingPushed 37 [.inr (.inl (1, 0)), .inl x1, .inl x2, .inl x3] (q.1.toList ++ []) q.2 := by
  refine (Rx_N (k := 4) (pc' := 34) (ls' := [.inr (.inl (1, 0)), .inl x1, .inl x2, .inl x3]) (st' := [.inl x3, .inr (.inl (7, 1))]) (σ' := σ) rfl).trans ?_
  exact Rx_call (n := 3) (y' := k_X2_passDays) (as := [.inr (.inl (7, 1)), .inl x3]) (rest := []) rfl rfl rfl
theorem b_X1_standingPushed_37 (x1 : Int) (x2 : Int) (x3 : Int) (σ : St) : Rx k_X1_standingPushed 37 [.inr (.inl (1, 0)), .inl x1, .inl x2, .inl x3] [] σ = (Rx k_X2_standing 0 [.inr (.inl (7, 1))] [] σ).bind fun q => Rx k_X1_standingPushed 44 [.inr (.inl (1, 0)), .inl x1, .inl x2, .inl x3] (q.1.toList ++ []) q.2 := by
  refine (Rx_N (k := 2) (pc' := 41) (ls' := [.inr (.inl (1, 0)), .inl x1, .inl x2, .inl x3]) (st' := [.inr (.inl (7, 1))]) (σ' := σ) rfl).trans ?_
  exact Rx_call (n := 3) (y' := k_X2_standing) (as := [.inr (.inl (7, 1))]) (rest := []) rfl rfl rfl
theorem b_X1_standingPushed_44 (x1 : Int) (x2 : Int) (x3 : Int) (s0 : Int) (σ : St) : Rx k_X1_standingPushed 44 [.inr (.inl (1, 0)), .inl x1, .inl x2, .inl x3] [.inl s0] σ = some (some (.inl s0), σ) := by
  exact Rx_ret rfl rfl
theorem b_X1_weakensAs_0 (x1 : Int) (x2 : Int) (x3 : Int) (x5 : Int) (u6 : AV) (σ : St) : Rx k_X1_weakensAs 0 [.inr (.inl (1, 0)), .inl x1, .inl x2, .inl x3, .inr (.inl (5, 0)), .inl x5, u6] [] σ = (Rx k_X2_become 0 [.inr (.inl (7, 1)), .inr (.inl (7, 0))] [] σ).bind fun q => Rx k_X1_weakensAs 11 [.inr (.inl (1, 0)), .inl x1, .inl x2, .inl x3, .inr (.inl (5, 0)), .inl x5, u6] (q.1.toList ++ []) q.2 := by
  refine (Rx_N (k := 4) (pc' := 8) (ls' := [.inr (.inl (1, 0)), .inl x1, .inl x2, .inl x3, .inr (.inl (5, 0)), .inl x5, u6]) (st' := [.inr (.inl (7, 0)), .inr (.inl (7, 1))]) (σ' := σ) rfl).trans ?_
  exact Rx_call (n := 3) (y' := k_X2_become) (as := [.inr (.inl (7, 1)), .inr (.inl (7, 0))]) (rest := []) rfl rfl rfl
theorem b_X1_weakensAs_11 (x1 : Int) (x2 : Int) (x3 : Int) (x5 : Int) (u6 : AV) (σ : St) : Rx k_X1_weakensAs 11 [.inr (.inl (1, 0)), .inl x1, .inl x2, .inl x3, .inr (.inl (5, 0)), .inl x5, u6] [] σ = (Rx k_X2_isPurpose 0 [.inr (.inl (7, 1)), .inl x1] [] σ).bind fun q => Rx k_X1_weakensAs 19 [.inr (.inl (1, 0)), .inl x1, .inl x2, .inl x3, .inr (.inl (5, 0)), .inl x5, u6] (q.1.toList ++ []) q.2 := by
  refine (Rx_N (k := 3) (pc' := 16) (ls' := [.inr (.inl (1, 0)), .inl x1, .inl x2, .inl x3, .inr (.inl (5, 0)), .inl x5, u6]) (st' := [.inl x1, .inr (.inl (7, 1))]) (σ' := σ) rfl).trans ?_
  exact Rx_call (n := 3) (y' := k_X2_isPurpose) (as := [.inr (.inl (7, 1)), .inl x1]) (rest := []) rfl rfl rfl
theorem b_X1_weakensAs_19 (x1 : Int) (x2 : Int) (x3 : Int) (x5 : Int) (u6 : AV) (s0 : Int) (σ : St) : Rx k_X1_weakensAs 19 [.inr (.inl (1, 0)), .inl x1, .inl x2, .inl x3, .inr (.inl (5, 0)), .inl x5, u6] [.inl s0] σ = if s0 = 0 then Rx k_X1_weakensAs 22 [.inr (.inl (1, 0)), .inl x1, .inl x2, .inl x3, .inr (.inl (5, 0)), .inl x5, u6] [] σ else Rx k_X1_weakensAs 24 [.inr (.inl (1, 0)), .inl x1, .inl x2, .inl x3, .inr (.inl (5, 0)), .inl x5, u6] [] σ := by
  exact Rx_ne0 (k := 1) rfl
theorem b_X1_weakensAs_22 (x1 : Int) (x2 : Int) (x3 : Int) (x5 : Int) (u6 : AV) (σ : St) : Rx k_X1_weakensAs 22 [.inr (.inl (1, 0)), .inl x1, .inl x2, .inl x3, .inr (.inl (5, 0)), .inl x5, u6] [] σ = some (some (.inl 0), σ) := by
  refine (Rx_N (k := 1) (pc' := 23) (ls' := [.inr (.inl (1, 0)), .inl x1, .inl x2, .inl x3, .inr (.inl (5, 0)), .inl x5, u6]) (st' := [.inl 0]) (σ' := σ) rfl).trans ?_
  exact Rx_ret rfl rfl
theorem b_X1_weakensAs_24 (x1 : Int) (x2 : Int) (x3 : Int) (x5 : Int) (u6 : AV) (σ : St) (h0 : 0 ≤ x1) (h1 : x1 < 5) : Rx k_X1_weakensAs 24 [.inr (.inl (1, 0)), .inl x1, .inl x2, .inl x3, .inr (.inl (5, 0)), .inl x5, u6] [] σ = Rx k_X1_weakensAs 47 [.inr (.inl (1, 0)), .inl x1, .inl x2, .inl x3, .inr (.inl (5, 0)), .inl x5, .inl 0] [] (up (up σ 8 1 x1.toNat x2) 9 1 x1.toNat x3) := by
  refine (Rx_N (k := 5) (pc' := 33) (ls' := [.inr (.inl (1, 0)), .inl x1, .inl x2, .inl x3, .inr (.inl (5, 0)), .inl x5, u6]) (st' := [.inl x2, .inl x1, .inr (.inl (8, 1))]) (σ' := σ) rfl).trans ?_
  refine (Rx_ist 5 rfl rfl h0 h1).trans ?_
  refine (Rx_N (k := 5) (pc' := 43) (ls' := [.inr (.inl (1, 0)), .inl x1, .inl x2, .inl x3, .inr (.inl (5, 0)), .inl x5, u6]) (st' := [.inl x3, .inl x1, .inr (.inl (9, 1))]) (σ' := (up σ 8 1 x1.toNat x2)) rfl).trans ?_
  refine (Rx_ist 5 rfl rfl h0 h1).trans ?_
  refine (Rx_N (k := 2) (pc' := 47) (ls' := [.inr (.inl (1, 0)), .inl x1, .inl x2, .inl x3, .inr (.inl (5, 0)), .inl x5, .inl 0]) (st' := []) (σ' := (up (up σ 8 1 x1.toNat x2) 9 1 x1.toNat x3)) rfl).trans ?_
  rfl
theorem b_X1_weakensAs_47 (x1 : Int) (x2 : Int) (x3 : Int) (x5 : Int) (x6 : Int) (σ : St) : Rx k_X1_weakensAs 47 [.inr (.inl (1, 0)), .inl x1, .inl x2, .inl x3, .inr (.inl (5, 0)), .inl x5, .inl x6] [] σ = if x6 < x5 then Rx k_X1_weakensAs 54 [.inr (.inl (1, 0)), .inl x1, .inl x2, .inl x3, .inr (.inl (5, 0)), .inl x5, .inl x6] [] σ else Rx k_X1_weakensAs 94 [.inr (.inl (1, 0)), .inl x1, .inl x2, .inl x3, .inr (.inl (5, 0)), .inl x5, .inl x6] [] σ := by
  exact Rx_ge0 (k := 3) rfl
theorem b_X1_weakensAs_54 (x1 : Int) (x2 : Int) (x3 : Int) (x5 : Int) (x6 : Int) (σ : St) : Rx k_X1_weakensAs 54 [.inr (.inl (1, 0)), .inl x1, .inl x2, .inl x3, .inr (.inl (5, 0)), .inl x5, .inl x6] [] σ = if x6 < 16 then Rx k_X1_weakensAs 62 [.inr (.inl (1, 0)), .inl x1, .inl x2, .inl x3, .inr (.inl (5, 0)), .inl x5, .inl x6] [] σ else Rx k_X1_weakensAs 94 [.inr (.inl (1, 0)), .inl x1, .inl x2, .inl x3, .inr (.inl (5, 0)), .inl x5, .inl x6] [] σ := by
  exact Rx_ge0 (k := 4) rfl
theorem b_X1_weakensAs_62 (x1 : Int) (x2 : Int) (x3 : Int) (x5 : Int) (x6 : Int) (σ : St) (h0 : 0 ≤ x1) (h1 : x1 < 5) (h2 : 0 ≤ x6) (h3 : x6 < 16) : Rx k_X1_weakensAs 62 [.inr (.inl (1, 0)), .inl x1, .inl x2, .inl x3, .inr (.inl (5, 0)), .inl x5, .inl x6] [] σ = if (σ 10 1 x1.toNat) = (σ 5 0 x6.toNat) then Rx k_X1_weakensAs 81 [.inr (.inl (1, 0)), .inl x1, .inl x2, .inl x3, .inr (.inl (5, 0)), .inl x5, .inl x6] [] σ else Rx k_X1_weakensAs 79 [.inr (.inl (1, 0)), .inl x1, .inl x2, .inl x3, .inr (.inl (5, 0)), .inl x5, .inl x6] [] σ := by
  refine (Rx_N (k := 4) (pc' := 70) (ls' := [.inr (.inl (1, 0)), .inl x1, .inl x2, .inl x3, .inr (.inl (5, 0)), .inl x5, .inl x6]) (st' := [.inl x1, .inr (.inl (10, 1))]) (σ' := σ) rfl).trans ?_
  refine (Rx_ild 5 rfl rfl rfl h0 h1).trans ?_
  refine (Rx_N (k := 2) (pc' := 75) (ls' := [.inr (.inl (1, 0)), .inl x1, .inl x2, .inl x3, .inr (.inl (5, 0)), .inl x5, .inl x6]) (st' := [.inl x6, .inr (.inl (5, 0)), .inl (σ 10 1 x1.toNat)]) (σ' := σ) rfl).trans ?_
  refine (Rx_ild 16 rfl rfl rfl h2 h3).trans ?_
  exact Rx_eq0 (k := 1) rfl
theorem b_X1_weakensAs_79 (x1 : Int) (x2 : Int) (x3 : Int) (x5 : Int) (x6 : Int) (σ : St) : Rx k_X1_weakensAs 79 [.inr (.inl (1, 0)), .inl x1, .inl x2, .inl x3, .inr (.inl (5, 0)), .inl x5, .inl x6] [] σ = some (some (.inl 0), σ) := by
  refine (Rx_N (k := 1) (pc' := 80) (ls' := [.inr (.inl (1, 0)), .inl x1, .inl x2, .inl x3, .inr (.inl (5, 0)), .inl x5, .inl x6]) (st' := [.inl 0]) (σ' := σ) rfl).trans ?_
  exact Rx_ret rfl rfl
theorem b_X1_weakensAs_81 (x1 : Int) (x2 : Int) (x3 : Int) (x5 : Int) (x6 : Int) (σ : St) : Rx k_X1_weakensAs 81 [.inr (.inl (1, 0)), .inl x1, .inl x2, .inl x3, .inr (.inl (5, 0)), .inl x5, .inl x6] [] σ = (Rx k_X2_passDay 0 [.inr (.inl (7, 1)), uns, uns] [] σ).bind fun q => Rx k_X1_weakensAs 88 [.inr (.inl (1, 0)), .inl x1, .inl x2, .inl x3, .inr (.inl (5, 0)), .inl x5, .inl x6] (q.1.toList ++ []) q.2 := by
  refine (Rx_N (k := 2) (pc' := 85) (ls' := [.inr (.inl (1, 0)), .inl x1, .inl x2, .inl x3, .inr (.inl (5, 0)), .inl x5, .inl x6]) (st' := [.inr (.inl (7, 1))]) (σ' := σ) rfl).trans ?_
  exact Rx_call (n := 3) (y' := k_X2_passDay) (as := [.inr (.inl (7, 1))]) (rest := []) rfl rfl rfl
theorem r_X1_weakensAs_88 (x1 : Int) (x2 : Int) (x3 : Int) (x5 : Int) (x6 : Int) (σ : St) : Rx k_X1_weakensAs 88 [.inr (.inl (1, 0)), .inl x1, .inl x2, .inl x3, .inr (.inl (5, 0)), .inl x5, .inl x6] [] σ = Rx k_X1_weakensAs 47 [.inr (.inl (1, 0)), .inl x1, .inl x2, .inl x3, .inr (.inl (5, 0)), .inl x5, .inl (wr (x6 + 1))] [] σ := by
  refine (Rx_N (k := 2) (pc' := 47) (ls' := [.inr (.inl (1, 0)), .inl x1, .inl x2, .inl x3, .inr (.inl (5, 0)), .inl x5, .inl (wr (x6 + 1))]) (st' := []) (σ' := σ) rfl).trans ?_
  rfl
theorem b_X1_weakensAs_88 (x1 : Int) (x2 : Int) (x3 : Int) (x5 : Int) (x6 : Int) (σ : St) (g0a : -2147483648 ≤ (x6 + 1)) (g0b : (x6 + 1) < 2147483648) : Rx k_X1_weakensAs 88 [.inr (.inl (1, 0)), .inl x1, .inl x2, .inl x3, .inr (.inl (5, 0)), .inl x5, .inl x6] [] σ = Rx k_X1_weakensAs 47 [.inr (.inl (1, 0)), .inl x1, .inl x2, .inl x3, .inr (.inl (5, 0)), .inl x5, .inl (x6 + 1)] [] σ := by
  have e0 := wr_id (x := (x6 + 1)) g0a g0b
  have raw := r_X1_weakensAs_88 x1 x2 x3 x5 x6 σ 
  simp only [e0] at raw
  exact raw
theorem b_X1_weakensAs_94 (x1 : Int) (x2 : Int) (x3 : Int) (x5 : Int) (x6 : Int) (σ : St) : Rx k_X1_weakensAs 94 [.inr (.inl (1, 0)), .inl x1, .inl x2, .inl x3, .inr (.inl (5, 0)), .inl x5, .inl x6] [] σ = some (some (.inl 1), σ) := by
  refine (Rx_N (k := 1) (pc' := 95) (ls' := [.inr (.inl (1, 0)), .inl x1, .inl x2, .inl x3, .inr (.inl (5, 0)), .inl x5, .inl x6]) (st' := [.inl 1]) (σ' := σ) rfl).trans ?_
  exact Rx_ret rfl rfl
theorem b_X1_firstMisjudged_0 (x2 : Int) (u3 : AV) (σ : St) : Rx k_X1_firstMisjudged 0 [.inr (.inl (1, 0)), .inr (.inl (5, 0)), .inl x2, u3] [] σ = (Rx k_X2_become 0 [.inr (.inl (7, 1)), .inr (.inl (7, 0))] [] σ).bind fun q => Rx k_X1_firstMisjudged 11 [.inr (.inl (1, 0)), .inr (.inl (5, 0)), .inl x2, u3] (q.1.toList ++ []) q.2 := by
  refine (Rx_N (k := 4) (pc' := 8) (ls' := [.inr (.inl (1, 0)), .inr (.inl (5, 0)), .inl x2, u3]) (st' := [.inr (.inl (7, 0)), .inr (.inl (7, 1))]) (σ' := σ) rfl).trans ?_
  exact Rx_call (n := 3) (y' := k_X2_become) (as := [.inr (.inl (7, 1)), .inr (.inl (7, 0))]) (rest := []) rfl rfl rfl
theorem b_X1_firstMisjudged_11 (x2 : Int) (u3 : AV) (σ : St) : Rx k_X1_firstMisjudged 11 [.inr (.inl (1, 0)), .inr (.inl (5, 0)), .inl x2, u3] [] σ = Rx k_X1_firstMisjudged 13 [.inr (.inl (1, 0)), .inr (.inl (5, 0)), .inl x2, .inl 0] [] σ := by
  refine (Rx_N (k := 2) (pc' := 13) (ls' := [.inr (.inl (1, 0)), .inr (.inl (5, 0)), .inl x2, .inl 0]) (st' := []) (σ' := σ) rfl).trans ?_
  rfl
theorem b_X1_firstMisjudged_13 (x2 : Int) (x3 : Int) (σ : St) : Rx k_X1_firstMisjudged 13 [.inr (.inl (1, 0)), .inr (.inl (5, 0)), .inl x2, .inl x3] [] σ = if x3 < x2 then Rx k_X1_firstMisjudged 18 [.inr (.inl (1, 0)), .inr (.inl (5, 0)), .inl x2, .inl x3] [] σ else Rx k_X1_firstMisjudged 52 [.inr (.inl (1, 0)), .inr (.inl (5, 0)), .inl x2, .inl x3] [] σ := by
  exact Rx_ge0 (k := 3) rfl
theorem b_X1_firstMisjudged_18 (x2 : Int) (x3 : Int) (σ : St) : Rx k_X1_firstMisjudged 18 [.inr (.inl (1, 0)), .inr (.inl (5, 0)), .inl x2, .inl x3] [] σ = if x3 < 16 then Rx k_X1_firstMisjudged 24 [.inr (.inl (1, 0)), .inr (.inl (5, 0)), .inl x2, .inl x3] [] σ else Rx k_X1_firstMisjudged 52 [.inr (.inl (1, 0)), .inr (.inl (5, 0)), .inl x2, .inl x3] [] σ := by
  exact Rx_ge0 (k := 4) rfl
theorem b_X1_firstMisjudged_24 (x2 : Int) (x3 : Int) (σ : St) : Rx k_X1_firstMisjudged 24 [.inr (.inl (1, 0)), .inr (.inl (5, 0)), .inl x2, .inl x3] [] σ = (Rx k_X2_standing 0 [.inr (.inl (7, 1))] [] σ).bind fun q => Rx k_X1_firstMisjudged 31 [.inr (.inl (1, 0)), .inr (.inl (5, 0)), .inl x2, .inl x3] (q.1.toList ++ []) q.2 := by
  refine (Rx_N (k := 2) (pc' := 28) (ls' := [.inr (.inl (1, 0)), .inr (.inl (5, 0)), .inl x2, .inl x3]) (st' := [.inr (.inl (7, 1))]) (σ' := σ) rfl).trans ?_
  exact Rx_call (n := 3) (y' := k_X2_standing) (as := [.inr (.inl (7, 1))]) (rest := []) rfl rfl rfl
theorem b_X1_firstMisjudged_31 (x2 : Int) (x3 : Int) (s0 : Int) (σ : St) (h0 : 0 ≤ x3) (h1 : x3 < 16) : Rx k_X1_firstMisjudged 31 [.inr (.inl (1, 0)), .inr (.inl (5, 0)), .inl x2, .inl x3] [.inl s0] σ = if s0 = (σ 5 0 x3.toNat) then Rx k_X1_firstMisjudged 39 [.inr (.inl (1, 0)), .inr (.inl (5, 0)), .inl x2, .inl x3] [] σ else Rx k_X1_firstMisjudged 37 [.inr (.inl (1, 0)), .inr (.inl (5, 0)), .inl x2, .inl x3] [] σ := by
  refine (Rx_N (k := 2) (pc' := 33) (ls' := [.inr (.inl (1, 0)), .inr (.inl (5, 0)), .inl x2, .inl x3]) (st' := [.inl x3, .inr (.inl (5, 0)), .inl s0]) (σ' := σ) rfl).trans ?_
  refine (Rx_ild 16 rfl rfl rfl h0 h1).trans ?_
  exact Rx_eq0 (k := 1) rfl
theorem b_X1_firstMisjudged_37 (x2 : Int) (x3 : Int) (σ : St) : Rx k_X1_firstMisjudged 37 [.inr (.inl (1, 0)), .inr (.inl (5, 0)), .inl x2, .inl x3] [] σ = some (some (.inl x3), σ) := by
  refine (Rx_N (k := 1) (pc' := 38) (ls' := [.inr (.inl (1, 0)), .inr (.inl (5, 0)), .inl x2, .inl x3]) (st' := [.inl x3]) (σ' := σ) rfl).trans ?_
  exact Rx_ret rfl rfl
theorem b_X1_firstMisjudged_39 (x2 : Int) (x3 : Int) (σ : St) : Rx k_X1_firstMisjudged 39 [.inr (.inl (1, 0)), .inr (.inl (5, 0)), .inl x2, .inl x3] [] σ = (Rx k_X2_passDay 0 [.inr (.inl (7, 1)), uns, uns] [] σ).bind fun q => Rx k_X1_firstMisjudged 46 [.inr (.inl (1, 0)), .inr (.inl (5, 0)), .inl x2, .inl x3] (q.1.toList ++ []) q.2 := by
  refine (Rx_N (k := 2) (pc' := 43) (ls' := [.inr (.inl (1, 0)), .inr (.inl (5, 0)), .inl x2, .inl x3]) (st' := [.inr (.inl (7, 1))]) (σ' := σ) rfl).trans ?_
  exact Rx_call (n := 3) (y' := k_X2_passDay) (as := [.inr (.inl (7, 1))]) (rest := []) rfl rfl rfl
theorem r_X1_firstMisjudged_46 (x2 : Int) (x3 : Int) (σ : St) : Rx k_X1_firstMisjudged 46 [.inr (.inl (1, 0)), .inr (.inl (5, 0)), .inl x2, .inl x3] [] σ = Rx k_X1_firstMisjudged 13 [.inr (.inl (1, 0)), .inr (.inl (5, 0)), .inl x2, .inl (wr (x3 + 1))] [] σ := by
  refine (Rx_N (k := 2) (pc' := 13) (ls' := [.inr (.inl (1, 0)), .inr (.inl (5, 0)), .inl x2, .inl (wr (x3 + 1))]) (st' := []) (σ' := σ) rfl).trans ?_
  rfl
theorem b_X1_firstMisjudged_46 (x2 : Int) (x3 : Int) (σ : St) (g0a : -2147483648 ≤ (x3 + 1)) (g0b : (x3 + 1) < 2147483648) : Rx k_X1_firstMisjudged 46 [.inr (.inl (1, 0)), .inr (.inl (5, 0)), .inl x2, .inl x3] [] σ = Rx k_X1_firstMisjudged 13 [.inr (.inl (1, 0)), .inr (.inl (5, 0)), .inl x2, .inl (x3 + 1)] [] σ := by
  have e0 := wr_id (x := (x3 + 1)) g0a g0b
  have raw := r_X1_firstMisjudged_46 x2 x3 σ 
  simp only [e0] at raw
  exact raw
theorem b_X1_firstMisjudged_52 (x2 : Int) (x3 : Int) (σ : St) : Rx k_X1_firstMisjudged 52 [.inr (.inl (1, 0)), .inr (.inl (5, 0)), .inl x2, .inl x3] [] σ = some (some (.inl (-9)), σ) := by
  refine (Rx_N (k := 1) (pc' := 54) (ls' := [.inr (.inl (1, 0)), .inr (.inl (5, 0)), .inl x2, .inl x3]) (st' := [.inl (-9)]) (σ' := σ) rfl).trans ?_
  exact Rx_ret rfl rfl
theorem b_X1_termsByLot_0 (x1 : Int) (x2 : Int) (x3 : Int) (u4 : AV) (u5 : AV) (u6 : AV) (u7 : AV) (σ : St) : Rx k_X1_termsByLot 0 [.inr (.inl (1, 0)), .inl x1, .inl x2, .inl x3, u4, u5, u6, u7] [] σ = Rx k_X1_termsByLot 9 [.inr (.inl (1, 0)), .inl x1, .inl x2, .inl x3, .inl 0, .inl x2, .inl 0, u7] [] σ := by
  refine (Rx_N (k := 6) (pc' := 9) (ls' := [.inr (.inl (1, 0)), .inl x1, .inl x2, .inl x3, .inl 0, .inl x2, .inl 0, u7]) (st' := []) (σ' := σ) rfl).trans ?_
  rfl
theorem b_X1_termsByLot_9 (x1 : Int) (x2 : Int) (x3 : Int) (x4 : Int) (x5 : Int) (x6 : Int) (u7 : AV) (σ : St) : Rx k_X1_termsByLot 9 [.inr (.inl (1, 0)), .inl x1, .inl x2, .inl x3, .inl x4, .inl x5, .inl x6, u7] [] σ = if x6 < x1 then Rx k_X1_termsByLot 15 [.inr (.inl (1, 0)), .inl x1, .inl x2, .inl x3, .inl x4, .inl x5, .inl x6, u7] [] σ else Rx k_X1_termsByLot 117 [.inr (.inl (1, 0)), .inl x1, .inl x2, .inl x3, .inl x4, .inl x5, .inl x6, u7] [] σ := by
  exact Rx_ge0 (k := 3) rfl
theorem b_X1_termsByLot_15 (x1 : Int) (x2 : Int) (x3 : Int) (x4 : Int) (x5 : Int) (x6 : Int) (u7 : AV) (σ : St) : Rx k_X1_termsByLot 15 [.inr (.inl (1, 0)), .inl x1, .inl x2, .inl x3, .inl x4, .inl x5, .inl x6, u7] [] σ = (Rx k_X2_become 0 [.inr (.inl (7, 1)), .inr (.inl (7, 0))] [] σ).bind fun q => Rx k_X1_termsByLot 26 [.inr (.inl (1, 0)), .inl x1, .inl x2, .inl x3, .inl x4, .inl x5, .inl x6, u7] (q.1.toList ++ []) q.2 := by
  refine (Rx_N (k := 4) (pc' := 23) (ls' := [.inr (.inl (1, 0)), .inl x1, .inl x2, .inl x3, .inl x4, .inl x5, .inl x6, u7]) (st' := [.inr (.inl (7, 0)), .inr (.inl (7, 1))]) (σ' := σ) rfl).trans ?_
  exact Rx_call (n := 3) (y' := k_X2_become) (as := [.inr (.inl (7, 1)), .inr (.inl (7, 0))]) (rest := []) rfl rfl rfl
theorem b_X1_termsByLot_26 (x1 : Int) (x2 : Int) (x3 : Int) (x4 : Int) (x5 : Int) (x6 : Int) (u7 : AV) (σ : St) : Rx k_X1_termsByLot 26 [.inr (.inl (1, 0)), .inl x1, .inl x2, .inl x3, .inl x4, .inl x5, .inl x6, u7] [] σ = Rx k_X1_termsByLot 29 [.inr (.inl (1, 0)), .inl x1, .inl x2, .inl x3, .inl x4, .inl x5, .inl x6, .inl 0] [] σ := by
  refine (Rx_N (k := 2) (pc' := 29) (ls' := [.inr (.inl (1, 0)), .inl x1, .inl x2, .inl x3, .inl x4, .inl x5, .inl x6, .inl 0]) (st' := []) (σ' := σ) rfl).trans ?_
  rfl
theorem b_X1_termsByLot_29 (x1 : Int) (x2 : Int) (x3 : Int) (x4 : Int) (x5 : Int) (x6 : Int) (x7 : Int) (σ : St) : Rx k_X1_termsByLot 29 [.inr (.inl (1, 0)), .inl x1, .inl x2, .inl x3, .inl x4, .inl x5, .inl x6, .inl x7] [] σ = if x7 < (σ 7 0 1) then Rx k_X1_termsByLot 41 [.inr (.inl (1, 0)), .inl x1, .inl x2, .inl x3, .inl x4, .inl x5, .inl x6, .inl x7] [] σ else Rx k_X1_termsByLot 76 [.inr (.inl (1, 0)), .inl x1, .inl x2, .inl x3, .inl x4, .inl x5, .inl x6, .inl x7] [] σ := by
  exact Rx_ge0 (k := 5) rfl
theorem b_X1_termsByLot_41 (x1 : Int) (x2 : Int) (x3 : Int) (x4 : Int) (x5 : Int) (x6 : Int) (x7 : Int) (σ : St) : Rx k_X1_termsByLot 41 [.inr (.inl (1, 0)), .inl x1, .inl x2, .inl x3, .inl x4, .inl x5, .inl x6, .inl x7] [] σ = (Rx k_X1_nextSeed 0 [.inl x5] [] σ).bind fun q => Rx k_X1_termsByLot 46 [.inr (.inl (1, 0)), .inl x1, .inl x2, .inl x3, .inl x4, .inl x5, .inl x6, .inl x7] (q.1.toList ++ []) q.2 := by
  refine (Rx_N (k := 1) (pc' := 43) (ls' := [.inr (.inl (1, 0)), .inl x1, .inl x2, .inl x3, .inl x4, .inl x5, .inl x6, .inl x7]) (st' := [.inl x5]) (σ' := σ) rfl).trans ?_
  exact Rx_call (n := 3) (y' := k_X1_nextSeed) (as := [.inl x5]) (rest := []) rfl rfl rfl
theorem b_X1_termsByLot_46 (x1 : Int) (x2 : Int) (x3 : Int) (x4 : Int) (x5 : Int) (x6 : Int) (x7 : Int) (s0 : Int) (σ : St) : Rx k_X1_termsByLot 46 [.inr (.inl (1, 0)), .inl x1, .inl x2, .inl x3, .inl x4, .inl x5, .inl x6, .inl x7] [.inl s0] σ = (Rx k_X1_drawBelow 0 [.inl s0, .inl (σ 7 0 0)] [] σ).bind fun q => Rx k_X1_termsByLot 66 [.inr (.inl (1, 0)), .inl x1, .inl x2, .inl x3, .inl x4, .inl s0, .inl x6, .inl x7] (q.1.toList ++ [.inl x7, .inr (.inl (7, 1))]) q.2 := by
  refine (Rx_N (k := 8) (pc' := 63) (ls' := [.inr (.inl (1, 0)), .inl x1, .inl x2, .inl x3, .inl x4, .inl s0, .inl x6, .inl x7]) (st' := [.inl (σ 7 0 0), .inl s0, .inl x7, .inr (.inl (7, 1))]) (σ' := σ) rfl).trans ?_
  exact Rx_call (n := 3) (y' := k_X1_drawBelow) (as := [.inl s0, .inl (σ 7 0 0)]) (rest := [.inl x7, .inr (.inl (7, 1))]) rfl rfl rfl
theorem b_X1_termsByLot_66 (x1 : Int) (x2 : Int) (x3 : Int) (x4 : Int) (x5 : Int) (x6 : Int) (x7 : Int) (s2 : Int) (s1 : Int) (σ : St) : Rx k_X1_termsByLot 66 [.inr (.inl (1, 0)), .inl x1, .inl x2, .inl x3, .inl x4, .inl x5, .inl x6, .inl x7] [.inl s2, .inl s1, .inr (.inl (7, 1))] σ = (Rx k_X2_leanOn 0 [.inr (.inl (7, 1)), .inl s1, .inl s2] [] σ).bind fun q => Rx k_X1_termsByLot 69 [.inr (.inl (1, 0)), .inl x1, .inl x2, .inl x3, .inl x4, .inl x5, .inl x6, .inl x7] (q.1.toList ++ []) q.2 := by
  exact Rx_call (n := 3) (y' := k_X2_leanOn) (as := [.inr (.inl (7, 1)), .inl s1, .inl s2]) (rest := []) rfl rfl rfl
theorem r_X1_termsByLot_69 (x1 : Int) (x2 : Int) (x3 : Int) (x4 : Int) (x5 : Int) (x6 : Int) (x7 : Int) (s0 : Int) (σ : St) : Rx k_X1_termsByLot 69 [.inr (.inl (1, 0)), .inl x1, .inl x2, .inl x3, .inl x4, .inl x5, .inl x6, .inl x7] [.inl s0] σ = Rx k_X1_termsByLot 29 [.inr (.inl (1, 0)), .inl x1, .inl x2, .inl x3, .inl x4, .inl x5, .inl x6, .inl (wr (x7 + 1))] [] σ := by
  refine (Rx_N (k := 3) (pc' := 29) (ls' := [.inr (.inl (1, 0)), .inl x1, .inl x2, .inl x3, .inl x4, .inl x5, .inl x6, .inl (wr (x7 + 1))]) (st' := []) (σ' := σ) rfl).trans ?_
  rfl
theorem b_X1_termsByLot_69 (x1 : Int) (x2 : Int) (x3 : Int) (x4 : Int) (x5 : Int) (x6 : Int) (x7 : Int) (s0 : Int) (σ : St) (g0a : -2147483648 ≤ (x7 + 1)) (g0b : (x7 + 1) < 2147483648) : Rx k_X1_termsByLot 69 [.inr (.inl (1, 0)), .inl x1, .inl x2, .inl x3, .inl x4, .inl x5, .inl x6, .inl x7] [.inl s0] σ = Rx k_X1_termsByLot 29 [.inr (.inl (1, 0)), .inl x1, .inl x2, .inl x3, .inl x4, .inl x5, .inl x6, .inl (x7 + 1)] [] σ := by
  have e0 := wr_id (x := (x7 + 1)) g0a g0b
  have raw := r_X1_termsByLot_69 x1 x2 x3 x4 x5 x6 x7 s0 σ 
  simp only [e0] at raw
  exact raw
theorem b_X1_termsByLot_76 (x1 : Int) (x2 : Int) (x3 : Int) (x4 : Int) (x5 : Int) (x6 : Int) (x7 : Int) (σ : St) : Rx k_X1_termsByLot 76 [.inr (.inl (1, 0)), .inl x1, .inl x2, .inl x3, .inl x4, .inl x5, .inl x6, .inl x7] [] σ = (Rx k_X2_passDays 0 [.inr (.inl (7, 1)), .inl 20, uns] [] σ).bind fun q => Rx k_X1_termsByLot 85 [.inr (.inl (1, 0)), .inl x1, .inl x2, .inl x3, .inl x4, .inl x5, .inl x6, .inl x7] (q.1.toList ++ []) q.2 := by
  refine (Rx_N (k := 3) (pc' := 82) (ls' := [.inr (.inl (1, 0)), .inl x1, .inl x2, .inl x3, .inl x4, .inl x5, .inl x6, .inl x7]) (st' := [.inl 20, .inr (.inl (7, 1))]) (σ' := σ) rfl).trans ?_
  exact Rx_call (n := 3) (y' := k_X2_passDays) (as := [.inr (.inl (7, 1)), .inl 20]) (rest := []) rfl rfl rfl
theorem b_X1_termsByLot_85 (x1 : Int) (x2 : Int) (x3 : Int) (x4 : Int) (x5 : Int) (x6 : Int) (x7 : Int) (σ : St) : Rx k_X1_termsByLot 85 [.inr (.inl (1, 0)), .inl x1, .inl x2, .inl x3, .inl x4, .inl x5, .inl x6, .inl x7] [] σ = if x3 = 0 then Rx k_X1_termsByLot 91 [.inr (.inl (1, 0)), .inl x1, .inl x2, .inl x3, .inl x4, .inl x5, .inl x6, .inl x7] [.inl x4] σ else Rx k_X1_termsByLot 101 [.inr (.inl (1, 0)), .inl x1, .inl x2, .inl x3, .inl x4, .inl x5, .inl x6, .inl x7] [.inl x4] σ := by
  exact Rx_ne0 (k := 3) rfl
theorem b_X1_termsByLot_91 (x1 : Int) (x2 : Int) (x3 : Int) (x4 : Int) (x5 : Int) (x6 : Int) (x7 : Int) (s0 : Int) (σ : St) : Rx k_X1_termsByLot 91 [.inr (.inl (1, 0)), .inl x1, .inl x2, .inl x3, .inl x4, .inl x5, .inl x6, .inl x7] [.inl s0] σ = (Rx k_X2_standing 0 [.inr (.inl (7, 1))] [] σ).bind fun q => Rx k_X1_termsByLot 98 [.inr (.inl (1, 0)), .inl x1, .inl x2, .inl x3, .inl x4, .inl x5, .inl x6, .inl x7] (q.1.toList ++ [.inl s0]) q.2 := by
  refine (Rx_N (k := 2) (pc' := 95) (ls' := [.inr (.inl (1, 0)), .inl x1, .inl x2, .inl x3, .inl x4, .inl x5, .inl x6, .inl x7]) (st' := [.inr (.inl (7, 1)), .inl s0]) (σ' := σ) rfl).trans ?_
  exact Rx_call (n := 3) (y' := k_X2_standing) (as := [.inr (.inl (7, 1))]) (rest := [.inl s0]) rfl rfl rfl
theorem r_X1_termsByLot_98 (x1 : Int) (x2 : Int) (x3 : Int) (x4 : Int) (x5 : Int) (x6 : Int) (x7 : Int) (s1 : Int) (s0 : Int) (σ : St) : Rx k_X1_termsByLot 98 [.inr (.inl (1, 0)), .inl x1, .inl x2, .inl x3, .inl x4, .inl x5, .inl x6, .inl x7] [.inl s1, .inl s0] σ = Rx k_X1_termsByLot 9 [.inr (.inl (1, 0)), .inl x1, .inl x2, .inl x3, .inl (wr (s0 + s1)), .inl x5, .inl (wr (x6 + 1)), .inl x7] [] σ := by
  refine (Rx_N (k := 5) (pc' := 9) (ls' := [.inr (.inl (1, 0)), .inl x1, .inl x2, .inl x3, .inl (wr (s0 + s1)), .inl x5, .inl (wr (x6 + 1)), .inl x7]) (st' := []) (σ' := σ) rfl).trans ?_
  rfl
theorem b_X1_termsByLot_98 (x1 : Int) (x2 : Int) (x3 : Int) (x4 : Int) (x5 : Int) (x6 : Int) (x7 : Int) (s1 : Int) (s0 : Int) (σ : St) (g0a : -2147483648 ≤ (x6 + 1)) (g0b : (x6 + 1) < 2147483648) (g1a : -2147483648 ≤ (s0 + s1)) (g1b : (s0 + s1) < 2147483648) : Rx k_X1_termsByLot 98 [.inr (.inl (1, 0)), .inl x1, .inl x2, .inl x3, .inl x4, .inl x5, .inl x6, .inl x7] [.inl s1, .inl s0] σ = Rx k_X1_termsByLot 9 [.inr (.inl (1, 0)), .inl x1, .inl x2, .inl x3, .inl (s0 + s1), .inl x5, .inl (x6 + 1), .inl x7] [] σ := by
  have e0 := wr_id (x := (x6 + 1)) g0a g0b
  have e1 := wr_id (x := (s0 + s1)) g1a g1b
  have raw := r_X1_termsByLot_98 x1 x2 x3 x4 x5 x6 x7 s1 s0 σ 
  simp only [e0, e1] at raw
  exact raw
theorem b_X1_termsByLot_101 (x1 : Int) (x2 : Int) (x3 : Int) (x4 : Int) (x5 : Int) (x6 : Int) (x7 : Int) (s0 : Int) (σ : St) : Rx k_X1_termsByLot 101 [.inr (.inl (1, 0)), .inl x1, .inl x2, .inl x3, .inl x4, .inl x5, .inl x6, .inl x7] [.inl s0] σ = (Rx k_X2_allStrength 0 [.inr (.inl (7, 1)), uns, uns] [] σ).bind fun q => Rx k_X1_termsByLot 108 [.inr (.inl (1, 0)), .inl x1, .inl x2, .inl x3, .inl x4, .inl x5, .inl x6, .inl x7] (q.1.toList ++ [.inl s0]) q.2 := by
  refine (Rx_N (k := 2) (pc' := 105) (ls' := [.inr (.inl (1, 0)), .inl x1, .inl x2, .inl x3, .inl x4, .inl x5, .inl x6, .inl x7]) (st' := [.inr (.inl (7, 1)), .inl s0]) (σ' := σ) rfl).trans ?_
  exact Rx_call (n := 3) (y' := k_X2_allStrength) (as := [.inr (.inl (7, 1))]) (rest := [.inl s0]) rfl rfl rfl
theorem r_X1_termsByLot_108 (x1 : Int) (x2 : Int) (x3 : Int) (x4 : Int) (x5 : Int) (x6 : Int) (x7 : Int) (s1 : Int) (s0 : Int) (σ : St) : Rx k_X1_termsByLot 108 [.inr (.inl (1, 0)), .inl x1, .inl x2, .inl x3, .inl x4, .inl x5, .inl x6, .inl x7] [.inl s1, .inl s0] σ = Rx k_X1_termsByLot 9 [.inr (.inl (1, 0)), .inl x1, .inl x2, .inl x3, .inl (wr (s0 + s1)), .inl x5, .inl (wr (x6 + 1)), .inl x7] [] σ := by
  refine (Rx_N (k := 4) (pc' := 9) (ls' := [.inr (.inl (1, 0)), .inl x1, .inl x2, .inl x3, .inl (wr (s0 + s1)), .inl x5, .inl (wr (x6 + 1)), .inl x7]) (st' := []) (σ' := σ) rfl).trans ?_
  rfl
theorem b_X1_termsByLot_108 (x1 : Int) (x2 : Int) (x3 : Int) (x4 : Int) (x5 : Int) (x6 : Int) (x7 : Int) (s1 : Int) (s0 : Int) (σ : St) (g0a : -2147483648 ≤ (x6 + 1)) (g0b : (x6 + 1) < 2147483648) (g1a : -2147483648 ≤ (s0 + s1)) (g1b : (s0 + s1) < 2147483648) : Rx k_X1_termsByLot 108 [.inr (.inl (1, 0)), .inl x1, .inl x2, .inl x3, .inl x4, .inl x5, .inl x6, .inl x7] [.inl s1, .inl s0] σ = Rx k_X1_termsByLot 9 [.inr (.inl (1, 0)), .inl x1, .inl x2, .inl x3, .inl (s0 + s1), .inl x5, .inl (x6 + 1), .inl x7] [] σ := by
  have e0 := wr_id (x := (x6 + 1)) g0a g0b
  have e1 := wr_id (x := (s0 + s1)) g1a g1b
  have raw := r_X1_termsByLot_108 x1 x2 x3 x4 x5 x6 x7 s1 s0 σ 
  simp only [e0, e1] at raw
  exact raw
theorem b_X1_termsByLot_117 (x1 : Int) (x2 : Int) (x3 : Int) (x4 : Int) (x5 : Int) (x6 : Int) (u7 : AV) (σ : St) : Rx k_X1_termsByLot 117 [.inr (.inl (1, 0)), .inl x1, .inl x2, .inl x3, .inl x4, .inl x5, .inl x6, u7] [] σ = some (some (.inl x4), σ) := by
  refine (Rx_N (k := 1) (pc' := 119) (ls' := [.inr (.inl (1, 0)), .inl x1, .inl x2, .inl x3, .inl x4, .inl x5, .inl x6, u7]) (st' := [.inl x4]) (σ' := σ) rfl).trans ?_
  exact Rx_ret rfl rfl
theorem b_X1_nextSeed_0 (x0 : Int) (σ : St) : Rx k_X1_nextSeed 0 [.inl x0] [] σ = some (some (.inl (wr ((wr (x0 * 1664525)) + 1013904223))), σ) := by
  refine (Rx_N (k := 5) (pc' := 7) (ls' := [.inl x0]) (st' := [.inl (wr ((wr (x0 * 1664525)) + 1013904223))]) (σ' := σ) rfl).trans ?_
  exact Rx_ret rfl rfl
theorem b_X1_drawBelow_0 (x0 : Int) (x1 : Int) (σ : St) : Rx k_X1_drawBelow 0 [.inl x0, .inl x1] [] σ = if 0 < x1 then Rx k_X1_drawBelow 4 [.inl x0, .inl x1] [] σ else Rx k_X1_drawBelow 17 [.inl x0, .inl x1] [] σ := by
  exact Rx_le0 (k := 2) rfl
theorem b_X1_drawBelow_4 (x0 : Int) (x1 : Int) (σ : St) (h0 : x1 ≠ 0) : Rx k_X1_drawBelow 4 [.inl x0, .inl x1] [] σ = some (some (.inl ((wr ((bAnd x0 2147483647).tdiv 256)).tmod x1)), σ) := by
  refine (Rx_N (k := 6) (pc' := 13) (ls' := [.inl x0, .inl x1]) (st' := [.inl x1, .inl (wr ((bAnd x0 2147483647).tdiv 256))]) (σ' := σ) rfl).trans ?_
  refine (Rx_irem rfl h0).trans ?_
  refine (Rx_N (k := 1) (pc' := 18) (ls' := [.inl x0, .inl x1]) (st' := [.inl ((wr ((bAnd x0 2147483647).tdiv 256)).tmod x1)]) (σ' := σ) rfl).trans ?_
  exact Rx_ret rfl rfl
theorem b_X1_drawBelow_17 (x0 : Int) (x1 : Int) (σ : St) : Rx k_X1_drawBelow 17 [.inl x0, .inl x1] [] σ = some (some (.inl 0), σ) := by
  refine (Rx_N (k := 1) (pc' := 18) (ls' := [.inl x0, .inl x1]) (st' := [.inl 0]) (σ' := σ) rfl).trans ?_
  exact Rx_ret rfl rfl
