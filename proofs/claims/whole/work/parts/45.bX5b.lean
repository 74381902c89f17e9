theorem b_X5_falls_0 (x1 : Int) (σ : St) : Rx k_X5_falls 0 [.inr (.inl (16, 0)), .inl x1] [] σ = (Rx k_X5_isThing 0 [.inr (.inl (16, 0)), .inl x1] [] σ).bind fun q => Rx k_X5_falls 5 [.inr (.inl (16, 0)), .inl x1] (q.1.toList ++ []) q.2 := by
  refine (Rx_N (k := 2) (pc' := 2) (ls' := [.inr (.inl (16, 0)), .inl x1]) (st' := [.inl x1, .inr (.inl (16, 0))]) (σ' := σ) rfl).trans ?_
  exact Rx_call (n := 3) (y' := k_X5_isThing) (as := [.inr (.inl (16, 0)), .inl x1]) (rest := []) rfl rfl rfl
theorem b_X5_falls_5 (x1 : Int) (s0 : Int) (σ : St) : Rx k_X5_falls 5 [.inr (.inl (16, 0)), .inl x1] [.inl s0] σ = if s0 = 0 then Rx k_X5_falls 16 [.inr (.inl (16, 0)), .inl x1] [] σ else Rx k_X5_falls 8 [.inr (.inl (16, 0)), .inl x1] [] σ := by
  exact Rx_eq0 (k := 1) rfl
theorem b_X5_falls_8 (x1 : Int) (σ : St) : Rx k_X5_falls 8 [.inr (.inl (16, 0)), .inl x1] [] σ = (Rx k_X5_fallsOf 0 [.inr (.inl (16, 0)), .inl x1] [] σ).bind fun q => Rx k_X5_falls 13 [.inr (.inl (16, 0)), .inl x1] (q.1.toList ++ []) q.2 := by
  refine (Rx_N (k := 2) (pc' := 10) (ls' := [.inr (.inl (16, 0)), .inl x1]) (st' := [.inl x1, .inr (.inl (16, 0))]) (σ' := σ) rfl).trans ?_
  exact Rx_call (n := 3) (y' := k_X5_fallsOf) (as := [.inr (.inl (16, 0)), .inl x1]) (rest := []) rfl rfl rfl
theorem b_X5_falls_13 (x1 : Int) (s0 : Int) (σ : St) : Rx k_X5_falls 13 [.inr (.inl (16, 0)), .inl x1] [.inl s0] σ = some (some (.inl s0), σ) := by
  refine (Rx_N (k := 1) (pc' := 21) (ls' := [.inr (.inl (16, 0)), .inl x1]) (st' := [.inl s0]) (σ' := σ) rfl).trans ?_
  exact Rx_ret rfl rfl
theorem b_X5_falls_16 (x1 : Int) (σ : St) : Rx k_X5_falls 16 [.inr (.inl (16, 0)), .inl x1] [] σ = (Rx k_X5_no 0 [.inr (.inl (16, 0)), .inl (-1)] [] σ).bind fun q => Rx k_X5_falls 21 [.inr (.inl (16, 0)), .inl x1] (q.1.toList ++ []) q.2 := by
  refine (Rx_N (k := 2) (pc' := 18) (ls' := [.inr (.inl (16, 0)), .inl x1]) (st' := [.inl (-1), .inr (.inl (16, 0))]) (σ' := σ) rfl).trans ?_
  exact Rx_call (n := 3) (y' := k_X5_no) (as := [.inr (.inl (16, 0)), .inl (-1)]) (rest := []) rfl rfl rfl
theorem b_X5_falls_21 (x1 : Int) (s0 : Int) (σ : St) : Rx k_X5_falls 21 [.inr (.inl (16, 0)), .inl x1] [.inl s0] σ = some (some (.inl s0), σ) := by
  exact Rx_ret rfl rfl
theorem b_X5_first_0 (x1 : Int) (u2 : AV) (u3 : AV) (u4 : AV) (u5 : AV) (u6 : AV) (σ : St) : Rx k_X5_first 0 [.inr (.inl (16, 0)), .inl x1, u2, u3, u4, u5, u6] [] σ = (Rx k_X5_isIn 0 [.inl x1, .inl 0, .inl 3] [] σ).bind fun q => Rx k_X5_first 6 [.inr (.inl (16, 0)), .inl x1, u2, u3, u4, u5, u6] (q.1.toList ++ []) q.2 := by
  refine (Rx_N (k := 3) (pc' := 3) (ls' := [.inr (.inl (16, 0)), .inl x1, u2, u3, u4, u5, u6]) (st' := [.inl 3, .inl 0, .inl x1]) (σ' := σ) rfl).trans ?_
  exact Rx_call (n := 3) (y' := k_X5_isIn) (as := [.inl x1, .inl 0, .inl 3]) (rest := []) rfl rfl rfl
theorem b_X5_first_6 (x1 : Int) (u2 : AV) (u3 : AV) (u4 : AV) (u5 : AV) (u6 : AV) (s0 : Int) (σ : St) : Rx k_X5_first 6 [.inr (.inl (16, 0)), .inl x1, u2, u3, u4, u5, u6] [.inl s0] σ = if s0 = 0 then Rx k_X5_first 9 [.inr (.inl (16, 0)), .inl x1, u2, u3, u4, u5, u6] [] σ else Rx k_X5_first 16 [.inr (.inl (16, 0)), .inl x1, u2, u3, u4, u5, u6] [] σ := by
  exact Rx_ne0 (k := 1) rfl
theorem b_X5_first_9 (x1 : Int) (u2 : AV) (u3 : AV) (u4 : AV) (u5 : AV) (u6 : AV) (σ : St) : Rx k_X5_first 9 [.inr (.inl (16, 0)), .inl x1, u2, u3, u4, u5, u6] [] σ = (Rx k_X5_no 0 [.inr (.inl (16, 0)), .inl (-2)] [] σ).bind fun q => Rx k_X5_first 15 [.inr (.inl (16, 0)), .inl x1, u2, u3, u4, u5, u6] (q.1.toList ++ []) q.2 := by
  refine (Rx_N (k := 2) (pc' := 12) (ls' := [.inr (.inl (16, 0)), .inl x1, u2, u3, u4, u5, u6]) (st' := [.inl (-2), .inr (.inl (16, 0))]) (σ' := σ) rfl).trans ?_
  exact Rx_call (n := 3) (y' := k_X5_no) (as := [.inr (.inl (16, 0)), .inl (-2)]) (rest := []) rfl rfl rfl
theorem b_X5_first_15 (x1 : Int) (u2 : AV) (u3 : AV) (u4 : AV) (u5 : AV) (u6 : AV) (s0 : Int) (σ : St) : Rx k_X5_first 15 [.inr (.inl (16, 0)), .inl x1, u2, u3, u4, u5, u6] [.inl s0] σ = some (some (.inl s0), σ) := by
  exact Rx_ret rfl rfl
theorem b_X5_first_16 (x1 : Int) (u2 : AV) (u3 : AV) (u4 : AV) (u5 : AV) (u6 : AV) (σ : St) : Rx k_X5_first 16 [.inr (.inl (16, 0)), .inl x1, u2, u3, u4, u5, u6] [] σ = (Rx k_X5_copies 0 [.inr (.inl (17, 0)), .inr (.inl (17, 1)), uns] [] σ).bind fun q => Rx k_X5_first 27 [.inr (.inl (16, 0)), .inl x1, u2, u3, u4, u5, u6] (q.1.toList ++ []) q.2 := by
  refine (Rx_N (k := 4) (pc' := 24) (ls' := [.inr (.inl (16, 0)), .inl x1, u2, u3, u4, u5, u6]) (st' := [.inr (.inl (17, 1)), .inr (.inl (17, 0))]) (σ' := σ) rfl).trans ?_
  exact Rx_call (n := 3) (y' := k_X5_copies) (as := [.inr (.inl (17, 0)), .inr (.inl (17, 1))]) (rest := []) rfl rfl rfl
theorem b_X5_first_27 (x1 : Int) (u2 : AV) (u3 : AV) (u4 : AV) (u5 : AV) (u6 : AV) (σ : St) : Rx k_X5_first 27 [.inr (.inl (16, 0)), .inl x1, u2, u3, u4, u5, u6] [] σ = if x1 = 3 then Rx k_X5_first 32 [.inr (.inl (16, 0)), .inl x1, u2, u3, u4, u5, u6] [] σ else Rx k_X5_first 48 [.inr (.inl (16, 0)), .inl x1, u2, u3, u4, u5, u6] [] σ := by
  exact Rx_ne0 (k := 3) rfl
theorem r_X5_first_32 (x1 : Int) (u2 : AV) (u3 : AV) (u4 : AV) (u5 : AV) (u6 : AV) (σ : St) : Rx k_X5_first 32 [.inr (.inl (16, 0)), .inl x1, u2, u3, u4, u5, u6] [] σ = (Rx k_X5_downIn 0 [.inr (.inl (16, 0)), .inl (wr ((bShl 1 (σ 17 0 1)) - 1)), .inl 1, uns, uns] [] σ).bind fun q => Rx k_X5_first 47 [.inr (.inl (16, 0)), .inl x1, u2, u3, u4, u5, u6] (q.1.toList ++ []) q.2 := by
  refine (Rx_N (k := 10) (pc' := 44) (ls' := [.inr (.inl (16, 0)), .inl x1, u2, u3, u4, u5, u6]) (st' := [.inl 1, .inl (wr ((bShl 1 (σ 17 0 1)) - 1)), .inr (.inl (16, 0))]) (σ' := σ) rfl).trans ?_
  exact Rx_call (n := 3) (y' := k_X5_downIn) (as := [.inr (.inl (16, 0)), .inl (wr ((bShl 1 (σ 17 0 1)) - 1)), .inl 1]) (rest := []) rfl rfl rfl
theorem b_X5_first_32 (x1 : Int) (u2 : AV) (u3 : AV) (u4 : AV) (u5 : AV) (u6 : AV) (σ : St) (g0a : -2147483648 ≤ ((bShl 1 (σ 17 0 1)) - 1)) (g0b : ((bShl 1 (σ 17 0 1)) - 1) < 2147483648) : Rx k_X5_first 32 [.inr (.inl (16, 0)), .inl x1, u2, u3, u4, u5, u6] [] σ = (Rx k_X5_downIn 0 [.inr (.inl (16, 0)), .inl ((bShl 1 (σ 17 0 1)) - 1), .inl 1, uns, uns] [] σ).bind fun q => Rx k_X5_first 47 [.inr (.inl (16, 0)), .inl x1, u2, u3, u4, u5, u6] (q.1.toList ++ []) q.2 := by
  have e0 := wr_id (x := ((bShl 1 (σ 17 0 1)) - 1)) g0a g0b
  have raw := r_X5_first_32 x1 u2 u3 u4 u5 u6 σ 
  simp only [e0] at raw
  exact raw
theorem b_X5_first_47 (x1 : Int) (u2 : AV) (u3 : AV) (u4 : AV) (u5 : AV) (u6 : AV) (s0 : Int) (σ : St) : Rx k_X5_first 47 [.inr (.inl (16, 0)), .inl x1, u2, u3, u4, u5, u6] [.inl s0] σ = some (some (.inl s0), σ) := by
  exact Rx_ret rfl rfl
theorem b_X5_first_48 (x1 : Int) (u2 : AV) (u3 : AV) (u4 : AV) (u5 : AV) (u6 : AV) (σ : St) : Rx k_X5_first 48 [.inr (.inl (16, 0)), .inl x1, u2, u3, u4, u5, u6] [] σ = if x1 = 2 then Rx k_X5_first 53 [.inr (.inl (16, 0)), .inl x1, u2, u3, u4, u5, u6] [] σ else Rx k_X5_first 79 [.inr (.inl (16, 0)), .inl x1, u2, u3, u4, u5, u6] [] σ := by
  exact Rx_ne0 (k := 3) rfl
theorem b_X5_first_53 (x1 : Int) (u2 : AV) (u3 : AV) (u4 : AV) (u5 : AV) (u6 : AV) (σ : St) : Rx k_X5_first 53 [.inr (.inl (16, 0)), .inl x1, u2, u3, u4, u5, u6] [] σ = (Rx k_X5_upSet 0 [.inr (.inl (17, 0)), uns, uns] [] σ).bind fun q => Rx k_X5_first 61 [.inr (.inl (16, 0)), .inl x1, u2, u3, u4, u5, u6] (q.1.toList ++ [.inr (.inl (16, 0))]) q.2 := by
  refine (Rx_N (k := 3) (pc' := 58) (ls' := [.inr (.inl (16, 0)), .inl x1, u2, u3, u4, u5, u6]) (st' := [.inr (.inl (17, 0)), .inr (.inl (16, 0))]) (σ' := σ) rfl).trans ?_
  exact Rx_call (n := 3) (y' := k_X5_upSet) (as := [.inr (.inl (17, 0))]) (rest := [.inr (.inl (16, 0))]) rfl rfl rfl
theorem b_X5_first_61 (x1 : Int) (u2 : AV) (u3 : AV) (u4 : AV) (u5 : AV) (u6 : AV) (s1 : Int) (σ : St) : Rx k_X5_first 61 [.inr (.inl (16, 0)), .inl x1, u2, u3, u4, u5, u6] [.inl s1, .inr (.inl (16, 0))] σ = (Rx k_X5_downIn 0 [.inr (.inl (16, 0)), .inl s1, .inl 0, uns, uns] [] σ).bind fun q => Rx k_X5_first 65 [.inr (.inl (16, 0)), .inl x1, u2, u3, u4, u5, u6] (q.1.toList ++ []) q.2 := by
  refine (Rx_N (k := 1) (pc' := 62) (ls' := [.inr (.inl (16, 0)), .inl x1, u2, u3, u4, u5, u6]) (st' := [.inl 0, .inl s1, .inr (.inl (16, 0))]) (σ' := σ) rfl).trans ?_
  exact Rx_call (n := 3) (y' := k_X5_downIn) (as := [.inr (.inl (16, 0)), .inl s1, .inl 0]) (rest := []) rfl rfl rfl
theorem b_X5_first_65 (x1 : Int) (u2 : AV) (u3 : AV) (u4 : AV) (u5 : AV) (u6 : AV) (s0 : Int) (σ : St) : Rx k_X5_first 65 [.inr (.inl (16, 0)), .inl x1, u2, u3, u4, u5, u6] [.inl s0] σ = if s0 < 0 then Rx k_X5_first 70 [.inr (.inl (16, 0)), .inl x1, .inl s0, u3, u4, u5, u6] [] σ else Rx k_X5_first 75 [.inr (.inl (16, 0)), .inl x1, .inl s0, u3, u4, u5, u6] [] σ := by
  exact Rx_ge0 (k := 3) rfl
theorem b_X5_first_70 (x1 : Int) (x2 : Int) (u3 : AV) (u4 : AV) (u5 : AV) (u6 : AV) (σ : St) : Rx k_X5_first 70 [.inr (.inl (16, 0)), .inl x1, .inl x2, u3, u4, u5, u6] [] σ = some (some (.inl 99), σ) := by
  refine (Rx_N (k := 2) (pc' := 78) (ls' := [.inr (.inl (16, 0)), .inl x1, .inl x2, u3, u4, u5, u6]) (st' := [.inl 99]) (σ' := σ) rfl).trans ?_
  exact Rx_ret rfl rfl
theorem r_X5_first_75 (x1 : Int) (x2 : Int) (u3 : AV) (u4 : AV) (u5 : AV) (u6 : AV) (σ : St) : Rx k_X5_first 75 [.inr (.inl (16, 0)), .inl x1, .inl x2, u3, u4, u5, u6] [] σ = some (some (.inl (wr (x2 - 1))), σ) := by
  refine (Rx_N (k := 3) (pc' := 78) (ls' := [.inr (.inl (16, 0)), .inl x1, .inl x2, u3, u4, u5, u6]) (st' := [.inl (wr (x2 - 1))]) (σ' := σ) rfl).trans ?_
  exact Rx_ret rfl rfl
theorem b_X5_first_75 (x1 : Int) (x2 : Int) (u3 : AV) (u4 : AV) (u5 : AV) (u6 : AV) (σ : St) (g0a : -2147483648 ≤ (x2 - 1)) (g0b : (x2 - 1) < 2147483648) : Rx k_X5_first 75 [.inr (.inl (16, 0)), .inl x1, .inl x2, u3, u4, u5, u6] [] σ = some (some (.inl (x2 - 1)), σ) := by
  have e0 := wr_id (x := (x2 - 1)) g0a g0b
  have raw := r_X5_first_75 x1 x2 u3 u4 u5 u6 σ 
  simp only [e0] at raw
  exact raw
theorem b_X5_first_79 (x1 : Int) (u2 : AV) (u3 : AV) (u4 : AV) (u5 : AV) (u6 : AV) (σ : St) : Rx k_X5_first 79 [.inr (.inl (16, 0)), .inl x1, u2, u3, u4, u5, u6] [] σ = Rx k_X5_first 88 [.inr (.inl (16, 0)), .inl x1, .inl (-9), .inl 1000000000, .inl 0, u5, u6] [] σ := by
  refine (Rx_N (k := 6) (pc' := 88) (ls' := [.inr (.inl (16, 0)), .inl x1, .inl (-9), .inl 1000000000, .inl 0, u5, u6]) (st' := []) (σ' := σ) rfl).trans ?_
  rfl
theorem b_X5_first_88 (x1 : Int) (x2 : Int) (x3 : Int) (x4 : Int) (u5 : AV) (u6 : AV) (σ : St) : Rx k_X5_first 88 [.inr (.inl (16, 0)), .inl x1, .inl x2, .inl x3, .inl x4, u5, u6] [] σ = if x4 < 20 then Rx k_X5_first 95 [.inr (.inl (16, 0)), .inl x1, .inl x2, .inl x3, .inl x4, u5, u6] [] σ else Rx k_X5_first 162 [.inr (.inl (16, 0)), .inl x1, .inl x2, .inl x3, .inl x4, u5, u6] [] σ := by
  exact Rx_ge0 (k := 3) rfl
theorem b_X5_first_95 (x1 : Int) (x2 : Int) (x3 : Int) (x4 : Int) (u5 : AV) (u6 : AV) (σ : St) : Rx k_X5_first 95 [.inr (.inl (16, 0)), .inl x1, .inl x2, .inl x3, .inl x4, u5, u6] [] σ = (Rx k_X5_whoAt 0 [.inr (.inl (17, 0)), .inl x4, uns] [] σ).bind fun q => Rx k_X5_first 104 [.inr (.inl (16, 0)), .inl x1, .inl x2, .inl x3, .inl x4, u5, u6] (q.1.toList ++ []) q.2 := by
  refine (Rx_N (k := 3) (pc' := 101) (ls' := [.inr (.inl (16, 0)), .inl x1, .inl x2, .inl x3, .inl x4, u5, u6]) (st' := [.inl x4, .inr (.inl (17, 0))]) (σ' := σ) rfl).trans ?_
  exact Rx_call (n := 3) (y' := k_X5_whoAt) (as := [.inr (.inl (17, 0)), .inl x4]) (rest := []) rfl rfl rfl
theorem b_X5_first_104 (x1 : Int) (x2 : Int) (x3 : Int) (x4 : Int) (u5 : AV) (u6 : AV) (s0 : Int) (σ : St) : Rx k_X5_first 104 [.inr (.inl (16, 0)), .inl x1, .inl x2, .inl x3, .inl x4, u5, u6] [.inl s0] σ = if s0 < 0 then Rx k_X5_first 132 [.inr (.inl (16, 0)), .inl x1, .inl x2, .inl x3, .inl x4, .inl s0, u6] [] σ else Rx k_X5_first 111 [.inr (.inl (16, 0)), .inl x1, .inl x2, .inl x3, .inl x4, .inl s0, u6] [] σ := by
  exact Rx_lt0 (k := 3) rfl
theorem b_X5_first_111 (x1 : Int) (x2 : Int) (x3 : Int) (x4 : Int) (x5 : Int) (u6 : AV) (σ : St) : Rx k_X5_first 111 [.inr (.inl (16, 0)), .inl x1, .inl x2, .inl x3, .inl x4, .inl x5, u6] [] σ = (Rx k_X5_isUp 0 [.inr (.inl (17, 0)), .inl x5] [] σ).bind fun q => Rx k_X5_first 120 [.inr (.inl (16, 0)), .inl x1, .inl x2, .inl x3, .inl x4, .inl x5, u6] (q.1.toList ++ []) q.2 := by
  refine (Rx_N (k := 3) (pc' := 117) (ls' := [.inr (.inl (16, 0)), .inl x1, .inl x2, .inl x3, .inl x4, .inl x5, u6]) (st' := [.inl x5, .inr (.inl (17, 0))]) (σ' := σ) rfl).trans ?_
  exact Rx_call (n := 3) (y' := k_X5_isUp) (as := [.inr (.inl (17, 0)), .inl x5]) (rest := []) rfl rfl rfl
theorem b_X5_first_120 (x1 : Int) (x2 : Int) (x3 : Int) (x4 : Int) (x5 : Int) (u6 : AV) (s0 : Int) (σ : St) : Rx k_X5_first 120 [.inr (.inl (16, 0)), .inl x1, .inl x2, .inl x3, .inl x4, .inl x5, u6] [.inl s0] σ = if s0 = 0 then Rx k_X5_first 132 [.inr (.inl (16, 0)), .inl x1, .inl x2, .inl x3, .inl x4, .inl x5, u6] [] σ else Rx k_X5_first 123 [.inr (.inl (16, 0)), .inl x1, .inl x2, .inl x3, .inl x4, .inl x5, u6] [] σ := by
  exact Rx_eq0 (k := 1) rfl
theorem b_X5_first_123 (x1 : Int) (x2 : Int) (x3 : Int) (x4 : Int) (x5 : Int) (u6 : AV) (σ : St) : Rx k_X5_first 123 [.inr (.inl (16, 0)), .inl x1, .inl x2, .inl x3, .inl x4, .inl x5, u6] [] σ = (Rx k_X5_fallsOf 0 [.inr (.inl (16, 0)), .inl x5] [] σ).bind fun q => Rx k_X5_first 129 [.inr (.inl (16, 0)), .inl x1, .inl x2, .inl x3, .inl x4, .inl x5, u6] (q.1.toList ++ []) q.2 := by
  refine (Rx_N (k := 2) (pc' := 126) (ls' := [.inr (.inl (16, 0)), .inl x1, .inl x2, .inl x3, .inl x4, .inl x5, u6]) (st' := [.inl x5, .inr (.inl (16, 0))]) (σ' := σ) rfl).trans ?_
  exact Rx_call (n := 3) (y' := k_X5_fallsOf) (as := [.inr (.inl (16, 0)), .inl x5]) (rest := []) rfl rfl rfl
theorem b_X5_first_129 (x1 : Int) (x2 : Int) (x3 : Int) (x4 : Int) (x5 : Int) (u6 : AV) (s0 : Int) (σ : St) : Rx k_X5_first 129 [.inr (.inl (16, 0)), .inl x1, .inl x2, .inl x3, .inl x4, .inl x5, u6] [.inl s0] σ = if s0 < 0 then Rx k_X5_first 156 [.inr (.inl (16, 0)), .inl x1, .inl x2, .inl x3, .inl x4, .inl x5, .inl s0] [] σ else Rx k_X5_first 141 [.inr (.inl (16, 0)), .inl x1, .inl x2, .inl x3, .inl x4, .inl x5, .inl s0] [] σ := by
  exact Rx_lt0 (k := 4) rfl
theorem b_X5_first_132 (x1 : Int) (x2 : Int) (x3 : Int) (x4 : Int) (x5 : Int) (u6 : AV) (σ : St) : Rx k_X5_first 132 [.inr (.inl (16, 0)), .inl x1, .inl x2, .inl x3, .inl x4, .inl x5, u6] [] σ = if ((-9) : Int) < (0 : Int) then Rx k_X5_first 156 [.inr (.inl (16, 0)), .inl x1, .inl x2, .inl x3, .inl x4, .inl x5, .inl (-9)] [] σ else Rx k_X5_first 141 [.inr (.inl (16, 0)), .inl x1, .inl x2, .inl x3, .inl x4, .inl x5, .inl (-9)] [] σ := by
  exact Rx_lt0 (k := 4) rfl
theorem b_X5_first_141 (x1 : Int) (x2 : Int) (x3 : Int) (x4 : Int) (x5 : Int) (x6 : Int) (σ : St) : Rx k_X5_first 141 [.inr (.inl (16, 0)), .inl x1, .inl x2, .inl x3, .inl x4, .inl x5, .inl x6] [] σ = if x6 < x3 then Rx k_X5_first 150 [.inr (.inl (16, 0)), .inl x1, .inl x2, .inl x3, .inl x4, .inl x5, .inl x6] [] σ else Rx k_X5_first 147 [.inr (.inl (16, 0)), .inl x1, .inl x2, .inl x3, .inl x4, .inl x5, .inl x6] [] σ := by
  exact Rx_lt0 (k := 3) rfl
theorem r_X5_first_147 (x1 : Int) (x2 : Int) (x3 : Int) (x4 : Int) (x5 : Int) (x6 : Int) (σ : St) : Rx k_X5_first 147 [.inr (.inl (16, 0)), .inl x1, .inl x2, .inl x3, .inl x4, .inl x5, .inl x6] [] σ = Rx k_X5_first 88 [.inr (.inl (16, 0)), .inl x1, .inl x2, .inl x3, .inl (wr (x4 + 1)), .inl x5, .inl x6] [] σ := by
  refine (Rx_N (k := 3) (pc' := 88) (ls' := [.inr (.inl (16, 0)), .inl x1, .inl x2, .inl x3, .inl (wr (x4 + 1)), .inl x5, .inl x6]) (st' := []) (σ' := σ) rfl).trans ?_
  rfl
theorem b_X5_first_147 (x1 : Int) (x2 : Int) (x3 : Int) (x4 : Int) (x5 : Int) (x6 : Int) (σ : St) (g0a : -2147483648 ≤ (x4 + 1)) (g0b : (x4 + 1) < 2147483648) : Rx k_X5_first 147 [.inr (.inl (16, 0)), .inl x1, .inl x2, .inl x3, .inl x4, .inl x5, .inl x6] [] σ = Rx k_X5_first 88 [.inr (.inl (16, 0)), .inl x1, .inl x2, .inl x3, .inl (x4 + 1), .inl x5, .inl x6] [] σ := by
  have e0 := wr_id (x := (x4 + 1)) g0a g0b
  have raw := r_X5_first_147 x1 x2 x3 x4 x5 x6 σ 
  simp only [e0] at raw
  exact raw
theorem r_X5_first_150 (x1 : Int) (x2 : Int) (x3 : Int) (x4 : Int) (x5 : Int) (x6 : Int) (σ : St) : Rx k_X5_first 150 [.inr (.inl (16, 0)), .inl x1, .inl x2, .inl x3, .inl x4, .inl x5, .inl x6] [] σ = Rx k_X5_first 88 [.inr (.inl (16, 0)), .inl x1, .inl x5, .inl x6, .inl (wr (x4 + 1)), .inl x5, .inl x6] [] σ := by
  refine (Rx_N (k := 6) (pc' := 88) (ls' := [.inr (.inl (16, 0)), .inl x1, .inl x5, .inl x6, .inl (wr (x4 + 1)), .inl x5, .inl x6]) (st' := []) (σ' := σ) rfl).trans ?_
  rfl
theorem b_X5_first_150 (x1 : Int) (x2 : Int) (x3 : Int) (x4 : Int) (x5 : Int) (x6 : Int) (σ : St) (g0a : -2147483648 ≤ (x4 + 1)) (g0b : (x4 + 1) < 2147483648) : Rx k_X5_first 150 [.inr (.inl (16, 0)), .inl x1, .inl x2, .inl x3, .inl x4, .inl x5, .inl x6] [] σ = Rx k_X5_first 88 [.inr (.inl (16, 0)), .inl x1, .inl x5, .inl x6, .inl (x4 + 1), .inl x5, .inl x6] [] σ := by
  have e0 := wr_id (x := (x4 + 1)) g0a g0b
  have raw := r_X5_first_150 x1 x2 x3 x4 x5 x6 σ 
  simp only [e0] at raw
  exact raw
theorem r_X5_first_156 (x1 : Int) (x2 : Int) (x3 : Int) (x4 : Int) (x5 : Int) (x6 : Int) (σ : St) : Rx k_X5_first 156 [.inr (.inl (16, 0)), .inl x1, .inl x2, .inl x3, .inl x4, .inl x5, .inl x6] [] σ = Rx k_X5_first 88 [.inr (.inl (16, 0)), .inl x1, .inl x2, .inl x3, .inl (wr (x4 + 1)), .inl x5, .inl x6] [] σ := by
  refine (Rx_N (k := 2) (pc' := 88) (ls' := [.inr (.inl (16, 0)), .inl x1, .inl x2, .inl x3, .inl (wr (x4 + 1)), .inl x5, .inl x6]) (st' := []) (σ' := σ) rfl).trans ?_
  rfl
theorem b_X5_first_156 (x1 : Int) (x2 : Int) (x3 : Int) (x4 : Int) (x5 : Int) (x6 : Int) (σ : St) (g0a : -2147483648 ≤ (x4 + 1)) (g0b : (x4 + 1) < 2147483648) : Rx k_X5_first 156 [.inr (.inl (16, 0)), .inl x1, .inl x2, .inl x3, .inl x4, .inl x5, .inl x6] [] σ = Rx k_X5_first 88 [.inr (.inl (16, 0)), .inl x1, .inl x2, .inl x3, .inl (x4 + 1), .inl x5, .inl x6] [] σ := by
  have e0 := wr_id (x := (x4 + 1)) g0a g0b
  have raw := r_X5_first_156 x1 x2 x3 x4 x5 x6 σ 
  simp only [e0] at raw
  exact raw
theorem b_X5_first_162 (x1 : Int) (x2 : Int) (x3 : Int) (x4 : Int) (u5 : AV) (u6 : AV) (σ : St) : Rx k_X5_first 162 [.inr (.inl (16, 0)), .inl x1, .inl x2, .inl x3, .inl x4, u5, u6] [] σ = if x2 < 0 then Rx k_X5_first 170 [.inr (.inl (16, 0)), .inl x1, .inl x2, .inl x3, .inl x4, u5, u6] [] σ else Rx k_X5_first 166 [.inr (.inl (16, 0)), .inl x1, .inl x2, .inl x3, .inl x4, u5, u6] [] σ := by
  exact Rx_lt0 (k := 2) rfl
theorem b_X5_first_166 (x1 : Int) (x2 : Int) (x3 : Int) (x4 : Int) (u5 : AV) (u6 : AV) (σ : St) : Rx k_X5_first 166 [.inr (.inl (16, 0)), .inl x1, .inl x2, .inl x3, .inl x4, u5, u6] [] σ = if x1 = 0 then Rx k_X5_first 170 [.inr (.inl (16, 0)), .inl x1, .inl x2, .inl x3, .inl x4, u5, u6] [] σ else Rx k_X5_first 174 [.inr (.inl (16, 0)), .inl x1, .inl x2, .inl x3, .inl x4, u5, u6] [] σ := by
  exact Rx_ne0 (k := 2) rfl
theorem b_X5_first_170 (x1 : Int) (x2 : Int) (x3 : Int) (x4 : Int) (u5 : AV) (u6 : AV) (σ : St) : Rx k_X5_first 170 [.inr (.inl (16, 0)), .inl x1, .inl x2, .inl x3, .inl x4, u5, u6] [] σ = some (some (.inl x2), σ) := by
  refine (Rx_N (k := 2) (pc' := 175) (ls' := [.inr (.inl (16, 0)), .inl x1, .inl x2, .inl x3, .inl x4, u5, u6]) (st' := [.inl x2]) (σ' := σ) rfl).trans ?_
  exact Rx_ret rfl rfl
theorem b_X5_first_174 (x1 : Int) (x2 : Int) (x3 : Int) (x4 : Int) (u5 : AV) (u6 : AV) (σ : St) : Rx k_X5_first 174 [.inr (.inl (16, 0)), .inl x1, .inl x2, .inl x3, .inl x4, u5, u6] [] σ = some (some (.inl x3), σ) := by
  refine (Rx_N (k := 1) (pc' := 175) (ls' := [.inr (.inl (16, 0)), .inl x1, .inl x2, .inl x3, .inl x4, u5, u6]) (st' := [.inl x3]) (σ' := σ) rfl).trans ?_
  exact Rx_ret rfl rfl
theorem b_X5_pushedBy_0 (x1 : Int) (u2 : AV) (σ : St) : Rx k_X5_pushedBy 0 [.inr (.inl (16, 0)), .inl x1, u2] [] σ = (Rx k_X5_fells 0 [.inr (.inl (17, 1)), .inl x1, uns, uns, uns] [] σ).bind fun q => Rx k_X5_pushedBy 8 [.inr (.inl (16, 0)), .inl x1, u2] (q.1.toList ++ []) q.2 := by
  refine (Rx_N (k := 3) (pc' := 5) (ls' := [.inr (.inl (16, 0)), .inl x1, u2]) (st' := [.inl x1, .inr (.inl (17, 1))]) (σ' := σ) rfl).trans ?_
  exact Rx_call (n := 3) (y' := k_X5_fells) (as := [.inr (.inl (17, 1)), .inl x1]) (rest := []) rfl rfl rfl
theorem b_X5_pushedBy_8 (x1 : Int) (u2 : AV) (s0 : Int) (σ : St) : Rx k_X5_pushedBy 8 [.inr (.inl (16, 0)), .inl x1, u2] [.inl s0] σ = (Rx k_X5_upSet 0 [.inr (.inl (17, 0)), uns, uns] [] σ).bind fun q => Rx k_X5_pushedBy 16 [.inr (.inl (16, 0)), .inl x1, .inl s0] (q.1.toList ++ []) q.2 := by
  refine (Rx_N (k := 3) (pc' := 13) (ls' := [.inr (.inl (16, 0)), .inl x1, .inl s0]) (st' := [.inr (.inl (17, 0))]) (σ' := σ) rfl).trans ?_
  exact Rx_call (n := 3) (y' := k_X5_upSet) (as := [.inr (.inl (17, 0))]) (rest := []) rfl rfl rfl
theorem b_X5_pushedBy_16 (x1 : Int) (x2 : Int) (s0 : Int) (σ : St) : Rx k_X5_pushedBy 16 [.inr (.inl (16, 0)), .inl x1, .inl x2] [.inl s0] σ = (Rx k_X5_upSet 0 [.inr (.inl (17, 1)), uns, uns] [] σ).bind fun q => Rx k_X5_pushedBy 23 [.inr (.inl (16, 0)), .inl x1, .inl x2] (q.1.toList ++ [.inl s0]) q.2 := by
  refine (Rx_N (k := 2) (pc' := 20) (ls' := [.inr (.inl (16, 0)), .inl x1, .inl x2]) (st' := [.inr (.inl (17, 1)), .inl s0]) (σ' := σ) rfl).trans ?_
  exact Rx_call (n := 3) (y' := k_X5_upSet) (as := [.inr (.inl (17, 1))]) (rest := [.inl s0]) rfl rfl rfl
theorem b_X5_pushedBy_23 (x1 : Int) (x2 : Int) (s1 : Int) (s0 : Int) (σ : St) : Rx k_X5_pushedBy 23 [.inr (.inl (16, 0)), .inl x1, .inl x2] [.inl s1, .inl s0] σ = some (some (.inl (bAnd s0 (bXor s1 (-1)))), σ) := by
  refine (Rx_N (k := 3) (pc' := 26) (ls' := [.inr (.inl (16, 0)), .inl x1, .inl x2]) (st' := [.inl (bAnd s0 (bXor s1 (-1)))]) (σ' := σ) rfl).trans ?_
  exact Rx_ret rfl rfl
theorem b_X5_pushed_0 (x1 : Int) (u2 : AV) (σ : St) : Rx k_X5_pushed 0 [.inr (.inl (16, 0)), .inl x1, u2] [] σ = (Rx k_X5_wrongUp 0 [.inr (.inl (16, 0)), .inl x1] [] σ).bind fun q => Rx k_X5_pushed 5 [.inr (.inl (16, 0)), .inl x1, u2] (q.1.toList ++ []) q.2 := by
  refine (Rx_N (k := 2) (pc' := 2) (ls' := [.inr (.inl (16, 0)), .inl x1, u2]) (st' := [.inl x1, .inr (.inl (16, 0))]) (σ' := σ) rfl).trans ?_
  exact Rx_call (n := 3) (y' := k_X5_wrongUp) (as := [.inr (.inl (16, 0)), .inl x1]) (rest := []) rfl rfl rfl
theorem b_X5_pushed_5 (x1 : Int) (u2 : AV) (s0 : Int) (σ : St) : Rx k_X5_pushed 5 [.inr (.inl (16, 0)), .inl x1, u2] [.inl s0] σ = if s0 = 0 then Rx k_X5_pushed 16 [.inr (.inl (16, 0)), .inl x1, .inl s0] [] σ else Rx k_X5_pushed 10 [.inr (.inl (16, 0)), .inl x1, .inl s0] [] σ := by
  exact Rx_eq0 (k := 3) rfl
theorem b_X5_pushed_10 (x1 : Int) (x2 : Int) (σ : St) : Rx k_X5_pushed 10 [.inr (.inl (16, 0)), .inl x1, .inl x2] [] σ = (Rx k_X5_no 0 [.inr (.inl (16, 0)), .inl x2] [] σ).bind fun q => Rx k_X5_pushed 15 [.inr (.inl (16, 0)), .inl x1, .inl x2] (q.1.toList ++ []) q.2 := by
  refine (Rx_N (k := 2) (pc' := 12) (ls' := [.inr (.inl (16, 0)), .inl x1, .inl x2]) (st' := [.inl x2, .inr (.inl (16, 0))]) (σ' := σ) rfl).trans ?_
  exact Rx_call (n := 3) (y' := k_X5_no) (as := [.inr (.inl (16, 0)), .inl x2]) (rest := []) rfl rfl rfl
theorem b_X5_pushed_15 (x1 : Int) (x2 : Int) (s0 : Int) (σ : St) : Rx k_X5_pushed 15 [.inr (.inl (16, 0)), .inl x1, .inl x2] [.inl s0] σ = some (some (.inl s0), σ) := by
  exact Rx_ret rfl rfl
theorem b_X5_pushed_16 (x1 : Int) (x2 : Int) (σ : St) : Rx k_X5_pushed 16 [.inr (.inl (16, 0)), .inl x1, .inl x2] [] σ = (Rx k_X5_copies 0 [.inr (.inl (17, 0)), .inr (.inl (17, 1)), uns] [] σ).bind fun q => Rx k_X5_pushed 27 [.inr (.inl (16, 0)), .inl x1, .inl x2] (q.1.toList ++ []) q.2 := by
  refine (Rx_N (k := 4) (pc' := 24) (ls' := [.inr (.inl (16, 0)), .inl x1, .inl x2]) (st' := [.inr (.inl (17, 1)), .inr (.inl (17, 0))]) (σ' := σ) rfl).trans ?_
  exact Rx_call (n := 3) (y' := k_X5_copies) (as := [.inr (.inl (17, 0)), .inr (.inl (17, 1))]) (rest := []) rfl rfl rfl
theorem b_X5_pushed_27 (x1 : Int) (x2 : Int) (σ : St) : Rx k_X5_pushed 27 [.inr (.inl (16, 0)), .inl x1, .inl x2] [] σ = (Rx k_X5_pushedBy 0 [.inr (.inl (16, 0)), .inl x1, uns] [] σ).bind fun q => Rx k_X5_pushed 32 [.inr (.inl (16, 0)), .inl x1, .inl x2] (q.1.toList ++ []) q.2 := by
  refine (Rx_N (k := 2) (pc' := 29) (ls' := [.inr (.inl (16, 0)), .inl x1, .inl x2]) (st' := [.inl x1, .inr (.inl (16, 0))]) (σ' := σ) rfl).trans ?_
  exact Rx_call (n := 3) (y' := k_X5_pushedBy) (as := [.inr (.inl (16, 0)), .inl x1]) (rest := []) rfl rfl rfl
theorem b_X5_pushed_32 (x1 : Int) (x2 : Int) (s0 : Int) (σ : St) : Rx k_X5_pushed 32 [.inr (.inl (16, 0)), .inl x1, .inl x2] [.inl s0] σ = some (some (.inl s0), σ) := by
  exact Rx_ret rfl rfl
theorem b_X5_worst_0 (x1 : Int) (u2 : AV) (u3 : AV) (u4 : AV) (u5 : AV) (u6 : AV) (σ : St) : Rx k_X5_worst 0 [.inr (.inl (16, 0)), .inl x1, u2, u3, u4, u5, u6] [] σ = (Rx k_X5_isIn 0 [.inl x1, .inl 0, .inl 1] [] σ).bind fun q => Rx k_X5_worst 6 [.inr (.inl (16, 0)), .inl x1, u2, u3, u4, u5, u6] (q.1.toList ++ []) q.2 := by
  refine (Rx_N (k := 3) (pc' := 3) (ls' := [.inr (.inl (16, 0)), .inl x1, u2, u3, u4, u5, u6]) (st' := [.inl 1, .inl 0, .inl x1]) (σ' := σ) rfl).trans ?_
  exact Rx_call (n := 3) (y' := k_X5_isIn) (as := [.inl x1, .inl 0, .inl 1]) (rest := []) rfl rfl rfl
theorem b_X5_worst_6 (x1 : Int) (u2 : AV) (u3 : AV) (u4 : AV) (u5 : AV) (u6 : AV) (s0 : Int) (σ : St) : Rx k_X5_worst 6 [.inr (.inl (16, 0)), .inl x1, u2, u3, u4, u5, u6] [.inl s0] σ = if s0 = 0 then Rx k_X5_worst 9 [.inr (.inl (16, 0)), .inl x1, u2, u3, u4, u5, u6] [] σ else Rx k_X5_worst 16 [.inr (.inl (16, 0)), .inl x1, u2, u3, u4, u5, u6] [] σ := by
  exact Rx_ne0 (k := 1) rfl
theorem b_X5_worst_9 (x1 : Int) (u2 : AV) (u3 : AV) (u4 : AV) (u5 : AV) (u6 : AV) (σ : St) : Rx k_X5_worst 9 [.inr (.inl (16, 0)), .inl x1, u2, u3, u4, u5, u6] [] σ = (Rx k_X5_no 0 [.inr (.inl (16, 0)), .inl (-2)] [] σ).bind fun q => Rx k_X5_worst 15 [.inr (.inl (16, 0)), .inl x1, u2, u3, u4, u5, u6] (q.1.toList ++ []) q.2 := by
  refine (Rx_N (k := 2) (pc' := 12) (ls' := [.inr (.inl (16, 0)), .inl x1, u2, u3, u4, u5, u6]) (st' := [.inl (-2), .inr (.inl (16, 0))]) (σ' := σ) rfl).trans ?_
  exact Rx_call (n := 3) (y' := k_X5_no) (as := [.inr (.inl (16, 0)), .inl (-2)]) (rest := []) rfl rfl rfl
theorem b_X5_worst_15 (x1 : Int) (u2 : AV) (u3 : AV) (u4 : AV) (u5 : AV) (u6 : AV) (s0 : Int) (σ : St) : Rx k_X5_worst 15 [.inr (.inl (16, 0)), .inl x1, u2, u3, u4, u5, u6] [.inl s0] σ = some (some (.inl s0), σ) := by
  exact Rx_ret rfl rfl
theorem b_X5_worst_16 (x1 : Int) (u2 : AV) (u3 : AV) (u4 : AV) (u5 : AV) (u6 : AV) (σ : St) : Rx k_X5_worst 16 [.inr (.inl (16, 0)), .inl x1, u2, u3, u4, u5, u6] [] σ = Rx k_X5_worst 24 [.inr (.inl (16, 0)), .inl x1, .inl (-9), .inl 0, .inl 0, u5, u6] [] σ := by
  refine (Rx_N (k := 6) (pc' := 24) (ls' := [.inr (.inl (16, 0)), .inl x1, .inl (-9), .inl 0, .inl 0, u5, u6]) (st' := []) (σ' := σ) rfl).trans ?_
  rfl
theorem b_X5_worst_24 (x1 : Int) (x2 : Int) (x3 : Int) (x4 : Int) (u5 : AV) (u6 : AV) (σ : St) : Rx k_X5_worst 24 [.inr (.inl (16, 0)), .inl x1, .inl x2, .inl x3, .inl x4, u5, u6] [] σ = if x4 < 20 then Rx k_X5_worst 31 [.inr (.inl (16, 0)), .inl x1, .inl x2, .inl x3, .inl x4, u5, u6] [] σ else Rx k_X5_worst 105 [.inr (.inl (16, 0)), .inl x1, .inl x2, .inl x3, .inl x4, u5, u6] [] σ := by
  exact Rx_ge0 (k := 3) rfl
theorem b_X5_worst_31 (x1 : Int) (x2 : Int) (x3 : Int) (x4 : Int) (u5 : AV) (u6 : AV) (σ : St) : Rx k_X5_worst 31 [.inr (.inl (16, 0)), .inl x1, .inl x2, .inl x3, .inl x4, u5, u6] [] σ = (Rx k_X5_whoAt 0 [.inr (.inl (17, 0)), .inl x4, uns] [] σ).bind fun q => Rx k_X5_worst 40 [.inr (.inl (16, 0)), .inl x1, .inl x2, .inl x3, .inl x4, u5, u6] (q.1.toList ++ []) q.2 := by
  refine (Rx_N (k := 3) (pc' := 37) (ls' := [.inr (.inl (16, 0)), .inl x1, .inl x2, .inl x3, .inl x4, u5, u6]) (st' := [.inl x4, .inr (.inl (17, 0))]) (σ' := σ) rfl).trans ?_
  exact Rx_call (n := 3) (y' := k_X5_whoAt) (as := [.inr (.inl (17, 0)), .inl x4]) (rest := []) rfl rfl rfl
theorem b_X5_worst_40 (x1 : Int) (x2 : Int) (x3 : Int) (x4 : Int) (u5 : AV) (u6 : AV) (s0 : Int) (σ : St) : Rx k_X5_worst 40 [.inr (.inl (16, 0)), .inl x1, .inl x2, .inl x3, .inl x4, u5, u6] [.inl s0] σ = if s0 < 0 then Rx k_X5_worst 99 [.inr (.inl (16, 0)), .inl x1, .inl x2, .inl x3, .inl x4, .inl s0, u6] [] σ else Rx k_X5_worst 47 [.inr (.inl (16, 0)), .inl x1, .inl x2, .inl x3, .inl x4, .inl s0, u6] [] σ := by
  exact Rx_lt0 (k := 3) rfl
theorem b_X5_worst_47 (x1 : Int) (x2 : Int) (x3 : Int) (x4 : Int) (x5 : Int) (u6 : AV) (σ : St) : Rx k_X5_worst 47 [.inr (.inl (16, 0)), .inl x1, .inl x2, .inl x3, .inl x4, .inl x5, u6] [] σ = (Rx k_X5_isUp 0 [.inr (.inl (17, 0)), .inl x5] [] σ).bind fun q => Rx k_X5_worst 56 [.inr (.inl (16, 0)), .inl x1, .inl x2, .inl x3, .inl x4, .inl x5, u6] (q.1.toList ++ []) q.2 := by
  refine (Rx_N (k := 3) (pc' := 53) (ls' := [.inr (.inl (16, 0)), .inl x1, .inl x2, .inl x3, .inl x4, .inl x5, u6]) (st' := [.inl x5, .inr (.inl (17, 0))]) (σ' := σ) rfl).trans ?_
  exact Rx_call (n := 3) (y' := k_X5_isUp) (as := [.inr (.inl (17, 0)), .inl x5]) (rest := []) rfl rfl rfl
theorem b_X5_worst_56 (x1 : Int) (x2 : Int) (x3 : Int) (x4 : Int) (x5 : Int) (u6 : AV) (s0 : Int) (σ : St) : Rx k_X5_worst 56 [.inr (.inl (16, 0)), .inl x1, .inl x2, .inl x3, .inl x4, .inl x5, u6] [.inl s0] σ = if s0 = 0 then Rx k_X5_worst 59 [.inr (.inl (16, 0)), .inl x1, .inl x2, .inl x3, .inl x4, .inl x5, u6] [] σ else Rx k_X5_worst 62 [.inr (.inl (16, 0)), .inl x1, .inl x2, .inl x3, .inl x4, .inl x5, u6] [] σ := by
  exact Rx_ne0 (k := 1) rfl
theorem r_X5_worst_59 (x1 : Int) (x2 : Int) (x3 : Int) (x4 : Int) (x5 : Int) (u6 : AV) (σ : St) : Rx k_X5_worst 59 [.inr (.inl (16, 0)), .inl x1, .inl x2, .inl x3, .inl x4, .inl x5, u6] [] σ = Rx k_X5_worst 24 [.inr (.inl (16, 0)), .inl x1, .inl x2, .inl x3, .inl (wr (x4 + 1)), .inl x5, u6] [] σ := by
  refine (Rx_N (k := 3) (pc' := 24) (ls' := [.inr (.inl (16, 0)), .inl x1, .inl x2, .inl x3, .inl (wr (x4 + 1)), .inl x5, u6]) (st' := []) (σ' := σ) rfl).trans ?_
  rfl
theorem b_X5_worst_59 (x1 : Int) (x2 : Int) (x3 : Int) (x4 : Int) (x5 : Int) (u6 : AV) (σ : St) (g0a : -2147483648 ≤ (x4 + 1)) (g0b : (x4 + 1) < 2147483648) : Rx k_X5_worst 59 [.inr (.inl (16, 0)), .inl x1, .inl x2, .inl x3, .inl x4, .inl x5, u6] [] σ = Rx k_X5_worst 24 [.inr (.inl (16, 0)), .inl x1, .inl x2, .inl x3, .inl (x4 + 1), .inl x5, u6] [] σ := by
  have e0 := wr_id (x := (x4 + 1)) g0a g0b
  have raw := r_X5_worst_59 x1 x2 x3 x4 x5 u6 σ 
  simp only [e0] at raw
  exact raw
theorem b_X5_worst_62 (x1 : Int) (x2 : Int) (x3 : Int) (x4 : Int) (x5 : Int) (u6 : AV) (σ : St) : Rx k_X5_worst 62 [.inr (.inl (16, 0)), .inl x1, .inl x2, .inl x3, .inl x4, .inl x5, u6] [] σ = (Rx k_X5_copies 0 [.inr (.inl (17, 0)), .inr (.inl (17, 1)), uns] [] σ).bind fun q => Rx k_X5_worst 73 [.inr (.inl (16, 0)), .inl x1, .inl x2, .inl x3, .inl x4, .inl x5, u6] (q.1.toList ++ []) q.2 := by
  refine (Rx_N (k := 4) (pc' := 70) (ls' := [.inr (.inl (16, 0)), .inl x1, .inl x2, .inl x3, .inl x4, .inl x5, u6]) (st' := [.inr (.inl (17, 1)), .inr (.inl (17, 0))]) (σ' := σ) rfl).trans ?_
  exact Rx_call (n := 3) (y' := k_X5_copies) (as := [.inr (.inl (17, 0)), .inr (.inl (17, 1))]) (rest := []) rfl rfl rfl
theorem b_X5_worst_73 (x1 : Int) (x2 : Int) (x3 : Int) (x4 : Int) (x5 : Int) (u6 : AV) (σ : St) : Rx k_X5_worst 73 [.inr (.inl (16, 0)), .inl x1, .inl x2, .inl x3, .inl x4, .inl x5, u6] [] σ = (Rx k_X5_fells 0 [.inr (.inl (17, 1)), .inl x5, uns, uns, uns] [] σ).bind fun q => Rx k_X5_worst 82 [.inr (.inl (16, 0)), .inl x1, .inl x2, .inl x3, .inl x4, .inl x5, u6] (q.1.toList ++ []) q.2 := by
  refine (Rx_N (k := 3) (pc' := 79) (ls' := [.inr (.inl (16, 0)), .inl x1, .inl x2, .inl x3, .inl x4, .inl x5, u6]) (st' := [.inl x5, .inr (.inl (17, 1))]) (σ' := σ) rfl).trans ?_
  exact Rx_call (n := 3) (y' := k_X5_fells) (as := [.inr (.inl (17, 1)), .inl x5]) (rest := []) rfl rfl rfl
theorem b_X5_worst_82 (x1 : Int) (x2 : Int) (x3 : Int) (x4 : Int) (x5 : Int) (u6 : AV) (s0 : Int) (σ : St) : Rx k_X5_worst 82 [.inr (.inl (16, 0)), .inl x1, .inl x2, .inl x3, .inl x4, .inl x5, u6] [.inl s0] σ = if x3 < s0 then Rx k_X5_worst 93 [.inr (.inl (16, 0)), .inl x1, .inl x2, .inl x3, .inl x4, .inl x5, .inl s0] [] σ else Rx k_X5_worst 90 [.inr (.inl (16, 0)), .inl x1, .inl x2, .inl x3, .inl x4, .inl x5, .inl s0] [] σ := by
  exact Rx_gt0 (k := 4) rfl
theorem r_X5_worst_90 (x1 : Int) (x2 : Int) (x3 : Int) (x4 : Int) (x5 : Int) (x6 : Int) (σ : St) : Rx k_X5_worst 90 [.inr (.inl (16, 0)), .inl x1, .inl x2, .inl x3, .inl x4, .inl x5, .inl x6] [] σ = Rx k_X5_worst 24 [.inr (.inl (16, 0)), .inl x1, .inl x2, .inl x3, .inl (wr (x4 + 1)), .inl x5, .inl x6] [] σ := by
  refine (Rx_N (k := 3) (pc' := 24) (ls' := [.inr (.inl (16, 0)), .inl x1, .inl x2, .inl x3, .inl (wr (x4 + 1)), .inl x5, .inl x6]) (st' := []) (σ' := σ) rfl).trans ?_
  rfl
theorem b_X5_worst_90 (x1 : Int) (x2 : Int) (x3 : Int) (x4 : Int) (x5 : Int) (x6 : Int) (σ : St) (g0a : -2147483648 ≤ (x4 + 1)) (g0b : (x4 + 1) < 2147483648) : Rx k_X5_worst 90 [.inr (.inl (16, 0)), .inl x1, .inl x2, .inl x3, .inl x4, .inl x5, .inl x6] [] σ = Rx k_X5_worst 24 [.inr (.inl (16, 0)), .inl x1, .inl x2, .inl x3, .inl (x4 + 1), .inl x5, .inl x6] [] σ := by
  have e0 := wr_id (x := (x4 + 1)) g0a g0b
  have raw := r_X5_worst_90 x1 x2 x3 x4 x5 x6 σ 
  simp only [e0] at raw
  exact raw
theorem r_X5_worst_93 (x1 : Int) (x2 : Int) (x3 : Int) (x4 : Int) (x5 : Int) (x6 : Int) (σ : St) : Rx k_X5_worst 93 [.inr (.inl (16, 0)), .inl x1, .inl x2, .inl x3, .inl x4, .inl x5, .inl x6] [] σ = Rx k_X5_worst 24 [.inr (.inl (16, 0)), .inl x1, .inl x5, .inl x6, .inl (wr (x4 + 1)), .inl x5, .inl x6] [] σ := by
  refine (Rx_N (k := 6) (pc' := 24) (ls' := [.inr (.inl (16, 0)), .inl x1, .inl x5, .inl x6, .inl (wr (x4 + 1)), .inl x5, .inl x6]) (st' := []) (σ' := σ) rfl).trans ?_
  rfl
theorem b_X5_worst_93 (x1 : Int) (x2 : Int) (x3 : Int) (x4 : Int) (x5 : Int) (x6 : Int) (σ : St) (g0a : -2147483648 ≤ (x4 + 1)) (g0b : (x4 + 1) < 2147483648) : Rx k_X5_worst 93 [.inr (.inl (16, 0)), .inl x1, .inl x2, .inl x3, .inl x4, .inl x5, .inl x6] [] σ = Rx k_X5_worst 24 [.inr (.inl (16, 0)), .inl x1, .inl x5, .inl x6, .inl (x4 + 1), .inl x5, .inl x6] [] σ := by
  have e0 := wr_id (x := (x4 + 1)) g0a g0b
  have raw := r_X5_worst_93 x1 x2 x3 x4 x5 x6 σ 
  simp only [e0] at raw
  exact raw
theorem r_X5_worst_99 (x1 : Int) (x2 : Int) (x3 : Int) (x4 : Int) (x5 : Int) (u6 : AV) (σ : St) : Rx k_X5_worst 99 [.inr (.inl (16, 0)), .inl x1, .inl x2, .inl x3, .inl x4, .inl x5, u6] [] σ = Rx k_X5_worst 24 [.inr (.inl (16, 0)), .inl x1, .inl x2, .inl x3, .inl (wr (x4 + 1)), .inl x5, u6] [] σ := by
  refine (Rx_N (k := 2) (pc' := 24) (ls' := [.inr (.inl (16, 0)), .inl x1, .inl x2, .inl x3, .inl (wr (x4 + 1)), .inl x5, u6]) (st' := []) (σ' := σ) rfl).trans ?_
  rfl
theorem b_X5_worst_99 (x1 : Int) (x2 : Int) (x3 : Int) (x4 : Int) (x5 : Int) (u6 : AV) (σ : St) (g0a : -2147483648 ≤ (x4 + 1)) (g0b : (x4 + 1) < 2147483648) : Rx k_X5_worst 99 [.inr (.inl (16, 0)), .inl x1, .inl x2, .inl x3, .inl x4, .inl x5, u6] [] σ = Rx k_X5_worst 24 [.inr (.inl (16, 0)), .inl x1, .inl x2, .inl x3, .inl (x4 + 1), .inl x5, u6] [] σ := by
  have e0 := wr_id (x := (x4 + 1)) g0a g0b
  have raw := r_X5_worst_99 x1 x2 x3 x4 x5 u6 σ 
  simp only [e0] at raw
  exact raw
theorem b_X5_worst_105 (x1 : Int) (x2 : Int) (x3 : Int) (x4 : Int) (u5 : AV) (u6 : AV) (σ : St) : Rx k_X5_worst 105 [.inr (.inl (16, 0)), .inl x1, .inl x2, .inl x3, .inl x4, u5, u6] [] σ = if x2 < 0 then Rx k_X5_worst 113 [.inr (.inl (16, 0)), .inl x1, .inl x2, .inl x3, .inl x4, u5, u6] [] σ else Rx k_X5_worst 109 [.inr (.inl (16, 0)), .inl x1, .inl x2, .inl x3, .inl x4, u5, u6] [] σ := by
  exact Rx_lt0 (k := 2) rfl
theorem b_X5_worst_109 (x1 : Int) (x2 : Int) (x3 : Int) (x4 : Int) (u5 : AV) (u6 : AV) (σ : St) : Rx k_X5_worst 109 [.inr (.inl (16, 0)), .inl x1, .inl x2, .inl x3, .inl x4, u5, u6] [] σ = if x1 = 0 then Rx k_X5_worst 113 [.inr (.inl (16, 0)), .inl x1, .inl x2, .inl x3, .inl x4, u5, u6] [] σ else Rx k_X5_worst 117 [.inr (.inl (16, 0)), .inl x1, .inl x2, .inl x3, .inl x4, u5, u6] [] σ := by
  exact Rx_ne0 (k := 2) rfl
theorem b_X5_worst_113 (x1 : Int) (x2 : Int) (x3 : Int) (x4 : Int) (u5 : AV) (u6 : AV) (σ : St) : Rx k_X5_worst 113 [.inr (.inl (16, 0)), .inl x1, .inl x2, .inl x3, .inl x4, u5, u6] [] σ = some (some (.inl x2), σ) := by
  refine (Rx_N (k := 2) (pc' := 118) (ls' := [.inr (.inl (16, 0)), .inl x1, .inl x2, .inl x3, .inl x4, u5, u6]) (st' := [.inl x2]) (σ' := σ) rfl).trans ?_
  exact Rx_ret rfl rfl
theorem b_X5_worst_117 (x1 : Int) (x2 : Int) (x3 : Int) (x4 : Int) (u5 : AV) (u6 : AV) (σ : St) : Rx k_X5_worst 117 [.inr (.inl (16, 0)), .inl x1, .inl x2, .inl x3, .inl x4, u5, u6] [] σ = some (some (.inl x3), σ) := by
  refine (Rx_N (k := 1) (pc' := 118) (ls' := [.inr (.inl (16, 0)), .inl x1, .inl x2, .inl x3, .inl x4, u5, u6]) (st' := [.inl x3]) (σ' := σ) rfl).trans ?_
  exact Rx_ret rfl rfl
theorem b_X5_gap_0 (x1 : Int) (u2 : AV) (u3 : AV) (u4 : AV) (u5 : AV) (u6 : AV) (σ : St) : Rx k_X5_gap 0 [.inr (.inl (16, 0)), .inl x1, u2, u3, u4, u5, u6] [] σ = (Rx k_X5_wrongUp 0 [.inr (.inl (16, 0)), .inl x1] [] σ).bind fun q => Rx k_X5_gap 5 [.inr (.inl (16, 0)), .inl x1, u2, u3, u4, u5, u6] (q.1.toList ++ []) q.2 := by
  refine (Rx_N (k := 2) (pc' := 2) (ls' := [.inr (.inl (16, 0)), .inl x1, u2, u3, u4, u5, u6]) (st' := [.inl x1, .inr (.inl (16, 0))]) (σ' := σ) rfl).trans ?_
  exact Rx_call (n := 3) (y' := k_X5_wrongUp) (as := [.inr (.inl (16, 0)), .inl x1]) (rest := []) rfl rfl rfl
theorem b_X5_gap_5 (x1 : Int) (u2 : AV) (u3 : AV) (u4 : AV) (u5 : AV) (u6 : AV) (s0 : Int) (σ : St) : Rx k_X5_gap 5 [.inr (.inl (16, 0)), .inl x1, u2, u3, u4, u5, u6] [.inl s0] σ = if s0 = 0 then Rx k_X5_gap 16 [.inr (.inl (16, 0)), .inl x1, .inl s0, u3, u4, u5, u6] [] σ else Rx k_X5_gap 10 [.inr (.inl (16, 0)), .inl x1, .inl s0, u3, u4, u5, u6] [] σ := by
  exact Rx_eq0 (k := 3) rfl
theorem b_X5_gap_10 (x1 : Int) (x2 : Int) (u3 : AV) (u4 : AV) (u5 : AV) (u6 : AV) (σ : St) : Rx k_X5_gap 10 [.inr (.inl (16, 0)), .inl x1, .inl x2, u3, u4, u5, u6] [] σ = (Rx k_X5_no 0 [.inr (.inl (16, 0)), .inl x2] [] σ).bind fun q => Rx k_X5_gap 15 [.inr (.inl (16, 0)), .inl x1, .inl x2, u3, u4, u5, u6] (q.1.toList ++ []) q.2 := by
  refine (Rx_N (k := 2) (pc' := 12) (ls' := [.inr (.inl (16, 0)), .inl x1, .inl x2, u3, u4, u5, u6]) (st' := [.inl x2, .inr (.inl (16, 0))]) (σ' := σ) rfl).trans ?_
  exact Rx_call (n := 3) (y' := k_X5_no) (as := [.inr (.inl (16, 0)), .inl x2]) (rest := []) rfl rfl rfl
theorem b_X5_gap_15 (x1 : Int) (x2 : Int) (u3 : AV) (u4 : AV) (u5 : AV) (u6 : AV) (s0 : Int) (σ : St) : Rx k_X5_gap 15 [.inr (.inl (16, 0)), .inl x1, .inl x2, u3, u4, u5, u6] [.inl s0] σ = some (some (.inl s0), σ) := by
  exact Rx_ret rfl rfl
theorem b_X5_gap_16 (x1 : Int) (x2 : Int) (u3 : AV) (u4 : AV) (u5 : AV) (u6 : AV) (σ : St) : Rx k_X5_gap 16 [.inr (.inl (16, 0)), .inl x1, .inl x2, u3, u4, u5, u6] [] σ = (Rx k_X5_copies 0 [.inr (.inl (17, 0)), .inr (.inl (17, 1)), uns] [] σ).bind fun q => Rx k_X5_gap 27 [.inr (.inl (16, 0)), .inl x1, .inl x2, u3, u4, u5, u6] (q.1.toList ++ []) q.2 := by
  refine (Rx_N (k := 4) (pc' := 24) (ls' := [.inr (.inl (16, 0)), .inl x1, .inl x2, u3, u4, u5, u6]) (st' := [.inr (.inl (17, 1)), .inr (.inl (17, 0))]) (σ' := σ) rfl).trans ?_
  exact Rx_call (n := 3) (y' := k_X5_copies) (as := [.inr (.inl (17, 0)), .inr (.inl (17, 1))]) (rest := []) rfl rfl rfl
theorem b_X5_gap_27 (x1 : Int) (x2 : Int) (u3 : AV) (u4 : AV) (u5 : AV) (u6 : AV) (σ : St) : Rx k_X5_gap 27 [.inr (.inl (16, 0)), .inl x1, .inl x2, u3, u4, u5, u6] [] σ = (Rx k_X5_fells 0 [.inr (.inl (17, 1)), .inl x1, uns, uns, uns] [] σ).bind fun q => Rx k_X5_gap 35 [.inr (.inl (16, 0)), .inl x1, .inl x2, u3, u4, u5, u6] (q.1.toList ++ []) q.2 := by
  refine (Rx_N (k := 3) (pc' := 32) (ls' := [.inr (.inl (16, 0)), .inl x1, .inl x2, u3, u4, u5, u6]) (st' := [.inl x1, .inr (.inl (17, 1))]) (σ' := σ) rfl).trans ?_
  exact Rx_call (n := 3) (y' := k_X5_fells) (as := [.inr (.inl (17, 1)), .inl x1]) (rest := []) rfl rfl rfl
theorem r_X5_gap_35 (x1 : Int) (x2 : Int) (u3 : AV) (u4 : AV) (u5 : AV) (u6 : AV) (s0 : Int) (σ : St) : Rx k_X5_gap 35 [.inr (.inl (16, 0)), .inl x1, .inl x2, u3, u4, u5, u6] [.inl s0] σ = Rx k_X5_gap 45 [.inr (.inl (16, 0)), .inl x1, .inl x2, .inl (wr (s0 - 1)), .inl (-9), .inl 0, u6] [] σ := by
  refine (Rx_N (k := 7) (pc' := 45) (ls' := [.inr (.inl (16, 0)), .inl x1, .inl x2, .inl (wr (s0 - 1)), .inl (-9), .inl 0, u6]) (st' := []) (σ' := σ) rfl).trans ?_
  rfl
theorem b_X5_gap_35 (x1 : Int) (x2 : Int) (u3 : AV) (u4 : AV) (u5 : AV) (u6 : AV) (s0 : Int) (σ : St) (g0a : -2147483648 ≤ (s0 - 1)) (g0b : (s0 - 1) < 2147483648) : Rx k_X5_gap 35 [.inr (.inl (16, 0)), .inl x1, .inl x2, u3, u4, u5, u6] [.inl s0] σ = Rx k_X5_gap 45 [.inr (.inl (16, 0)), .inl x1, .inl x2, .inl (s0 - 1), .inl (-9), .inl 0, u6] [] σ := by
  have e0 := wr_id (x := (s0 - 1)) g0a g0b
  have raw := r_X5_gap_35 x1 x2 u3 u4 u5 u6 s0 σ 
  simp only [e0] at raw
  exact raw
theorem b_X5_gap_45 (x1 : Int) (x2 : Int) (x3 : Int) (x4 : Int) (x5 : Int) (u6 : AV) (σ : St) : Rx k_X5_gap 45 [.inr (.inl (16, 0)), .inl x1, .inl x2, .inl x3, .inl x4, .inl x5, u6] [] σ = if x5 < (σ 17 0 1) then Rx k_X5_gap 56 [.inr (.inl (16, 0)), .inl x1, .inl x2, .inl x3, .inl x4, .inl x5, u6] [] σ else Rx k_X5_gap 147 [.inr (.inl (16, 0)), .inl x1, .inl x2, .inl x3, .inl x4, .inl x5, u6] [] σ := by
  exact Rx_ge0 (k := 6) rfl
theorem b_X5_gap_56 (x1 : Int) (x2 : Int) (x3 : Int) (x4 : Int) (x5 : Int) (u6 : AV) (σ : St) : Rx k_X5_gap 56 [.inr (.inl (16, 0)), .inl x1, .inl x2, .inl x3, .inl x4, .inl x5, u6] [] σ = if x5 = x1 then Rx k_X5_gap 141 [.inr (.inl (16, 0)), .inl x1, .inl x2, .inl x3, .inl x4, .inl x5, u6] [] σ else Rx k_X5_gap 62 [.inr (.inl (16, 0)), .inl x1, .inl x2, .inl x3, .inl x4, .inl x5, u6] [] σ := by
  exact Rx_eq0 (k := 3) rfl
theorem b_X5_gap_62 (x1 : Int) (x2 : Int) (x3 : Int) (x4 : Int) (x5 : Int) (u6 : AV) (σ : St) : Rx k_X5_gap 62 [.inr (.inl (16, 0)), .inl x1, .inl x2, .inl x3, .inl x4, .inl x5, u6] [] σ = (Rx k_X5_isUp 0 [.inr (.inl (17, 0)), .inl x5] [] σ).bind fun q => Rx k_X5_gap 71 [.inr (.inl (16, 0)), .inl x1, .inl x2, .inl x3, .inl x4, .inl x5, u6] (q.1.toList ++ []) q.2 := by
  refine (Rx_N (k := 3) (pc' := 68) (ls' := [.inr (.inl (16, 0)), .inl x1, .inl x2, .inl x3, .inl x4, .inl x5, u6]) (st' := [.inl x5, .inr (.inl (17, 0))]) (σ' := σ) rfl).trans ?_
  exact Rx_call (n := 3) (y' := k_X5_isUp) (as := [.inr (.inl (17, 0)), .inl x5]) (rest := []) rfl rfl rfl
theorem b_X5_gap_71 (x1 : Int) (x2 : Int) (x3 : Int) (x4 : Int) (x5 : Int) (u6 : AV) (s0 : Int) (σ : St) : Rx k_X5_gap 71 [.inr (.inl (16, 0)), .inl x1, .inl x2, .inl x3, .inl x4, .inl x5, u6] [.inl s0] σ = if s0 = 0 then Rx k_X5_gap 74 [.inr (.inl (16, 0)), .inl x1, .inl x2, .inl x3, .inl x4, .inl x5, u6] [] σ else Rx k_X5_gap 77 [.inr (.inl (16, 0)), .inl x1, .inl x2, .inl x3, .inl x4, .inl x5, u6] [] σ := by
  exact Rx_ne0 (k := 1) rfl
theorem r_X5_gap_74 (x1 : Int) (x2 : Int) (x3 : Int) (x4 : Int) (x5 : Int) (u6 : AV) (σ : St) : Rx k_X5_gap 74 [.inr (.inl (16, 0)), .inl x1, .inl x2, .inl x3, .inl x4, .inl x5, u6] [] σ = Rx k_X5_gap 45 [.inr (.inl (16, 0)), .inl x1, .inl x2, .inl x3, .inl x4, .inl (wr (x5 + 1)), u6] [] σ := by
  refine (Rx_N (k := 3) (pc' := 45) (ls' := [.inr (.inl (16, 0)), .inl x1, .inl x2, .inl x3, .inl x4, .inl (wr (x5 + 1)), u6]) (st' := []) (σ' := σ) rfl).trans ?_
  rfl
theorem b_X5_gap_74 (x1 : Int) (x2 : Int) (x3 : Int) (x4 : Int) (x5 : Int) (u6 : AV) (σ : St) (g0a : -2147483648 ≤ (x5 + 1)) (g0b : (x5 + 1) < 2147483648) : Rx k_X5_gap 74 [.inr (.inl (16, 0)), .inl x1, .inl x2, .inl x3, .inl x4, .inl x5, u6] [] σ = Rx k_X5_gap 45 [.inr (.inl (16, 0)), .inl x1, .inl x2, .inl x3, .inl x4, .inl (x5 + 1), u6] [] σ := by
  have e0 := wr_id (x := (x5 + 1)) g0a g0b
  have raw := r_X5_gap_74 x1 x2 x3 x4 x5 u6 σ 
  simp only [e0] at raw
  exact raw
theorem b_X5_gap_77 (x1 : Int) (x2 : Int) (x3 : Int) (x4 : Int) (x5 : Int) (u6 : AV) (σ : St) : Rx k_X5_gap 77 [.inr (.inl (16, 0)), .inl x1, .inl x2, .inl x3, .inl x4, .inl x5, u6] [] σ = (Rx k_X5_copies 0 [.inr (.inl (17, 0)), .inr (.inl (17, 1)), uns] [] σ).bind fun q => Rx k_X5_gap 88 [.inr (.inl (16, 0)), .inl x1, .inl x2, .inl x3, .inl x4, .inl x5, u6] (q.1.toList ++ []) q.2 := by
  refine (Rx_N (k := 4) (pc' := 85) (ls' := [.inr (.inl (16, 0)), .inl x1, .inl x2, .inl x3, .inl x4, .inl x5, u6]) (st' := [.inr (.inl (17, 1)), .inr (.inl (17, 0))]) (σ' := σ) rfl).trans ?_
  exact Rx_call (n := 3) (y' := k_X5_copies) (as := [.inr (.inl (17, 0)), .inr (.inl (17, 1))]) (rest := []) rfl rfl rfl
theorem b_X5_gap_88 (x1 : Int) (x2 : Int) (x3 : Int) (x4 : Int) (x5 : Int) (u6 : AV) (σ : St) : Rx k_X5_gap 88 [.inr (.inl (16, 0)), .inl x1, .inl x2, .inl x3, .inl x4, .inl x5, u6] [] σ = (Rx k_X5_ofT 0 [.inl x5] [] σ).bind fun q => Rx k_X5_gap 97 [.inr (.inl (16, 0)), .inl x1, .inl x2, .inl x3, .inl x4, .inl x5, u6] (q.1.toList ++ [.inr (.inl (17, 1))]) q.2 := by
  refine (Rx_N (k := 3) (pc' := 94) (ls' := [.inr (.inl (16, 0)), .inl x1, .inl x2, .inl x3, .inl x4, .inl x5, u6]) (st' := [.inl x5, .inr (.inl (17, 1))]) (σ' := σ) rfl).trans ?_
  exact Rx_call (n := 3) (y' := k_X5_ofT) (as := [.inl x5]) (rest := [.inr (.inl (17, 1))]) rfl rfl rfl
theorem r_X5_gap_97 (x1 : Int) (x2 : Int) (x3 : Int) (x4 : Int) (x5 : Int) (u6 : AV) (s1 : Int) (σ : St) (h0 : 0 ≤ (wr (s1 + 3))) (h1 : (wr (s1 + 3)) < 58) : Rx k_X5_gap 97 [.inr (.inl (16, 0)), .inl x1, .inl x2, .inl x3, .inl x4, .inl x5, u6] [.inl s1, .inr (.inl (17, 1))] σ = (Rx k_X5_ofT 0 [.inl x5] [] (up σ 17 1 ((wr (s1 + 3)).toNat) 0)).bind fun q => Rx k_X5_gap 110 [.inr (.inl (16, 0)), .inl x1, .inl x2, .inl x3, .inl x4, .inl x5, u6] (q.1.toList ++ [.inr (.inl (17, 1))]) q.2 := by
  refine (Rx_N (k := 3) (pc' := 100) (ls' := [.inr (.inl (16, 0)), .inl x1, .inl x2, .inl x3, .inl x4, .inl x5, u6]) (st' := [.inl 0, .inl (wr (s1 + 3)), .inr (.inl (17, 1))]) (σ' := σ) rfl).trans ?_
  refine (Rx_ist 58 rfl rfl h0 h1).trans ?_
  refine (Rx_N (k := 3) (pc' := 107) (ls' := [.inr (.inl (16, 0)), .inl x1, .inl x2, .inl x3, .inl x4, .inl x5, u6]) (st' := [.inl x5, .inr (.inl (17, 1))]) (σ' := (up σ 17 1 ((wr (s1 + 3)).toNat) 0)) rfl).trans ?_
  exact Rx_call (n := 3) (y' := k_X5_ofT) (as := [.inl x5]) (rest := [.inr (.inl (17, 1))]) rfl rfl rfl
theorem b_X5_gap_97 (x1 : Int) (x2 : Int) (x3 : Int) (x4 : Int) (x5 : Int) (u6 : AV) (s1 : Int) (σ : St) (h0 : 0 ≤ (s1 + 3)) (h1 : (s1 + 3) < 58) (g0a : -2147483648 ≤ (s1 + 3)) (g0b : (s1 + 3) < 2147483648) : Rx k_X5_gap 97 [.inr (.inl (16, 0)), .inl x1, .inl x2, .inl x3, .inl x4, .inl x5, u6] [.inl s1, .inr (.inl (17, 1))] σ = (Rx k_X5_ofT 0 [.inl x5] [] (up σ 17 1 (((s1 + 3)).toNat) 0)).bind fun q => Rx k_X5_gap 110 [.inr (.inl (16, 0)), .inl x1, .inl x2, .inl x3, .inl x4, .inl x5, u6] (q.1.toList ++ [.inr (.inl (17, 1))]) q.2 := by
  have e0 := wr_id (x := (s1 + 3)) g0a g0b
  have raw := r_X5_gap_97 x1 x2 x3 x4 x5 u6 s1 σ (by simp only [e0]; exact h0) (by simp only [e0]; exact h1)
  simp only [e0] at raw
  exact raw
theorem r_X5_gap_110 (x1 : Int) (x2 : Int) (x3 : Int) (x4 : Int) (x5 : Int) (u6 : AV) (s1 : Int) (σ : St) (h0 : 0 ≤ (wr (s1 + 1))) (h1 : (wr (s1 + 1)) < 58) : Rx k_X5_gap 110 [.inr (.inl (16, 0)), .inl x1, .inl x2, .inl x3, .inl x4, .inl x5, u6] [.inl s1, .inr (.inl (17, 1))] σ = (Rx k_X5_fells 0 [.inr (.inl (17, 1)), .inl x1, uns, uns, uns] [] (up σ 17 1 ((wr (s1 + 1)).toNat) (-5))).bind fun q => Rx k_X5_gap 123 [.inr (.inl (16, 0)), .inl x1, .inl x2, .inl x3, .inl x4, .inl x5, u6] (q.1.toList ++ []) q.2 := by
  refine (Rx_N (k := 3) (pc' := 114) (ls' := [.inr (.inl (16, 0)), .inl x1, .inl x2, .inl x3, .inl x4, .inl x5, u6]) (st' := [.inl (-5), .inl (wr (s1 + 1)), .inr (.inl (17, 1))]) (σ' := σ) rfl).trans ?_
  refine (Rx_ist 58 rfl rfl h0 h1).trans ?_
  refine (Rx_N (k := 3) (pc' := 120) (ls' := [.inr (.inl (16, 0)), .inl x1, .inl x2, .inl x3, .inl x4, .inl x5, u6]) (st' := [.inl x1, .inr (.inl (17, 1))]) (σ' := (up σ 17 1 ((wr (s1 + 1)).toNat) (-5))) rfl).trans ?_
  exact Rx_call (n := 3) (y' := k_X5_fells) (as := [.inr (.inl (17, 1)), .inl x1]) (rest := []) rfl rfl rfl
theorem b_X5_gap_110 (x1 : Int) (x2 : Int) (x3 : Int) (x4 : Int) (x5 : Int) (u6 : AV) (s1 : Int) (σ : St) (h0 : 0 ≤ (s1 + 1)) (h1 : (s1 + 1) < 58) (g0a : -2147483648 ≤ (s1 + 1)) (g0b : (s1 + 1) < 2147483648) : Rx k_X5_gap 110 [.inr (.inl (16, 0)), .inl x1, .inl x2, .inl x3, .inl x4, .inl x5, u6] [.inl s1, .inr (.inl (17, 1))] σ = (Rx k_X5_fells 0 [.inr (.inl (17, 1)), .inl x1, uns, uns, uns] [] (up σ 17 1 (((s1 + 1)).toNat) (-5))).bind fun q => Rx k_X5_gap 123 [.inr (.inl (16, 0)), .inl x1, .inl x2, .inl x3, .inl x4, .inl x5, u6] (q.1.toList ++ []) q.2 := by
  have e0 := wr_id (x := (s1 + 1)) g0a g0b
  have raw := r_X5_gap_110 x1 x2 x3 x4 x5 u6 s1 σ (by simp only [e0]; exact h0) (by simp only [e0]; exact h1)
  simp only [e0] at raw
  exact raw
theorem b_X5_gap_123 (x1 : Int) (x2 : Int) (x3 : Int) (x4 : Int) (x5 : Int) (u6 : AV) (s0 : Int) (σ : St) : Rx k_X5_gap 123 [.inr (.inl (16, 0)), .inl x1, .inl x2, .inl x3, .inl x4, .inl x5, u6] [.inl s0] σ = if s0 < x3 then Rx k_X5_gap 134 [.inr (.inl (16, 0)), .inl x1, .inl x2, .inl x3, .inl x4, .inl x5, .inl s0] [] σ else Rx k_X5_gap 131 [.inr (.inl (16, 0)), .inl x1, .inl x2, .inl x3, .inl x4, .inl x5, .inl s0] [] σ := by
  exact Rx_lt0 (k := 4) rfl
theorem r_X5_gap_131 (x1 : Int) (x2 : Int) (x3 : Int) (x4 : Int) (x5 : Int) (x6 : Int) (σ : St) : Rx k_X5_gap 131 [.inr (.inl (16, 0)), .inl x1, .inl x2, .inl x3, .inl x4, .inl x5, .inl x6] [] σ = Rx k_X5_gap 45 [.inr (.inl (16, 0)), .inl x1, .inl x2, .inl x3, .inl x4, .inl (wr (x5 + 1)), .inl x6] [] σ := by
  refine (Rx_N (k := 3) (pc' := 45) (ls' := [.inr (.inl (16, 0)), .inl x1, .inl x2, .inl x3, .inl x4, .inl (wr (x5 + 1)), .inl x6]) (st' := []) (σ' := σ) rfl).trans ?_
  rfl
theorem b_X5_gap_131 (x1 : Int) (x2 : Int) (x3 : Int) (x4 : Int) (x5 : Int) (x6 : Int) (σ : St) (g0a : -2147483648 ≤ (x5 + 1)) (g0b : (x5 + 1) < 2147483648) : Rx k_X5_gap 131 [.inr (.inl (16, 0)), .inl x1, .inl x2, .inl x3, .inl x4, .inl x5, .inl x6] [] σ = Rx k_X5_gap 45 [.inr (.inl (16, 0)), .inl x1, .inl x2, .inl x3, .inl x4, .inl (x5 + 1), .inl x6] [] σ := by
  have e0 := wr_id (x := (x5 + 1)) g0a g0b
  have raw := r_X5_gap_131 x1 x2 x3 x4 x5 x6 σ 
  simp only [e0] at raw
  exact raw
theorem r_X5_gap_134 (x1 : Int) (x2 : Int) (x3 : Int) (x4 : Int) (x5 : Int) (x6 : Int) (σ : St) : Rx k_X5_gap 134 [.inr (.inl (16, 0)), .inl x1, .inl x2, .inl x3, .inl x4, .inl x5, .inl x6] [] σ = Rx k_X5_gap 45 [.inr (.inl (16, 0)), .inl x1, .inl x2, .inl x6, .inl x5, .inl (wr (x5 + 1)), .inl x6] [] σ := by
  refine (Rx_N (k := 6) (pc' := 45) (ls' := [.inr (.inl (16, 0)), .inl x1, .inl x2, .inl x6, .inl x5, .inl (wr (x5 + 1)), .inl x6]) (st' := []) (σ' := σ) rfl).trans ?_
  rfl
theorem b_X5_gap_134 (x1 : Int) (x2 : Int) (x3 : Int) (x4 : Int) (x5 : Int) (x6 : Int) (σ : St) (g0a : -2147483648 ≤ (x5 + 1)) (g0b : (x5 + 1) < 2147483648) : Rx k_X5_gap 134 [.inr (.inl (16, 0)), .inl x1, .inl x2, .inl x3, .inl x4, .inl x5, .inl x6] [] σ = Rx k_X5_gap 45 [.inr (.inl (16, 0)), .inl x1, .inl x2, .inl x6, .inl x5, .inl (x5 + 1), .inl x6] [] σ := by
  have e0 := wr_id (x := (x5 + 1)) g0a g0b
  have raw := r_X5_gap_134 x1 x2 x3 x4 x5 x6 σ 
  simp only [e0] at raw
  exact raw
theorem r_X5_gap_141 (x1 : Int) (x2 : Int) (x3 : Int) (x4 : Int) (x5 : Int) (u6 : AV) (σ : St) : Rx k_X5_gap 141 [.inr (.inl (16, 0)), .inl x1, .inl x2, .inl x3, .inl x4, .inl x5, u6] [] σ = Rx k_X5_gap 45 [.inr (.inl (16, 0)), .inl x1, .inl x2, .inl x3, .inl x4, .inl (wr (x5 + 1)), u6] [] σ := by
  refine (Rx_N (k := 2) (pc' := 45) (ls' := [.inr (.inl (16, 0)), .inl x1, .inl x2, .inl x3, .inl x4, .inl (wr (x5 + 1)), u6]) (st' := []) (σ' := σ) rfl).trans ?_
  rfl
theorem b_X5_gap_141 (x1 : Int) (x2 : Int) (x3 : Int) (x4 : Int) (x5 : Int) (u6 : AV) (σ : St) (g0a : -2147483648 ≤ (x5 + 1)) (g0b : (x5 + 1) < 2147483648) : Rx k_X5_gap 141 [.inr (.inl (16, 0)), .inl x1, .inl x2, .inl x3, .inl x4, .inl x5, u6] [] σ = Rx k_X5_gap 45 [.inr (.inl (16, 0)), .inl x1, .inl x2, .inl x3, .inl x4, .inl (x5 + 1), u6] [] σ := by
  have e0 := wr_id (x := (x5 + 1)) g0a g0b
  have raw := r_X5_gap_141 x1 x2 x3 x4 x5 u6 σ 
  simp only [e0] at raw
  exact raw
theorem b_X5_gap_147 (x1 : Int) (x2 : Int) (x3 : Int) (x4 : Int) (x5 : Int) (u6 : AV) (σ : St) : Rx k_X5_gap 147 [.inr (.inl (16, 0)), .inl x1, .inl x2, .inl x3, .inl x4, .inl x5, u6] [] σ = some (some (.inl x4), σ) := by
  refine (Rx_N (k := 1) (pc' := 149) (ls' := [.inr (.inl (16, 0)), .inl x1, .inl x2, .inl x3, .inl x4, .inl x5, u6]) (st' := [.inl x4]) (σ' := σ) rfl).trans ?_
  exact Rx_ret rfl rfl
theorem b_X5_longest_0 (x1 : Int) (u2 : AV) (u3 : AV) (u4 : AV) (u5 : AV) (u6 : AV) (σ : St) : Rx k_X5_longest 0 [.inr (.inl (16, 0)), .inl x1, u2, u3, u4, u5, u6] [] σ = (Rx k_X5_isIn 0 [.inl x1, .inl 0, .inl 1] [] σ).bind fun q => Rx k_X5_longest 6 [.inr (.inl (16, 0)), .inl x1, u2, u3, u4, u5, u6] (q.1.toList ++ []) q.2 := by
  refine (Rx_N (k := 3) (pc' := 3) (ls' := [.inr (.inl (16, 0)), .inl x1, u2, u3, u4, u5, u6]) (st' := [.inl 1, .inl 0, .inl x1]) (σ' := σ) rfl).trans ?_
  exact Rx_call (n := 3) (y' := k_X5_isIn) (as := [.inl x1, .inl 0, .inl 1]) (rest := []) rfl rfl rfl
theorem b_X5_longest_6 (x1 : Int) (u2 : AV) (u3 : AV) (u4 : AV) (u5 : AV) (u6 : AV) (s0 : Int) (σ : St) : Rx k_X5_longest 6 [.inr (.inl (16, 0)), .inl x1, u2, u3, u4, u5, u6] [.inl s0] σ = if s0 = 0 then Rx k_X5_longest 9 [.inr (.inl (16, 0)), .inl x1, u2, u3, u4, u5, u6] [] σ else Rx k_X5_longest 16 [.inr (.inl (16, 0)), .inl x1, u2, u3, u4, u5, u6] [] σ := by
  exact Rx_ne0 (k := 1) rfl
theorem b_X5_longest_9 (x1 : Int) (u2 : AV) (u3 : AV) (u4 : AV) (u5 : AV) (u6 : AV) (σ : St) : Rx k_X5_longest 9 [.inr (.inl (16, 0)), .inl x1, u2, u3, u4, u5, u6] [] σ = (Rx k_X5_no 0 [.inr (.inl (16, 0)), .inl (-2)] [] σ).bind fun q => Rx k_X5_longest 15 [.inr (.inl (16, 0)), .inl x1, u2, u3, u4, u5, u6] (q.1.toList ++ []) q.2 := by
  refine (Rx_N (k := 2) (pc' := 12) (ls' := [.inr (.inl (16, 0)), .inl x1, u2, u3, u4, u5, u6]) (st' := [.inl (-2), .inr (.inl (16, 0))]) (σ' := σ) rfl).trans ?_
  exact Rx_call (n := 3) (y' := k_X5_no) (as := [.inr (.inl (16, 0)), .inl (-2)]) (rest := []) rfl rfl rfl
theorem b_X5_longest_15 (x1 : Int) (u2 : AV) (u3 : AV) (u4 : AV) (u5 : AV) (u6 : AV) (s0 : Int) (σ : St) : Rx k_X5_longest 15 [.inr (.inl (16, 0)), .inl x1, u2, u3, u4, u5, u6] [.inl s0] σ = some (some (.inl s0), σ) := by
  exact Rx_ret rfl rfl
theorem b_X5_longest_16 (x1 : Int) (u2 : AV) (u3 : AV) (u4 : AV) (u5 : AV) (u6 : AV) (σ : St) : Rx k_X5_longest 16 [.inr (.inl (16, 0)), .inl x1, u2, u3, u4, u5, u6] [] σ = Rx k_X5_longest 27 [.inr (.inl (16, 0)), .inl x1, .inl (-9), .inl 0, .inl 0, .inl 0, u6] [] σ := by
  refine (Rx_N (k := 8) (pc' := 27) (ls' := [.inr (.inl (16, 0)), .inl x1, .inl (-9), .inl 0, .inl 0, .inl 0, u6]) (st' := []) (σ' := σ) rfl).trans ?_
  rfl
theorem b_X5_longest_27 (x1 : Int) (x2 : Int) (x3 : Int) (x4 : Int) (x5 : Int) (u6 : AV) (σ : St) : Rx k_X5_longest 27 [.inr (.inl (16, 0)), .inl x1, .inl x2, .inl x3, .inl x4, .inl x5, u6] [] σ = if x5 < 20 then Rx k_X5_longest 34 [.inr (.inl (16, 0)), .inl x1, .inl x2, .inl x3, .inl x4, .inl x5, u6] [] σ else Rx k_X5_longest 98 [.inr (.inl (16, 0)), .inl x1, .inl x2, .inl x3, .inl x4, .inl x5, u6] [] σ := by
  exact Rx_ge0 (k := 3) rfl
theorem b_X5_longest_34 (x1 : Int) (x2 : Int) (x3 : Int) (x4 : Int) (x5 : Int) (u6 : AV) (σ : St) : Rx k_X5_longest 34 [.inr (.inl (16, 0)), .inl x1, .inl x2, .inl x3, .inl x4, .inl x5, u6] [] σ = (Rx k_X5_whoAt 0 [.inr (.inl (17, 0)), .inl x5, uns] [] σ).bind fun q => Rx k_X5_longest 43 [.inr (.inl (16, 0)), .inl x1, .inl x2, .inl x3, .inl x4, .inl x5, u6] (q.1.toList ++ []) q.2 := by
  refine (Rx_N (k := 3) (pc' := 40) (ls' := [.inr (.inl (16, 0)), .inl x1, .inl x2, .inl x3, .inl x4, .inl x5, u6]) (st' := [.inl x5, .inr (.inl (17, 0))]) (σ' := σ) rfl).trans ?_
  exact Rx_call (n := 3) (y' := k_X5_whoAt) (as := [.inr (.inl (17, 0)), .inl x5]) (rest := []) rfl rfl rfl
theorem b_X5_longest_43 (x1 : Int) (x2 : Int) (x3 : Int) (x4 : Int) (x5 : Int) (u6 : AV) (s0 : Int) (σ : St) : Rx k_X5_longest 43 [.inr (.inl (16, 0)), .inl x1, .inl x2, .inl x3, .inl x4, .inl x5, u6] [.inl s0] σ = if s0 < 0 then Rx k_X5_longest 69 [.inr (.inl (16, 0)), .inl x1, .inl x2, .inl x3, .inl x4, .inl x5, .inl s0] [] σ else Rx k_X5_longest 50 [.inr (.inl (16, 0)), .inl x1, .inl x2, .inl x3, .inl x4, .inl x5, .inl s0] [] σ := by
  exact Rx_lt0 (k := 3) rfl
theorem b_X5_longest_50 (x1 : Int) (x2 : Int) (x3 : Int) (x4 : Int) (x5 : Int) (x6 : Int) (σ : St) : Rx k_X5_longest 50 [.inr (.inl (16, 0)), .inl x1, .inl x2, .inl x3, .inl x4, .inl x5, .inl x6] [] σ = (Rx k_X5_isUp 0 [.inr (.inl (17, 0)), .inl x6] [] σ).bind fun q => Rx k_X5_longest 59 [.inr (.inl (16, 0)), .inl x1, .inl x2, .inl x3, .inl x4, .inl x5, .inl x6] (q.1.toList ++ []) q.2 := by
  refine (Rx_N (k := 3) (pc' := 56) (ls' := [.inr (.inl (16, 0)), .inl x1, .inl x2, .inl x3, .inl x4, .inl x5, .inl x6]) (st' := [.inl x6, .inr (.inl (17, 0))]) (σ' := σ) rfl).trans ?_
  exact Rx_call (n := 3) (y' := k_X5_isUp) (as := [.inr (.inl (17, 0)), .inl x6]) (rest := []) rfl rfl rfl
theorem b_X5_longest_59 (x1 : Int) (x2 : Int) (x3 : Int) (x4 : Int) (x5 : Int) (x6 : Int) (s0 : Int) (σ : St) : Rx k_X5_longest 59 [.inr (.inl (16, 0)), .inl x1, .inl x2, .inl x3, .inl x4, .inl x5, .inl x6] [.inl s0] σ = if s0 = 0 then Rx k_X5_longest 69 [.inr (.inl (16, 0)), .inl x1, .inl x2, .inl x3, .inl x4, .inl x5, .inl x6] [] σ else Rx k_X5_longest 62 [.inr (.inl (16, 0)), .inl x1, .inl x2, .inl x3, .inl x4, .inl x5, .inl x6] [] σ := by
  exact Rx_eq0 (k := 1) rfl
theorem r_X5_longest_62 (x1 : Int) (x2 : Int) (x3 : Int) (x4 : Int) (x5 : Int) (x6 : Int) (σ : St) : Rx k_X5_longest 62 [.inr (.inl (16, 0)), .inl x1, .inl x2, .inl x3, .inl x4, .inl x5, .inl x6] [] σ = if x3 < (wr (x4 + 1)) then Rx k_X5_longest 81 [.inr (.inl (16, 0)), .inl x1, .inl x2, .inl x3, .inl (wr (x4 + 1)), .inl x5, .inl x6] [] σ else Rx k_X5_longest 78 [.inr (.inl (16, 0)), .inl x1, .inl x2, .inl x3, .inl (wr (x4 + 1)), .inl x5, .inl x6] [] σ := by
  exact Rx_gt0 (k := 8) rfl
theorem b_X5_longest_62 (x1 : Int) (x2 : Int) (x3 : Int) (x4 : Int) (x5 : Int) (x6 : Int) (σ : St) (g0a : -2147483648 ≤ (x4 + 1)) (g0b : (x4 + 1) < 2147483648) : Rx k_X5_longest 62 [.inr (.inl (16, 0)), .inl x1, .inl x2, .inl x3, .inl x4, .inl x5, .inl x6] [] σ = if x3 < (x4 + 1) then Rx k_X5_longest 81 [.inr (.inl (16, 0)), .inl x1, .inl x2, .inl x3, .inl (x4 + 1), .inl x5, .inl x6] [] σ else Rx k_X5_longest 78 [.inr (.inl (16, 0)), .inl x1, .inl x2, .inl x3, .inl (x4 + 1), .inl x5, .inl x6] [] σ := by
  have e0 := wr_id (x := (x4 + 1)) g0a g0b
  have raw := r_X5_longest_62 x1 x2 x3 x4 x5 x6 σ 
  simp only [e0] at raw
  exact raw
theorem b_X5_longest_69 (x1 : Int) (x2 : Int) (x3 : Int) (x4 : Int) (x5 : Int) (x6 : Int) (σ : St) : Rx k_X5_longest 69 [.inr (.inl (16, 0)), .inl x1, .inl x2, .inl x3, .inl x4, .inl x5, .inl x6] [] σ = if x3 < 0 then Rx k_X5_longest 81 [.inr (.inl (16, 0)), .inl x1, .inl x2, .inl x3, .inl 0, .inl x5, .inl x6] [] σ else Rx k_X5_longest 78 [.inr (.inl (16, 0)), .inl x1, .inl x2, .inl x3, .inl 0, .inl x5, .inl x6] [] σ := by
  exact Rx_gt0 (k := 5) rfl
theorem r_X5_longest_78 (x1 : Int) (x2 : Int) (x3 : Int) (x4 : Int) (x5 : Int) (x6 : Int) (σ : St) : Rx k_X5_longest 78 [.inr (.inl (16, 0)), .inl x1, .inl x2, .inl x3, .inl x4, .inl x5, .inl x6] [] σ = Rx k_X5_longest 27 [.inr (.inl (16, 0)), .inl x1, .inl x2, .inl x3, .inl x4, .inl (wr (x5 + 1)), .inl x6] [] σ := by
  refine (Rx_N (k := 3) (pc' := 27) (ls' := [.inr (.inl (16, 0)), .inl x1, .inl x2, .inl x3, .inl x4, .inl (wr (x5 + 1)), .inl x6]) (st' := []) (σ' := σ) rfl).trans ?_
  rfl
theorem b_X5_longest_78 (x1 : Int) (x2 : Int) (x3 : Int) (x4 : Int) (x5 : Int) (x6 : Int) (σ : St) (g0a : -2147483648 ≤ (x5 + 1)) (g0b : (x5 + 1) < 2147483648) : Rx k_X5_longest 78 [.inr (.inl (16, 0)), .inl x1, .inl x2, .inl x3, .inl x4, .inl x5, .inl x6] [] σ = Rx k_X5_longest 27 [.inr (.inl (16, 0)), .inl x1, .inl x2, .inl x3, .inl x4, .inl (x5 + 1), .inl x6] [] σ := by
  have e0 := wr_id (x := (x5 + 1)) g0a g0b
  have raw := r_X5_longest_78 x1 x2 x3 x4 x5 x6 σ 
  simp only [e0] at raw
  exact raw
theorem r_X5_longest_81 (x1 : Int) (x2 : Int) (x3 : Int) (x4 : Int) (x5 : Int) (x6 : Int) (σ : St) : Rx k_X5_longest 81 [.inr (.inl (16, 0)), .inl x1, .inl x2, .inl x3, .inl x4, .inl x5, .inl x6] [] σ = Rx k_X5_longest 27 [.inr (.inl (16, 0)), .inl x1, .inl (wr ((wr (x5 - x4)) + 1)), .inl x4, .inl x4, .inl (wr (x5 + 1)), .inl x6] [] σ := by
  refine (Rx_N (k := 10) (pc' := 27) (ls' := [.inr (.inl (16, 0)), .inl x1, .inl (wr ((wr (x5 - x4)) + 1)), .inl x4, .inl x4, .inl (wr (x5 + 1)), .inl x6]) (st' := []) (σ' := σ) rfl).trans ?_
  rfl
theorem b_X5_longest_81 (x1 : Int) (x2 : Int) (x3 : Int) (x4 : Int) (x5 : Int) (x6 : Int) (σ : St) (g0a : -2147483648 ≤ (x5 + 1)) (g0b : (x5 + 1) < 2147483648) (g1a : -2147483648 ≤ (x5 - x4)) (g1b : (x5 - x4) < 2147483648) (g2a : -2147483648 ≤ (((x5 - x4)) + 1)) (g2b : (((x5 - x4)) + 1) < 2147483648) : Rx k_X5_longest 81 [.inr (.inl (16, 0)), .inl x1, .inl x2, .inl x3, .inl x4, .inl x5, .inl x6] [] σ = Rx k_X5_longest 27 [.inr (.inl (16, 0)), .inl x1, .inl (((x5 - x4)) + 1), .inl x4, .inl x4, .inl (x5 + 1), .inl x6] [] σ := by
  have e0 := wr_id (x := (x5 + 1)) g0a g0b
  have e1 := wr_id (x := (x5 - x4)) g1a g1b
  have e2 := wr_id (x := (((x5 - x4)) + 1)) g2a g2b
  have raw := r_X5_longest_81 x1 x2 x3 x4 x5 x6 σ 
  simp only [e0, e1, e2] at raw
  exact raw
theorem b_X5_longest_98 (x1 : Int) (x2 : Int) (x3 : Int) (x4 : Int) (x5 : Int) (u6 : AV) (σ : St) : Rx k_X5_longest 98 [.inr (.inl (16, 0)), .inl x1, .inl x2, .inl x3, .inl x4, .inl x5, u6] [] σ = if x1 = 0 then Rx k_X5_longest 102 [.inr (.inl (16, 0)), .inl x1, .inl x2, .inl x3, .inl x4, .inl x5, u6] [] σ else Rx k_X5_longest 106 [.inr (.inl (16, 0)), .inl x1, .inl x2, .inl x3, .inl x4, .inl x5, u6] [] σ := by
  exact Rx_ne0 (k := 2) rfl
theorem b_X5_longest_102 (x1 : Int) (x2 : Int) (x3 : Int) (x4 : Int) (x5 : Int) (u6 : AV) (σ : St) : Rx k_X5_longest 102 [.inr (.inl (16, 0)), .inl x1, .inl x2, .inl x3, .inl x4, .inl x5, u6] [] σ = some (some (.inl x3), σ) := by
  refine (Rx_N (k := 2) (pc' := 107) (ls' := [.inr (.inl (16, 0)), .inl x1, .inl x2, .inl x3, .inl x4, .inl x5, u6]) (st' := [.inl x3]) (σ' := σ) rfl).trans ?_
  exact Rx_ret rfl rfl
theorem b_X5_longest_106 (x1 : Int) (x2 : Int) (x3 : Int) (x4 : Int) (x5 : Int) (u6 : AV) (σ : St) : Rx k_X5_longest 106 [.inr (.inl (16, 0)), .inl x1, .inl x2, .inl x3, .inl x4, .inl x5, u6] [] σ = some (some (.inl x2), σ) := by
  refine (Rx_N (k := 1) (pc' := 107) (ls' := [.inr (.inl (16, 0)), .inl x1, .inl x2, .inl x3, .inl x4, .inl x5, u6]) (st' := [.inl x2]) (σ' := σ) rfl).trans ?_
  exact Rx_ret rfl rfl
theorem b_X5_orNever_0 (x0 : Int) (σ : St) : Rx k_X5_orNever 0 [.inl x0] [] σ = if x0 < 0 then Rx k_X5_orNever 4 [.inl x0] [] σ else Rx k_X5_orNever 9 [.inl x0] [] σ := by
  exact Rx_ge0 (k := 2) rfl
theorem b_X5_orNever_4 (x0 : Int) (σ : St) : Rx k_X5_orNever 4 [.inl x0] [] σ = some (some (.inl 100), σ) := by
  refine (Rx_N (k := 2) (pc' := 10) (ls' := [.inl x0]) (st' := [.inl 100]) (σ' := σ) rfl).trans ?_
  exact Rx_ret rfl rfl
theorem b_X5_orNever_9 (x0 : Int) (σ : St) : Rx k_X5_orNever 9 [.inl x0] [] σ = some (some (.inl x0), σ) := by
  refine (Rx_N (k := 1) (pc' := 10) (ls' := [.inl x0]) (st' := [.inl x0]) (σ' := σ) rfl).trans ?_
  exact Rx_ret rfl rfl
theorem b_X5_lean_0 (x1 : Int) (u2 : AV) (u3 : AV) (u4 : AV) (u5 : AV) (u6 : AV) (σ : St) : Rx k_X5_lean 0 [.inr (.inl (16, 0)), .inl x1, u2, u3, u4, u5, u6] [] σ = (Rx k_X5_wrongUp 0 [.inr (.inl (16, 0)), .inl x1] [] σ).bind fun q => Rx k_X5_lean 5 [.inr (.inl (16, 0)), .inl x1, u2, u3, u4, u5, u6] (q.1.toList ++ []) q.2 := by
  refine (Rx_N (k := 2) (pc' := 2) (ls' := [.inr (.inl (16, 0)), .inl x1, u2, u3, u4, u5, u6]) (st' := [.inl x1, .inr (.inl (16, 0))]) (σ' := σ) rfl).trans ?_
  exact Rx_call (n := 3) (y' := k_X5_wrongUp) (as := [.inr (.inl (16, 0)), .inl x1]) (rest := []) rfl rfl rfl
theorem b_X5_lean_5 (x1 : Int) (u2 : AV) (u3 : AV) (u4 : AV) (u5 : AV) (u6 : AV) (s0 : Int) (σ : St) : Rx k_X5_lean 5 [.inr (.inl (16, 0)), .inl x1, u2, u3, u4, u5, u6] [.inl s0] σ = if s0 = 0 then Rx k_X5_lean 16 [.inr (.inl (16, 0)), .inl x1, .inl s0, u3, u4, u5, u6] [] σ else Rx k_X5_lean 10 [.inr (.inl (16, 0)), .inl x1, .inl s0, u3, u4, u5, u6] [] σ := by
  exact Rx_eq0 (k := 3) rfl
theorem b_X5_lean_10 (x1 : Int) (x2 : Int) (u3 : AV) (u4 : AV) (u5 : AV) (u6 : AV) (σ : St) : Rx k_X5_lean 10 [.inr (.inl (16, 0)), .inl x1, .inl x2, u3, u4, u5, u6] [] σ = (Rx k_X5_no 0 [.inr (.inl (16, 0)), .inl x2] [] σ).bind fun q => Rx k_X5_lean 15 [.inr (.inl (16, 0)), .inl x1, .inl x2, u3, u4, u5, u6] (q.1.toList ++ []) q.2 := by
  refine (Rx_N (k := 2) (pc' := 12) (ls' := [.inr (.inl (16, 0)), .inl x1, .inl x2, u3, u4, u5, u6]) (st' := [.inl x2, .inr (.inl (16, 0))]) (σ' := σ) rfl).trans ?_
  exact Rx_call (n := 3) (y' := k_X5_no) (as := [.inr (.inl (16, 0)), .inl x2]) (rest := []) rfl rfl rfl
theorem b_X5_lean_15 (x1 : Int) (x2 : Int) (u3 : AV) (u4 : AV) (u5 : AV) (u6 : AV) (s0 : Int) (σ : St) : Rx k_X5_lean 15 [.inr (.inl (16, 0)), .inl x1, .inl x2, u3, u4, u5, u6] [.inl s0] σ = some (some (.inl s0), σ) := by
  exact Rx_ret rfl rfl
theorem b_X5_lean_16 (x1 : Int) (x2 : Int) (u3 : AV) (u4 : AV) (u5 : AV) (u6 : AV) (σ : St) : Rx k_X5_lean 16 [.inr (.inl (16, 0)), .inl x1, .inl x2, u3, u4, u5, u6] [] σ = Rx k_X5_lean 25 [.inr (.inl (16, 0)), .inl x1, .inl x2, .inl (-9), .inl (-1), .inl 0, u6] [] σ := by
  refine (Rx_N (k := 6) (pc' := 25) (ls' := [.inr (.inl (16, 0)), .inl x1, .inl x2, .inl (-9), .inl (-1), .inl 0, u6]) (st' := []) (σ' := σ) rfl).trans ?_
  rfl
theorem b_X5_lean_25 (x1 : Int) (x2 : Int) (x3 : Int) (x4 : Int) (x5 : Int) (u6 : AV) (σ : St) : Rx k_X5_lean 25 [.inr (.inl (16, 0)), .inl x1, .inl x2, .inl x3, .inl x4, .inl x5, u6] [] σ = if x5 < (σ 17 0 0) then Rx k_X5_lean 36 [.inr (.inl (16, 0)), .inl x1, .inl x2, .inl x3, .inl x4, .inl x5, u6] [] σ else Rx k_X5_lean 96 [.inr (.inl (16, 0)), .inl x1, .inl x2, .inl x3, .inl x4, .inl x5, u6] [] σ := by
  exact Rx_ge0 (k := 6) rfl
theorem b_X5_lean_36 (x1 : Int) (x2 : Int) (x3 : Int) (x4 : Int) (x5 : Int) (u6 : AV) (σ : St) : Rx k_X5_lean 36 [.inr (.inl (16, 0)), .inl x1, .inl x2, .inl x3, .inl x4, .inl x5, u6] [] σ = (Rx k_X5_copies 0 [.inr (.inl (17, 0)), .inr (.inl (17, 1)), uns] [] σ).bind fun q => Rx k_X5_lean 47 [.inr (.inl (16, 0)), .inl x1, .inl x2, .inl x3, .inl x4, .inl x5, u6] (q.1.toList ++ []) q.2 := by
  refine (Rx_N (k := 4) (pc' := 44) (ls' := [.inr (.inl (16, 0)), .inl x1, .inl x2, .inl x3, .inl x4, .inl x5, u6]) (st' := [.inr (.inl (17, 1)), .inr (.inl (17, 0))]) (σ' := σ) rfl).trans ?_
  exact Rx_call (n := 3) (y' := k_X5_copies) (as := [.inr (.inl (17, 0)), .inr (.inl (17, 1))]) (rest := []) rfl rfl rfl
theorem b_X5_lean_47 (x1 : Int) (x2 : Int) (x3 : Int) (x4 : Int) (x5 : Int) (u6 : AV) (σ : St) : Rx k_X5_lean 47 [.inr (.inl (16, 0)), .inl x1, .inl x2, .inl x3, .inl x4, .inl x5, u6] [] σ = (Rx k_X5_ofT 0 [.inl x1] [] σ).bind fun q => Rx k_X5_lean 55 [.inr (.inl (16, 0)), .inl x1, .inl x2, .inl x3, .inl x4, .inl x5, u6] (q.1.toList ++ [.inr (.inl (17, 1))]) q.2 := by
  refine (Rx_N (k := 3) (pc' := 52) (ls' := [.inr (.inl (16, 0)), .inl x1, .inl x2, .inl x3, .inl x4, .inl x5, u6]) (st' := [.inl x1, .inr (.inl (17, 1))]) (σ' := σ) rfl).trans ?_
  exact Rx_call (n := 3) (y' := k_X5_ofT) (as := [.inl x1]) (rest := [.inr (.inl (17, 1))]) rfl rfl rfl
theorem r_X5_lean_55 (x1 : Int) (x2 : Int) (x3 : Int) (x4 : Int) (x5 : Int) (u6 : AV) (s1 : Int) (σ : St) (h0 : 0 ≤ (wr (s1 + 2))) (h1 : (wr (s1 + 2)) < 58) : Rx k_X5_lean 55 [.inr (.inl (16, 0)), .inl x1, .inl x2, .inl x3, .inl x4, .inl x5, u6] [.inl s1, .inr (.inl (17, 1))] σ = (Rx k_X5_downIn 0 [.inr (.inl (16, 0)), .inl (bShl 1 x1), .inl 1, uns, uns] [] (up σ 17 1 ((wr (s1 + 2)).toNat) x5)).bind fun q => Rx k_X5_lean 68 [.inr (.inl (16, 0)), .inl x1, .inl x2, .inl x3, .inl x4, .inl x5, u6] (q.1.toList ++ []) q.2 := by
  refine (Rx_N (k := 3) (pc' := 59) (ls' := [.inr (.inl (16, 0)), .inl x1, .inl x2, .inl x3, .inl x4, .inl x5, u6]) (st' := [.inl x5, .inl (wr (s1 + 2)), .inr (.inl (17, 1))]) (σ' := σ) rfl).trans ?_
  refine (Rx_ist 58 rfl rfl h0 h1).trans ?_
  refine (Rx_N (k := 5) (pc' := 65) (ls' := [.inr (.inl (16, 0)), .inl x1, .inl x2, .inl x3, .inl x4, .inl x5, u6]) (st' := [.inl 1, .inl (bShl 1 x1), .inr (.inl (16, 0))]) (σ' := (up σ 17 1 ((wr (s1 + 2)).toNat) x5)) rfl).trans ?_
  exact Rx_call (n := 3) (y' := k_X5_downIn) (as := [.inr (.inl (16, 0)), .inl (bShl 1 x1), .inl 1]) (rest := []) rfl rfl rfl
theorem b_X5_lean_55 (x1 : Int) (x2 : Int) (x3 : Int) (x4 : Int) (x5 : Int) (u6 : AV) (s1 : Int) (σ : St) (h0 : 0 ≤ (s1 + 2)) (h1 : (s1 + 2) < 58) (g0a : -2147483648 ≤ (s1 + 2)) (g0b : (s1 + 2) < 2147483648) : Rx k_X5_lean 55 [.inr (.inl (16, 0)), .inl x1, .inl x2, .inl x3, .inl x4, .inl x5, u6] [.inl s1, .inr (.inl (17, 1))] σ = (Rx k_X5_downIn 0 [.inr (.inl (16, 0)), .inl (bShl 1 x1), .inl 1, uns, uns] [] (up σ 17 1 (((s1 + 2)).toNat) x5)).bind fun q => Rx k_X5_lean 68 [.inr (.inl (16, 0)), .inl x1, .inl x2, .inl x3, .inl x4, .inl x5, u6] (q.1.toList ++ []) q.2 := by
  have e0 := wr_id (x := (s1 + 2)) g0a g0b
  have raw := r_X5_lean_55 x1 x2 x3 x4 x5 u6 s1 σ (by simp only [e0]; exact h0) (by simp only [e0]; exact h1)
  simp only [e0] at raw
  exact raw
theorem b_X5_lean_68 (x1 : Int) (x2 : Int) (x3 : Int) (x4 : Int) (x5 : Int) (u6 : AV) (s0 : Int) (σ : St) : Rx k_X5_lean 68 [.inr (.inl (16, 0)), .inl x1, .inl x2, .inl x3, .inl x4, .inl x5, u6] [.inl s0] σ = (Rx k_X5_orNever 0 [.inl s0] [] σ).bind fun q => Rx k_X5_lean 71 [.inr (.inl (16, 0)), .inl x1, .inl x2, .inl x3, .inl x4, .inl x5, u6] (q.1.toList ++ []) q.2 := by
  exact Rx_call (n := 3) (y' := k_X5_orNever) (as := [.inl s0]) (rest := []) rfl rfl rfl
theorem b_X5_lean_71 (x1 : Int) (x2 : Int) (x3 : Int) (x4 : Int) (x5 : Int) (u6 : AV) (s0 : Int) (σ : St) : Rx k_X5_lean 71 [.inr (.inl (16, 0)), .inl x1, .inl x2, .inl x3, .inl x4, .inl x5, u6] [.inl s0] σ = if x4 < s0 then Rx k_X5_lean 83 [.inr (.inl (16, 0)), .inl x1, .inl x2, .inl x3, .inl x4, .inl x5, .inl s0] [] σ else Rx k_X5_lean 80 [.inr (.inl (16, 0)), .inl x1, .inl x2, .inl x3, .inl x4, .inl x5, .inl s0] [] σ := by
  exact Rx_gt0 (k := 4) rfl
theorem r_X5_lean_80 (x1 : Int) (x2 : Int) (x3 : Int) (x4 : Int) (x5 : Int) (x6 : Int) (σ : St) : Rx k_X5_lean 80 [.inr (.inl (16, 0)), .inl x1, .inl x2, .inl x3, .inl x4, .inl x5, .inl x6] [] σ = Rx k_X5_lean 25 [.inr (.inl (16, 0)), .inl x1, .inl x2, .inl x3, .inl x4, .inl (wr (x5 + 1)), .inl x6] [] σ := by
  refine (Rx_N (k := 3) (pc' := 25) (ls' := [.inr (.inl (16, 0)), .inl x1, .inl x2, .inl x3, .inl x4, .inl (wr (x5 + 1)), .inl x6]) (st' := []) (σ' := σ) rfl).trans ?_
  rfl
theorem b_X5_lean_80 (x1 : Int) (x2 : Int) (x3 : Int) (x4 : Int) (x5 : Int) (x6 : Int) (σ : St) (g0a : -2147483648 ≤ (x5 + 1)) (g0b : (x5 + 1) < 2147483648) : Rx k_X5_lean 80 [.inr (.inl (16, 0)), .inl x1, .inl x2, .inl x3, .inl x4, .inl x5, .inl x6] [] σ = Rx k_X5_lean 25 [.inr (.inl (16, 0)), .inl x1, .inl x2, .inl x3, .inl x4, .inl (x5 + 1), .inl x6] [] σ := by
  have e0 := wr_id (x := (x5 + 1)) g0a g0b
  have raw := r_X5_lean_80 x1 x2 x3 x4 x5 x6 σ 
  simp only [e0] at raw
  exact raw
theorem r_X5_lean_83 (x1 : Int) (x2 : Int) (x3 : Int) (x4 : Int) (x5 : Int) (x6 : Int) (σ : St) : Rx k_X5_lean 83 [.inr (.inl (16, 0)), .inl x1, .inl x2, .inl x3, .inl x4, .inl x5, .inl x6] [] σ = Rx k_X5_lean 25 [.inr (.inl (16, 0)), .inl x1, .inl x2, .inl x5, .inl x6, .inl (wr (x5 + 1)), .inl x6] [] σ := by
  refine (Rx_N (k := 6) (pc' := 25) (ls' := [.inr (.inl (16, 0)), .inl x1, .inl x2, .inl x5, .inl x6, .inl (wr (x5 + 1)), .inl x6]) (st' := []) (σ' := σ) rfl).trans ?_
  rfl
theorem b_X5_lean_83 (x1 : Int) (x2 : Int) (x3 : Int) (x4 : Int) (x5 : Int) (x6 : Int) (σ : St) (g0a : -2147483648 ≤ (x5 + 1)) (g0b : (x5 + 1) < 2147483648) : Rx k_X5_lean 83 [.inr (.inl (16, 0)), .inl x1, .inl x2, .inl x3, .inl x4, .inl x5, .inl x6] [] σ = Rx k_X5_lean 25 [.inr (.inl (16, 0)), .inl x1, .inl x2, .inl x5, .inl x6, .inl (x5 + 1), .inl x6] [] σ := by
  have e0 := wr_id (x := (x5 + 1)) g0a g0b
  have raw := r_X5_lean_83 x1 x2 x3 x4 x5 x6 σ 
  simp only [e0] at raw
  exact raw
theorem b_X5_lean_96 (x1 : Int) (x2 : Int) (x3 : Int) (x4 : Int) (x5 : Int) (u6 : AV) (σ : St) : Rx k_X5_lean 96 [.inr (.inl (16, 0)), .inl x1, .inl x2, .inl x3, .inl x4, .inl x5, u6] [] σ = some (some (.inl x3), σ) := by
  refine (Rx_N (k := 1) (pc' := 97) (ls' := [.inr (.inl (16, 0)), .inl x1, .inl x2, .inl x3, .inl x4, .inl x5, u6]) (st' := [.inl x3]) (σ' := σ) rfl).trans ?_
  exact Rx_ret rfl rfl
theorem b_X5_bestLeans_0 (x1 : Int) (x2 : Int) (x3 : Int) (x4 : Int) (x5 : Int) (u6 : AV) (u7 : AV) (u8 : AV) (u9 : AV) (u10 : AV) (u11 : AV) (u12 : AV) (u13 : AV) (σ : St) : Rx k_X5_bestLeans 0 [.inr (.inl (16, 0)), .inl x1, .inl x2, .inl x3, .inl x4, .inl x5, u6, u7, u8, u9, u10, u11, u12, u13] [] σ = (Rx k_X5_isThing 0 [.inr (.inl (16, 0)), .inl x1] [] σ).bind fun q => Rx k_X5_bestLeans 5 [.inr (.inl (16, 0)), .inl x1, .inl x2, .inl x3, .inl x4, .inl x5, u6, u7, u8, u9, u10, u11, u12, u13] (q.1.toList ++ []) q.2 := by
  refine (Rx_N (k := 2) (pc' := 2) (ls' := [.inr (.inl (16, 0)), .inl x1, .inl x2, .inl x3, .inl x4, .inl x5, u6, u7, u8, u9, u10, u11, u12, u13]) (st' := [.inl x1, .inr (.inl (16, 0))]) (σ' := σ) rfl).trans ?_
  exact Rx_call (n := 3) (y' := k_X5_isThing) (as := [.inr (.inl (16, 0)), .inl x1]) (rest := []) rfl rfl rfl
theorem b_X5_bestLeans_5 (x1 : Int) (x2 : Int) (x3 : Int) (x4 : Int) (x5 : Int) (u6 : AV) (u7 : AV) (u8 : AV) (u9 : AV) (u10 : AV) (u11 : AV) (u12 : AV) (u13 : AV) (s0 : Int) (σ : St) : Rx k_X5_bestLeans 5 [.inr (.inl (16, 0)), .inl x1, .inl x2, .inl x3, .inl x4, .inl x5, u6, u7, u8, u9, u10, u11, u12, u13] [.inl s0] σ = if s0 = 0 then Rx k_X5_bestLeans 39 [.inr (.inl (16, 0)), .inl x1, .inl x2, .inl x3, .inl x4, .inl x5, u6, u7, u8, u9, u10, u11, u12, u13] [] σ else Rx k_X5_bestLeans 8 [.inr (.inl (16, 0)), .inl x1, .inl x2, .inl x3, .inl x4, .inl x5, u6, u7, u8, u9, u10, u11, u12, u13] [] σ := by
  exact Rx_eq0 (k := 1) rfl
theorem b_X5_bestLeans_8 (x1 : Int) (x2 : Int) (x3 : Int) (x4 : Int) (x5 : Int) (u6 : AV) (u7 : AV) (u8 : AV) (u9 : AV) (u10 : AV) (u11 : AV) (u12 : AV) (u13 : AV) (σ : St) : Rx k_X5_bestLeans 8 [.inr (.inl (16, 0)), .inl x1, .inl x2, .inl x3, .inl x4, .inl x5, u6, u7, u8, u9, u10, u11, u12, u13] [] σ = (Rx k_X5_isThing 0 [.inr (.inl (16, 0)), .inl x2] [] σ).bind fun q => Rx k_X5_bestLeans 13 [.inr (.inl (16, 0)), .inl x1, .inl x2, .inl x3, .inl x4, .inl x5, u6, u7, u8, u9, u10, u11, u12, u13] (q.1.toList ++ []) q.2 := by
  refine (Rx_N (k := 2) (pc' := 10) (ls' := [.inr (.inl (16, 0)), .inl x1, .inl x2, .inl x3, .inl x4, .inl x5, u6, u7, u8, u9, u10, u11, u12, u13]) (st' := [.inl x2, .inr (.inl (16, 0))]) (σ' := σ) rfl).trans ?_
  exact Rx_call (n := 3) (y' := k_X5_isThing) (as := [.inr (.inl (16, 0)), .inl x2]) (rest := []) rfl rfl rfl
theorem b_X5_bestLeans_13 (x1 : Int) (x2 : Int) (x3 : Int) (x4 : Int) (x5 : Int) (u6 : AV) (u7 : AV) (u8 : AV) (u9 : AV) (u10 : AV) (u11 : AV) (u12 : AV) (u13 : AV) (s0 : Int) (σ : St) : Rx k_X5_bestLeans 13 [.inr (.inl (16, 0)), .inl x1, .inl x2, .inl x3, .inl x4, .inl x5, u6, u7, u8, u9, u10, u11, u12, u13] [.inl s0] σ = if s0 = 0 then Rx k_X5_bestLeans 39 [.inr (.inl (16, 0)), .inl x1, .inl x2, .inl x3, .inl x4, .inl x5, u6, u7, u8, u9, u10, u11, u12, u13] [] σ else Rx k_X5_bestLeans 16 [.inr (.inl (16, 0)), .inl x1, .inl x2, .inl x3, .inl x4, .inl x5, u6, u7, u8, u9, u10, u11, u12, u13] [] σ := by
  exact Rx_eq0 (k := 1) rfl
theorem b_X5_bestLeans_16 (x1 : Int) (x2 : Int) (x3 : Int) (x4 : Int) (x5 : Int) (u6 : AV) (u7 : AV) (u8 : AV) (u9 : AV) (u10 : AV) (u11 : AV) (u12 : AV) (u13 : AV) (σ : St) : Rx k_X5_bestLeans 16 [.inr (.inl (16, 0)), .inl x1, .inl x2, .inl x3, .inl x4, .inl x5, u6, u7, u8, u9, u10, u11, u12, u13] [] σ = (Rx k_X5_isThing 0 [.inr (.inl (16, 0)), .inl x3] [] σ).bind fun q => Rx k_X5_bestLeans 21 [.inr (.inl (16, 0)), .inl x1, .inl x2, .inl x3, .inl x4, .inl x5, u6, u7, u8, u9, u10, u11, u12, u13] (q.1.toList ++ []) q.2 := by
  refine (Rx_N (k := 2) (pc' := 18) (ls' := [.inr (.inl (16, 0)), .inl x1, .inl x2, .inl x3, .inl x4, .inl x5, u6, u7, u8, u9, u10, u11, u12, u13]) (st' := [.inl x3, .inr (.inl (16, 0))]) (σ' := σ) rfl).trans ?_
  exact Rx_call (n := 3) (y' := k_X5_isThing) (as := [.inr (.inl (16, 0)), .inl x3]) (rest := []) rfl rfl rfl
theorem b_X5_bestLeans_21 (x1 : Int) (x2 : Int) (x3 : Int) (x4 : Int) (x5 : Int) (u6 : AV) (u7 : AV) (u8 : AV) (u9 : AV) (u10 : AV) (u11 : AV) (u12 : AV) (u13 : AV) (s0 : Int) (σ : St) : Rx k_X5_bestLeans 21 [.inr (.inl (16, 0)), .inl x1, .inl x2, .inl x3, .inl x4, .inl x5, u6, u7, u8, u9, u10, u11, u12, u13] [.inl s0] σ = if s0 = 0 then Rx k_X5_bestLeans 39 [.inr (.inl (16, 0)), .inl x1, .inl x2, .inl x3, .inl x4, .inl x5, u6, u7, u8, u9, u10, u11, u12, u13] [] σ else Rx k_X5_bestLeans 24 [.inr (.inl (16, 0)), .inl x1, .inl x2, .inl x3, .inl x4, .inl x5, u6, u7, u8, u9, u10, u11, u12, u13] [] σ := by
  exact Rx_eq0 (k := 1) rfl
theorem b_X5_bestLeans_24 (x1 : Int) (x2 : Int) (x3 : Int) (x4 : Int) (x5 : Int) (u6 : AV) (u7 : AV) (u8 : AV) (u9 : AV) (u10 : AV) (u11 : AV) (u12 : AV) (u13 : AV) (σ : St) : Rx k_X5_bestLeans 24 [.inr (.inl (16, 0)), .inl x1, .inl x2, .inl x3, .inl x4, .inl x5, u6, u7, u8, u9, u10, u11, u12, u13] [] σ = if x1 = x2 then Rx k_X5_bestLeans 39 [.inr (.inl (16, 0)), .inl x1, .inl x2, .inl x3, .inl x4, .inl x5, u6, u7, u8, u9, u10, u11, u12, u13] [] σ else Rx k_X5_bestLeans 29 [.inr (.inl (16, 0)), .inl x1, .inl x2, .inl x3, .inl x4, .inl x5, u6, u7, u8, u9, u10, u11, u12, u13] [] σ := by
  exact Rx_eq0 (k := 3) rfl
theorem b_X5_bestLeans_29 (x1 : Int) (x2 : Int) (x3 : Int) (x4 : Int) (x5 : Int) (u6 : AV) (u7 : AV) (u8 : AV) (u9 : AV) (u10 : AV) (u11 : AV) (u12 : AV) (u13 : AV) (σ : St) : Rx k_X5_bestLeans 29 [.inr (.inl (16, 0)), .inl x1, .inl x2, .inl x3, .inl x4, .inl x5, u6, u7, u8, u9, u10, u11, u12, u13] [] σ = if x1 = x3 then Rx k_X5_bestLeans 39 [.inr (.inl (16, 0)), .inl x1, .inl x2, .inl x3, .inl x4, .inl x5, u6, u7, u8, u9, u10, u11, u12, u13] [] σ else Rx k_X5_bestLeans 34 [.inr (.inl (16, 0)), .inl x1, .inl x2, .inl x3, .inl x4, .inl x5, u6, u7, u8, u9, u10, u11, u12, u13] [] σ := by
  exact Rx_eq0 (k := 3) rfl
theorem b_X5_bestLeans_34 (x1 : Int) (x2 : Int) (x3 : Int) (x4 : Int) (x5 : Int) (u6 : AV) (u7 : AV) (u8 : AV) (u9 : AV) (u10 : AV) (u11 : AV) (u12 : AV) (u13 : AV) (σ : St) : Rx k_X5_bestLeans 34 [.inr (.inl (16, 0)), .inl x1, .inl x2, .inl x3, .inl x4, .inl x5, u6, u7, u8, u9, u10, u11, u12, u13] [] σ = if x2 = x3 then Rx k_X5_bestLeans 39 [.inr (.inl (16, 0)), .inl x1, .inl x2, .inl x3, .inl x4, .inl x5, u6, u7, u8, u9, u10, u11, u12, u13] [] σ else Rx k_X5_bestLeans 43 [.inr (.inl (16, 0)), .inl x1, .inl x2, .inl x3, .inl x4, .inl x5, u6, u7, u8, u9, u10, u11, u12, u13] [] σ := by
  exact Rx_ne0 (k := 3) rfl
theorem b_X5_bestLeans_39 (x1 : Int) (x2 : Int) (x3 : Int) (x4 : Int) (x5 : Int) (u6 : AV) (u7 : AV) (u8 : AV) (u9 : AV) (u10 : AV) (u11 : AV) (u12 : AV) (u13 : AV) (σ : St) : Rx k_X5_bestLeans 39 [.inr (.inl (16, 0)), .inl x1, .inl x2, .inl x3, .inl x4, .inl x5, u6, u7, u8, u9, u10, u11, u12, u13] [] σ = if ((-1) : Int) = (0 : Int) then Rx k_X5_bestLeans 57 [.inr (.inl (16, 0)), .inl x1, .inl x2, .inl x3, .inl x4, .inl x5, .inl (-1), u7, u8, u9, u10, u11, u12, u13] [] σ else Rx k_X5_bestLeans 71 [.inr (.inl (16, 0)), .inl x1, .inl x2, .inl x3, .inl x4, .inl x5, .inl (-1), u7, u8, u9, u10, u11, u12, u13] [] σ := by
  exact Rx_ne0 (k := 5) rfl
theorem b_X5_bestLeans_43 (x1 : Int) (x2 : Int) (x3 : Int) (x4 : Int) (x5 : Int) (u6 : AV) (u7 : AV) (u8 : AV) (u9 : AV) (u10 : AV) (u11 : AV) (u12 : AV) (u13 : AV) (σ : St) : Rx k_X5_bestLeans 43 [.inr (.inl (16, 0)), .inl x1, .inl x2, .inl x3, .inl x4, .inl x5, u6, u7, u8, u9, u10, u11, u12, u13] [] σ = (Rx k_X5_wrongBy 0 [.inl x4, .inl 20] [] σ).bind fun q => Rx k_X5_bestLeans 50 [.inr (.inl (16, 0)), .inl x1, .inl x2, .inl x3, .inl x4, .inl x5, u6, u7, u8, u9, u10, u11, u12, u13] (q.1.toList ++ []) q.2 := by
  refine (Rx_N (k := 2) (pc' := 47) (ls' := [.inr (.inl (16, 0)), .inl x1, .inl x2, .inl x3, .inl x4, .inl x5, u6, u7, u8, u9, u10, u11, u12, u13]) (st' := [.inl 20, .inl x4]) (σ' := σ) rfl).trans ?_
  exact Rx_call (n := 3) (y' := k_X5_wrongBy) (as := [.inl x4, .inl 20]) (rest := []) rfl rfl rfl
theorem b_X5_bestLeans_50 (x1 : Int) (x2 : Int) (x3 : Int) (x4 : Int) (x5 : Int) (u6 : AV) (u7 : AV) (u8 : AV) (u9 : AV) (u10 : AV) (u11 : AV) (u12 : AV) (u13 : AV) (s0 : Int) (σ : St) : Rx k_X5_bestLeans 50 [.inr (.inl (16, 0)), .inl x1, .inl x2, .inl x3, .inl x4, .inl x5, u6, u7, u8, u9, u10, u11, u12, u13] [.inl s0] σ = if s0 = 0 then Rx k_X5_bestLeans 57 [.inr (.inl (16, 0)), .inl x1, .inl x2, .inl x3, .inl x4, .inl x5, .inl s0, u7, u8, u9, u10, u11, u12, u13] [] σ else Rx k_X5_bestLeans 71 [.inr (.inl (16, 0)), .inl x1, .inl x2, .inl x3, .inl x4, .inl x5, .inl s0, u7, u8, u9, u10, u11, u12, u13] [] σ := by
  exact Rx_ne0 (k := 3) rfl
theorem b_X5_bestLeans_57 (x1 : Int) (x2 : Int) (x3 : Int) (x4 : Int) (x5 : Int) (x6 : Int) (u7 : AV) (u8 : AV) (u9 : AV) (u10 : AV) (u11 : AV) (u12 : AV) (u13 : AV) (σ : St) : Rx k_X5_bestLeans 57 [.inr (.inl (16, 0)), .inl x1, .inl x2, .inl x3, .inl x4, .inl x5, .inl x6, u7, u8, u9, u10, u11, u12, u13] [] σ = (Rx k_X5_isIn 0 [.inl x5, .inl 0, .inl 1] [] σ).bind fun q => Rx k_X5_bestLeans 64 [.inr (.inl (16, 0)), .inl x1, .inl x2, .inl x3, .inl x4, .inl x5, .inl x6, u7, u8, u9, u10, u11, u12, u13] (q.1.toList ++ []) q.2 := by
  refine (Rx_N (k := 3) (pc' := 61) (ls' := [.inr (.inl (16, 0)), .inl x1, .inl x2, .inl x3, .inl x4, .inl x5, .inl x6, u7, u8, u9, u10, u11, u12, u13]) (st' := [.inl 1, .inl 0, .inl x5]) (σ' := σ) rfl).trans ?_
  exact Rx_call (n := 3) (y' := k_X5_isIn) (as := [.inl x5, .inl 0, .inl 1]) (rest := []) rfl rfl rfl
theorem b_X5_bestLeans_64 (x1 : Int) (x2 : Int) (x3 : Int) (x4 : Int) (x5 : Int) (x6 : Int) (u7 : AV) (u8 : AV) (u9 : AV) (u10 : AV) (u11 : AV) (u12 : AV) (u13 : AV) (s0 : Int) (σ : St) : Rx k_X5_bestLeans 64 [.inr (.inl (16, 0)), .inl x1, .inl x2, .inl x3, .inl x4, .inl x5, .inl x6, u7, u8, u9, u10, u11, u12, u13] [.inl s0] σ = if s0 = 0 then Rx k_X5_bestLeans 67 [.inr (.inl (16, 0)), .inl x1, .inl x2, .inl x3, .inl x4, .inl x5, .inl x6, u7, u8, u9, u10, u11, u12, u13] [] σ else Rx k_X5_bestLeans 71 [.inr (.inl (16, 0)), .inl x1, .inl x2, .inl x3, .inl x4, .inl x5, .inl x6, u7, u8, u9, u10, u11, u12, u13] [] σ := by
  exact Rx_ne0 (k := 1) rfl
theorem b_X5_bestLeans_67 (x1 : Int) (x2 : Int) (x3 : Int) (x4 : Int) (x5 : Int) (x6 : Int) (u7 : AV) (u8 : AV) (u9 : AV) (u10 : AV) (u11 : AV) (u12 : AV) (u13 : AV) (σ : St) : Rx k_X5_bestLeans 67 [.inr (.inl (16, 0)), .inl x1, .inl x2, .inl x3, .inl x4, .inl x5, .inl x6, u7, u8, u9, u10, u11, u12, u13] [] σ = if ((-2) : Int) = (0 : Int) then Rx k_X5_bestLeans 83 [.inr (.inl (16, 0)), .inl x1, .inl x2, .inl x3, .inl x4, .inl x5, .inl (-2), u7, u8, u9, u10, u11, u12, u13] [] σ else Rx k_X5_bestLeans 76 [.inr (.inl (16, 0)), .inl x1, .inl x2, .inl x3, .inl x4, .inl x5, .inl (-2), u7, u8, u9, u10, u11, u12, u13] [] σ := by
  exact Rx_eq0 (k := 4) rfl
theorem b_X5_bestLeans_71 (x1 : Int) (x2 : Int) (x3 : Int) (x4 : Int) (x5 : Int) (x6 : Int) (u7 : AV) (u8 : AV) (u9 : AV) (u10 : AV) (u11 : AV) (u12 : AV) (u13 : AV) (σ : St) : Rx k_X5_bestLeans 71 [.inr (.inl (16, 0)), .inl x1, .inl x2, .inl x3, .inl x4, .inl x5, .inl x6, u7, u8, u9, u10, u11, u12, u13] [] σ = if x6 = 0 then Rx k_X5_bestLeans 83 [.inr (.inl (16, 0)), .inl x1, .inl x2, .inl x3, .inl x4, .inl x5, .inl x6, u7, u8, u9, u10, u11, u12, u13] [] σ else Rx k_X5_bestLeans 76 [.inr (.inl (16, 0)), .inl x1, .inl x2, .inl x3, .inl x4, .inl x5, .inl x6, u7, u8, u9, u10, u11, u12, u13] [] σ := by
  exact Rx_eq0 (k := 2) rfl
theorem b_X5_bestLeans_76 (x1 : Int) (x2 : Int) (x3 : Int) (x4 : Int) (x5 : Int) (x6 : Int) (u7 : AV) (u8 : AV) (u9 : AV) (u10 : AV) (u11 : AV) (u12 : AV) (u13 : AV) (σ : St) : Rx k_X5_bestLeans 76 [.inr (.inl (16, 0)), .inl x1, .inl x2, .inl x3, .inl x4, .inl x5, .inl x6, u7, u8, u9, u10, u11, u12, u13] [] σ = (Rx k_X5_no 0 [.inr (.inl (16, 0)), .inl x6] [] σ).bind fun q => Rx k_X5_bestLeans 82 [.inr (.inl (16, 0)), .inl x1, .inl x2, .inl x3, .inl x4, .inl x5, .inl x6, u7, u8, u9, u10, u11, u12, u13] (q.1.toList ++ []) q.2 := by
  refine (Rx_N (k := 2) (pc' := 79) (ls' := [.inr (.inl (16, 0)), .inl x1, .inl x2, .inl x3, .inl x4, .inl x5, .inl x6, u7, u8, u9, u10, u11, u12, u13]) (st' := [.inl x6, .inr (.inl (16, 0))]) (σ' := σ) rfl).trans ?_
  exact Rx_call (n := 3) (y' := k_X5_no) (as := [.inr (.inl (16, 0)), .inl x6]) (rest := []) rfl rfl rfl
theorem b_X5_bestLeans_82 (x1 : Int) (x2 : Int) (x3 : Int) (x4 : Int) (x5 : Int) (x6 : Int) (u7 : AV) (u8 : AV) (u9 : AV) (u10 : AV) (u11 : AV) (u12 : AV) (u13 : AV) (s0 : Int) (σ : St) : Rx k_X5_bestLeans 82 [.inr (.inl (16, 0)), .inl x1, .inl x2, .inl x3, .inl x4, .inl x5, .inl x6, u7, u8, u9, u10, u11, u12, u13] [.inl s0] σ = some (some (.inl s0), σ) := by
  exact Rx_ret rfl rfl
theorem b_X5_bestLeans_83 (x1 : Int) (x2 : Int) (x3 : Int) (x4 : Int) (x5 : Int) (x6 : Int) (u7 : AV) (u8 : AV) (u9 : AV) (u10 : AV) (u11 : AV) (u12 : AV) (u13 : AV) (σ : St) : Rx k_X5_bestLeans 83 [.inr (.inl (16, 0)), .inl x1, .inl x2, .inl x3, .inl x4, .inl x5, .inl x6, u7, u8, u9, u10, u11, u12, u13] [] σ = Rx k_X5_bestLeans 93 [.inr (.inl (16, 0)), .inl x1, .inl x2, .inl x3, .inl x4, .inl x5, .inl x6, .inl (-9), .inl (-1), .inl 0, u10, u11, u12, u13] [] σ := by
  refine (Rx_N (k := 6) (pc' := 93) (ls' := [.inr (.inl (16, 0)), .inl x1, .inl x2, .inl x3, .inl x4, .inl x5, .inl x6, .inl (-9), .inl (-1), .inl 0, u10, u11, u12, u13]) (st' := []) (σ' := σ) rfl).trans ?_
  rfl
theorem r_X5_bestLeans_93 (x1 : Int) (x2 : Int) (x3 : Int) (x4 : Int) (x5 : Int) (x6 : Int) (x7 : Int) (x8 : Int) (x9 : Int) (u10 : AV) (u11 : AV) (u12 : AV) (u13 : AV) (σ : St) : Rx k_X5_bestLeans 93 [.inr (.inl (16, 0)), .inl x1, .inl x2, .inl x3, .inl x4, .inl x5, .inl x6, .inl x7, .inl x8, .inl x9, u10, u11, u12, u13] [] σ = if x9 < (wr ((wr ((σ 17 0 0) * (σ 17 0 0))) * (σ 17 0 0))) then Rx k_X5_bestLeans 118 [.inr (.inl (16, 0)), .inl x1, .inl x2, .inl x3, .inl x4, .inl x5, .inl x6, .inl x7, .inl x8, .inl x9, u10, u11, u12, u13] [] σ else Rx k_X5_bestLeans 259 [.inr (.inl (16, 0)), .inl x1, .inl x2, .inl x3, .inl x4, .inl x5, .inl x6, .inl x7, .inl x8, .inl x9, u10, u11, u12, u13] [] σ := by
  exact Rx_ge0 (k := 16) rfl
theorem b_X5_bestLeans_93 (x1 : Int) (x2 : Int) (x3 : Int) (x4 : Int) (x5 : Int) (x6 : Int) (x7 : Int) (x8 : Int) (x9 : Int) (u10 : AV) (u11 : AV) (u12 : AV) (u13 : AV) (σ : St) (g0a : -2147483648 ≤ ((σ 17 0 0) * (σ 17 0 0))) (g0b : ((σ 17 0 0) * (σ 17 0 0)) < 2147483648) (g1a : -2147483648 ≤ ((((σ 17 0 0) * (σ 17 0 0))) * (σ 17 0 0))) (g1b : ((((σ 17 0 0) * (σ 17 0 0))) * (σ 17 0 0)) < 2147483648) : Rx k_X5_bestLeans 93 [.inr (.inl (16, 0)), .inl x1, .inl x2, .inl x3, .inl x4, .inl x5, .inl x6, .inl x7, .inl x8, .inl x9, u10, u11, u12, u13] [] σ = if x9 < ((((σ 17 0 0) * (σ 17 0 0))) * (σ 17 0 0)) then Rx k_X5_bestLeans 118 [.inr (.inl (16, 0)), .inl x1, .inl x2, .inl x3, .inl x4, .inl x5, .inl x6, .inl x7, .inl x8, .inl x9, u10, u11, u12, u13] [] σ else Rx k_X5_bestLeans 259 [.inr (.inl (16, 0)), .inl x1, .inl x2, .inl x3, .inl x4, .inl x5, .inl x6, .inl x7, .inl x8, .inl x9, u10, u11, u12, u13] [] σ := by
  have e0 := wr_id (x := ((σ 17 0 0) * (σ 17 0 0))) g0a g0b
  have e1 := wr_id (x := ((((σ 17 0 0) * (σ 17 0 0))) * (σ 17 0 0))) g1a g1b
  have raw := r_X5_bestLeans_93 x1 x2 x3 x4 x5 x6 x7 x8 x9 u10 u11 u12 u13 σ 
  simp only [e0, e1] at raw
  exact raw
theorem r_X5_bestLeans_118 (x1 : Int) (x2 : Int) (x3 : Int) (x4 : Int) (x5 : Int) (x6 : Int) (x7 : Int) (x8 : Int) (x9 : Int) (u10 : AV) (u11 : AV) (u12 : AV) (u13 : AV) (σ : St) (h0 : (wr ((σ 17 0 0) * (σ 17 0 0))) ≠ 0) (h1 : (σ 17 0 0) ≠ 0) : Rx k_X5_bestLeans 118 [.inr (.inl (16, 0)), .inl x1, .inl x2, .inl x3, .inl x4, .inl x5, .inl x6, .inl x7, .inl x8, .inl x9, u10, u11, u12, u13] [] σ = (Rx k_X5_copies 0 [.inr (.inl (17, 0)), .inr (.inl (17, 1)), uns] [] σ).bind fun q => Rx k_X5_bestLeans 176 [.inr (.inl (16, 0)), .inl x1, .inl x2, .inl x3, .inl x4, .inl x5, .inl x6, .inl x7, .inl x8, .inl x9, .inl (wr (x9.tdiv (wr ((σ 17 0 0) * (σ 17 0 0))))), .inl ((wr (x9.tdiv (σ 17 0 0))).tmod (σ 17 0 0)), .inl (x9.tmod (σ 17 0 0)), u13] (q.1.toList ++ []) q.2 := by
  refine (Rx_N (k := 10) (pc' := 133) (ls' := [.inr (.inl (16, 0)), .inl x1, .inl x2, .inl x3, .inl x4, .inl x5, .inl x6, .inl x7, .inl x8, .inl x9, u10, u11, u12, u13]) (st' := [.inl (wr ((σ 17 0 0) * (σ 17 0 0))), .inl x9]) (σ' := σ) rfl).trans ?_
  refine (Rx_idiv rfl h0).trans ?_
  refine (Rx_N (k := 6) (pc' := 144) (ls' := [.inr (.inl (16, 0)), .inl x1, .inl x2, .inl x3, .inl x4, .inl x5, .inl x6, .inl x7, .inl x8, .inl x9, .inl (wr (x9.tdiv (wr ((σ 17 0 0) * (σ 17 0 0))))), u11, u12, u13]) (st' := [.inl (σ 17 0 0), .inl x9]) (σ' := σ) rfl).trans ?_
  refine (Rx_idiv rfl h1).trans ?_
  refine (Rx_N (k := 4) (pc' := 151) (ls' := [.inr (.inl (16, 0)), .inl x1, .inl x2, .inl x3, .inl x4, .inl x5, .inl x6, .inl x7, .inl x8, .inl x9, .inl (wr (x9.tdiv (wr ((σ 17 0 0) * (σ 17 0 0))))), u11, u12, u13]) (st' := [.inl (σ 17 0 0), .inl (wr (x9.tdiv (σ 17 0 0)))]) (σ' := σ) rfl).trans ?_
  refine (Rx_irem rfl h1).trans ?_
  refine (Rx_N (k := 6) (pc' := 162) (ls' := [.inr (.inl (16, 0)), .inl x1, .inl x2, .inl x3, .inl x4, .inl x5, .inl x6, .inl x7, .inl x8, .inl x9, .inl (wr (x9.tdiv (wr ((σ 17 0 0) * (σ 17 0 0))))), .inl ((wr (x9.tdiv (σ 17 0 0))).tmod (σ 17 0 0)), u12, u13]) (st' := [.inl (σ 17 0 0), .inl x9]) (σ' := σ) rfl).trans ?_
  refine (Rx_irem rfl h1).trans ?_
  refine (Rx_N (k := 5) (pc' := 173) (ls' := [.inr (.inl (16, 0)), .inl x1, .inl x2, .inl x3, .inl x4, .inl x5, .inl x6, .inl x7, .inl x8, .inl x9, .inl (wr (x9.tdiv (wr ((σ 17 0 0) * (σ 17 0 0))))), .inl ((wr (x9.tdiv (σ 17 0 0))).tmod (σ 17 0 0)), .inl (x9.tmod (σ 17 0 0)), u13]) (st' := [.inr (.inl (17, 1)), .inr (.inl (17, 0))]) (σ' := σ) rfl).trans ?_
  exact Rx_call (n := 3) (y' := k_X5_copies) (as := [.inr (.inl (17, 0)), .inr (.inl (17, 1))]) (rest := []) rfl rfl rfl
theorem b_X5_bestLeans_118 (x1 : Int) (x2 : Int) (x3 : Int) (x4 : Int) (x5 : Int) (x6 : Int) (x7 : Int) (x8 : Int) (x9 : Int) (u10 : AV) (u11 : AV) (u12 : AV) (u13 : AV) (σ : St) (h0 : ((σ 17 0 0) * (σ 17 0 0)) ≠ 0) (h1 : (σ 17 0 0) ≠ 0) (g0a : -2147483648 ≤ (x9.tdiv (σ 17 0 0))) (g0b : (x9.tdiv (σ 17 0 0)) < 2147483648) (g1a : -2147483648 ≤ ((σ 17 0 0) * (σ 17 0 0))) (g1b : ((σ 17 0 0) * (σ 17 0 0)) < 2147483648) (g2a : -2147483648 ≤ (x9.tdiv ((σ 17 0 0) * (σ 17 0 0)))) (g2b : (x9.tdiv ((σ 17 0 0) * (σ 17 0 0))) < 2147483648) : Rx k_X5_bestLeans 118 [.inr (.inl (16, 0)), .inl x1, .inl x2, .inl x3, .inl x4, .inl x5, .inl x6, .inl x7, .inl x8, .inl x9, u10, u11, u12, u13] [] σ = (Rx k_X5_copies 0 [.inr (.inl (17, 0)), .inr (.inl (17, 1)), uns] [] σ).bind fun q => Rx k_X5_bestLeans 176 [.inr (.inl (16, 0)), .inl x1, .inl x2, .inl x3, .inl x4, .inl x5, .inl x6, .inl x7, .inl x8, .inl x9, .inl (x9.tdiv ((σ 17 0 0) * (σ 17 0 0))), .inl (((x9.tdiv (σ 17 0 0))).tmod (σ 17 0 0)), .inl (x9.tmod (σ 17 0 0)), u13] (q.1.toList ++ []) q.2 := by
  have e0 := wr_id (x := (x9.tdiv (σ 17 0 0))) g0a g0b
  have e1 := wr_id (x := ((σ 17 0 0) * (σ 17 0 0))) g1a g1b
  have e2 := wr_id (x := (x9.tdiv ((σ 17 0 0) * (σ 17 0 0)))) g2a g2b
  have raw := r_X5_bestLeans_118 x1 x2 x3 x4 x5 x6 x7 x8 x9 u10 u11 u12 u13 σ (by simp only [e0, e1, e2]; exact h0) h1
  simp only [e0, e1, e2] at raw
  exact raw
theorem b_X5_bestLeans_176 (x1 : Int) (x2 : Int) (x3 : Int) (x4 : Int) (x5 : Int) (x6 : Int) (x7 : Int) (x8 : Int) (x9 : Int) (x10 : Int) (x11 : Int) (x12 : Int) (u13 : AV) (σ : St) : Rx k_X5_bestLeans 176 [.inr (.inl (16, 0)), .inl x1, .inl x2, .inl x3, .inl x4, .inl x5, .inl x6, .inl x7, .inl x8, .inl x9, .inl x10, .inl x11, .inl x12, u13] [] σ = (Rx k_X5_ofT 0 [.inl x1] [] σ).bind fun q => Rx k_X5_bestLeans 184 [.inr (.inl (16, 0)), .inl x1, .inl x2, .inl x3, .inl x4, .inl x5, .inl x6, .inl x7, .inl x8, .inl x9, .inl x10, .inl x11, .inl x12, u13] (q.1.toList ++ [.inr (.inl (17, 1))]) q.2 := by
  refine (Rx_N (k := 3) (pc' := 181) (ls' := [.inr (.inl (16, 0)), .inl x1, .inl x2, .inl x3, .inl x4, .inl x5, .inl x6, .inl x7, .inl x8, .inl x9, .inl x10, .inl x11, .inl x12, u13]) (st' := [.inl x1, .inr (.inl (17, 1))]) (σ' := σ) rfl).trans ?_
  exact Rx_call (n := 3) (y' := k_X5_ofT) (as := [.inl x1]) (rest := [.inr (.inl (17, 1))]) rfl rfl rfl
theorem r_X5_bestLeans_184 (x1 : Int) (x2 : Int) (x3 : Int) (x4 : Int) (x5 : Int) (x6 : Int) (x7 : Int) (x8 : Int) (x9 : Int) (x10 : Int) (x11 : Int) (x12 : Int) (u13 : AV) (s1 : Int) (σ : St) (h0 : 0 ≤ (wr (s1 + 2))) (h1 : (wr (s1 + 2)) < 58) : Rx k_X5_bestLeans 184 [.inr (.inl (16, 0)), .inl x1, .inl x2, .inl x3, .inl x4, .inl x5, .inl x6, .inl x7, .inl x8, .inl x9, .inl x10, .inl x11, .inl x12, u13] [.inl s1, .inr (.inl (17, 1))] σ = (Rx k_X5_ofT 0 [.inl x2] [] (up σ 17 1 ((wr (s1 + 2)).toNat) x10)).bind fun q => Rx k_X5_bestLeans 197 [.inr (.inl (16, 0)), .inl x1, .inl x2, .inl x3, .inl x4, .inl x5, .inl x6, .inl x7, .inl x8, .inl x9, .inl x10, .inl x11, .inl x12, u13] (q.1.toList ++ [.inr (.inl (17, 1))]) q.2 := by
  refine (Rx_N (k := 3) (pc' := 188) (ls' := [.inr (.inl (16, 0)), .inl x1, .inl x2, .inl x3, .inl x4, .inl x5, .inl x6, .inl x7, .inl x8, .inl x9, .inl x10, .inl x11, .inl x12, u13]) (st' := [.inl x10, .inl (wr (s1 + 2)), .inr (.inl (17, 1))]) (σ' := σ) rfl).trans ?_
  refine (Rx_ist 58 rfl rfl h0 h1).trans ?_
  refine (Rx_N (k := 3) (pc' := 194) (ls' := [.inr (.inl (16, 0)), .inl x1, .inl x2, .inl x3, .inl x4, .inl x5, .inl x6, .inl x7, .inl x8, .inl x9, .inl x10, .inl x11, .inl x12, u13]) (st' := [.inl x2, .inr (.inl (17, 1))]) (σ' := (up σ 17 1 ((wr (s1 + 2)).toNat) x10)) rfl).trans ?_
  exact Rx_call (n := 3) (y' := k_X5_ofT) (as := [.inl x2]) (rest := [.inr (.inl (17, 1))]) rfl rfl rfl
theorem b_X5_bestLeans_184 (x1 : Int) (x2 : Int) (x3 : Int) (x4 : Int) (x5 : Int) (x6 : Int) (x7 : Int) (x8 : Int) (x9 : Int) (x10 : Int) (x11 : Int) (x12 : Int) (u13 : AV) (s1 : Int) (σ : St) (h0 : 0 ≤ (s1 + 2)) (h1 : (s1 + 2) < 58) (g0a : -2147483648 ≤ (s1 + 2)) (g0b : (s1 + 2) < 2147483648) : Rx k_X5_bestLeans 184 [.inr (.inl (16, 0)), .inl x1, .inl x2, .inl x3, .inl x4, .inl x5, .inl x6, .inl x7, .inl x8, .inl x9, .inl x10, .inl x11, .inl x12, u13] [.inl s1, .inr (.inl (17, 1))] σ = (Rx k_X5_ofT 0 [.inl x2] [] (up σ 17 1 (((s1 + 2)).toNat) x10)).bind fun q => Rx k_X5_bestLeans 197 [.inr (.inl (16, 0)), .inl x1, .inl x2, .inl x3, .inl x4, .inl x5, .inl x6, .inl x7, .inl x8, .inl x9, .inl x10, .inl x11, .inl x12, u13] (q.1.toList ++ [.inr (.inl (17, 1))]) q.2 := by
  have e0 := wr_id (x := (s1 + 2)) g0a g0b
  have raw := r_X5_bestLeans_184 x1 x2 x3 x4 x5 x6 x7 x8 x9 x10 x11 x12 u13 s1 σ (by simp only [e0]; exact h0) (by simp only [e0]; exact h1)
  simp only [e0] at raw
  exact raw
theorem r_X5_bestLeans_197 (x1 : Int) (x2 : Int) (x3 : Int) (x4 : Int) (x5 : Int) (x6 : Int) (x7 : Int) (x8 : Int) (x9 : Int) (x10 : Int) (x11 : Int) (x12 : Int) (u13 : AV) (s1 : Int) (σ : St) (h0 : 0 ≤ (wr (s1 + 2))) (h1 : (wr (s1 + 2)) < 58) : Rx k_X5_bestLeans 197 [.inr (.inl (16, 0)), .inl x1, .inl x2, .inl x3, .inl x4, .inl x5, .inl x6, .inl x7, .inl x8, .inl x9, .inl x10, .inl x11, .inl x12, u13] [.inl s1, .inr (.inl (17, 1))] σ = (Rx k_X5_ofT 0 [.inl x3] [] (up σ 17 1 ((wr (s1 + 2)).toNat) x11)).bind fun q => Rx k_X5_bestLeans 210 [.inr (.inl (16, 0)), .inl x1, .inl x2, .inl x3, .inl x4, .inl x5, .inl x6, .inl x7, .inl x8, .inl x9, .inl x10, .inl x11, .inl x12, u13] (q.1.toList ++ [.inr (.inl (17, 1))]) q.2 := by
  refine (Rx_N (k := 3) (pc' := 201) (ls' := [.inr (.inl (16, 0)), .inl x1, .inl x2, .inl x3, .inl x4, .inl x5, .inl x6, .inl x7, .inl x8, .inl x9, .inl x10, .inl x11, .inl x12, u13]) (st' := [.inl x11, .inl (wr (s1 + 2)), .inr (.inl (17, 1))]) (σ' := σ) rfl).trans ?_
  refine (Rx_ist 58 rfl rfl h0 h1).trans ?_
  refine (Rx_N (k := 3) (pc' := 207) (ls' := [.inr (.inl (16, 0)), .inl x1, .inl x2, .inl x3, .inl x4, .inl x5, .inl x6, .inl x7, .inl x8, .inl x9, .inl x10, .inl x11, .inl x12, u13]) (st' := [.inl x3, .inr (.inl (17, 1))]) (σ' := (up σ 17 1 ((wr (s1 + 2)).toNat) x11)) rfl).trans ?_
  exact Rx_call (n := 3) (y' := k_X5_ofT) (as := [.inl x3]) (rest := [.inr (.inl (17, 1))]) rfl rfl rfl
theorem b_X5_bestLeans_197 (x1 : Int) (x2 : Int) (x3 : Int) (x4 : Int) (x5 : Int) (x6 : Int) (x7 : Int) (x8 : Int) (x9 : Int) (x10 : Int) (x11 : Int) (x12 : Int) (u13 : AV) (s1 : Int) (σ : St) (h0 : 0 ≤ (s1 + 2)) (h1 : (s1 + 2) < 58) (g0a : -2147483648 ≤ (s1 + 2)) (g0b : (s1 + 2) < 2147483648) : Rx k_X5_bestLeans 197 [.inr (.inl (16, 0)), .inl x1, .inl x2, .inl x3, .inl x4, .inl x5, .inl x6, .inl x7, .inl x8, .inl x9, .inl x10, .inl x11, .inl x12, u13] [.inl s1, .inr (.inl (17, 1))] σ = (Rx k_X5_ofT 0 [.inl x3] [] (up σ 17 1 (((s1 + 2)).toNat) x11)).bind fun q => Rx k_X5_bestLeans 210 [.inr (.inl (16, 0)), .inl x1, .inl x2, .inl x3, .inl x4, .inl x5, .inl x6, .inl x7, .inl x8, .inl x9, .inl x10, .inl x11, .inl x12, u13] (q.1.toList ++ [.inr (.inl (17, 1))]) q.2 := by
  have e0 := wr_id (x := (s1 + 2)) g0a g0b
  have raw := r_X5_bestLeans_197 x1 x2 x3 x4 x5 x6 x7 x8 x9 x10 x11 x12 u13 s1 σ (by simp only [e0]; exact h0) (by simp only [e0]; exact h1)
  simp only [e0] at raw
  exact raw
theorem r_X5_bestLeans_210 (x1 : Int) (x2 : Int) (x3 : Int) (x4 : Int) (x5 : Int) (x6 : Int) (x7 : Int) (x8 : Int) (x9 : Int) (x10 : Int) (x11 : Int) (x12 : Int) (u13 : AV) (s1 : Int) (σ : St) (h0 : 0 ≤ (wr (s1 + 2))) (h1 : (wr (s1 + 2)) < 58) : Rx k_X5_bestLeans 210 [.inr (.inl (16, 0)), .inl x1, .inl x2, .inl x3, .inl x4, .inl x5, .inl x6, .inl x7, .inl x8, .inl x9, .inl x10, .inl x11, .inl x12, u13] [.inl s1, .inr (.inl (17, 1))] σ = (Rx k_X5_upIn 0 [.inr (.inl (16, 0)), .inl x4] [] (up σ 17 1 ((wr (s1 + 2)).toNat) x12)).bind fun q => Rx k_X5_bestLeans 221 [.inr (.inl (16, 0)), .inl x1, .inl x2, .inl x3, .inl x4, .inl x5, .inl x6, .inl x7, .inl x8, .inl x9, .inl x10, .inl x11, .inl x12, u13] (q.1.toList ++ []) q.2 := by
  refine (Rx_N (k := 3) (pc' := 214) (ls' := [.inr (.inl (16, 0)), .inl x1, .inl x2, .inl x3, .inl x4, .inl x5, .inl x6, .inl x7, .inl x8, .inl x9, .inl x10, .inl x11, .inl x12, u13]) (st' := [.inl x12, .inl (wr (s1 + 2)), .inr (.inl (17, 1))]) (σ' := σ) rfl).trans ?_
  refine (Rx_ist 58 rfl rfl h0 h1).trans ?_
  refine (Rx_N (k := 2) (pc' := 218) (ls' := [.inr (.inl (16, 0)), .inl x1, .inl x2, .inl x3, .inl x4, .inl x5, .inl x6, .inl x7, .inl x8, .inl x9, .inl x10, .inl x11, .inl x12, u13]) (st' := [.inl x4, .inr (.inl (16, 0))]) (σ' := (up σ 17 1 ((wr (s1 + 2)).toNat) x12)) rfl).trans ?_
  exact Rx_call (n := 3) (y' := k_X5_upIn) (as := [.inr (.inl (16, 0)), .inl x4]) (rest := []) rfl rfl rfl
theorem b_X5_bestLeans_210 (x1 : Int) (x2 : Int) (x3 : Int) (x4 : Int) (x5 : Int) (x6 : Int) (x7 : Int) (x8 : Int) (x9 : Int) (x10 : Int) (x11 : Int) (x12 : Int) (u13 : AV) (s1 : Int) (σ : St) (h0 : 0 ≤ (s1 + 2)) (h1 : (s1 + 2) < 58) (g0a : -2147483648 ≤ (s1 + 2)) (g0b : (s1 + 2) < 2147483648) : Rx k_X5_bestLeans 210 [.inr (.inl (16, 0)), .inl x1, .inl x2, .inl x3, .inl x4, .inl x5, .inl x6, .inl x7, .inl x8, .inl x9, .inl x10, .inl x11, .inl x12, u13] [.inl s1, .inr (.inl (17, 1))] σ = (Rx k_X5_upIn 0 [.inr (.inl (16, 0)), .inl x4] [] (up σ 17 1 (((s1 + 2)).toNat) x12)).bind fun q => Rx k_X5_bestLeans 221 [.inr (.inl (16, 0)), .inl x1, .inl x2, .inl x3, .inl x4, .inl x5, .inl x6, .inl x7, .inl x8, .inl x9, .inl x10, .inl x11, .inl x12, u13] (q.1.toList ++ []) q.2 := by
  have e0 := wr_id (x := (s1 + 2)) g0a g0b
  have raw := r_X5_bestLeans_210 x1 x2 x3 x4 x5 x6 x7 x8 x9 x10 x11 x12 u13 s1 σ (by simp only [e0]; exact h0) (by simp only [e0]; exact h1)
  simp only [e0] at raw
  exact raw
theorem b_X5_bestLeans_221 (x1 : Int) (x2 : Int) (x3 : Int) (x4 : Int) (x5 : Int) (x6 : Int) (x7 : Int) (x8 : Int) (x9 : Int) (x10 : Int) (x11 : Int) (x12 : Int) (u13 : AV) (s0 : Int) (σ : St) : Rx k_X5_bestLeans 221 [.inr (.inl (16, 0)), .inl x1, .inl x2, .inl x3, .inl x4, .inl x5, .inl x6, .inl x7, .inl x8, .inl x9, .inl x10, .inl x11, .inl x12, u13] [.inl s0] σ = if x8 < s0 then Rx k_X5_bestLeans 233 [.inr (.inl (16, 0)), .inl x1, .inl x2, .inl x3, .inl x4, .inl x5, .inl x6, .inl x7, .inl x8, .inl x9, .inl x10, .inl x11, .inl x12, .inl s0] [] σ else Rx k_X5_bestLeans 230 [.inr (.inl (16, 0)), .inl x1, .inl x2, .inl x3, .inl x4, .inl x5, .inl x6, .inl x7, .inl x8, .inl x9, .inl x10, .inl x11, .inl x12, .inl s0] [] σ := by
  exact Rx_gt0 (k := 4) rfl
theorem r_X5_bestLeans_230 (x1 : Int) (x2 : Int) (x3 : Int) (x4 : Int) (x5 : Int) (x6 : Int) (x7 : Int) (x8 : Int) (x9 : Int) (x10 : Int) (x11 : Int) (x12 : Int) (x13 : Int) (σ : St) : Rx k_X5_bestLeans 230 [.inr (.inl (16, 0)), .inl x1, .inl x2, .inl x3, .inl x4, .inl x5, .inl x6, .inl x7, .inl x8, .inl x9, .inl x10, .inl x11, .inl x12, .inl x13] [] σ = Rx k_X5_bestLeans 93 [.inr (.inl (16, 0)), .inl x1, .inl x2, .inl x3, .inl x4, .inl x5, .inl x6, .inl x7, .inl x8, .inl (wr (x9 + 1)), .inl x10, .inl x11, .inl x12, .inl x13] [] σ := by
  refine (Rx_N (k := 3) (pc' := 93) (ls' := [.inr (.inl (16, 0)), .inl x1, .inl x2, .inl x3, .inl x4, .inl x5, .inl x6, .inl x7, .inl x8, .inl (wr (x9 + 1)), .inl x10, .inl x11, .inl x12, .inl x13]) (st' := []) (σ' := σ) rfl).trans ?_
  rfl
theorem b_X5_bestLeans_230 (x1 : Int) (x2 : Int) (x3 : Int) (x4 : Int) (x5 : Int) (x6 : Int) (x7 : Int) (x8 : Int) (x9 : Int) (x10 : Int) (x11 : Int) (x12 : Int) (x13 : Int) (σ : St) (g0a : -2147483648 ≤ (x9 + 1)) (g0b : (x9 + 1) < 2147483648) : Rx k_X5_bestLeans 230 [.inr (.inl (16, 0)), .inl x1, .inl x2, .inl x3, .inl x4, .inl x5, .inl x6, .inl x7, .inl x8, .inl x9, .inl x10, .inl x11, .inl x12, .inl x13] [] σ = Rx k_X5_bestLeans 93 [.inr (.inl (16, 0)), .inl x1, .inl x2, .inl x3, .inl x4, .inl x5, .inl x6, .inl x7, .inl x8, .inl (x9 + 1), .inl x10, .inl x11, .inl x12, .inl x13] [] σ := by
  have e0 := wr_id (x := (x9 + 1)) g0a g0b
  have raw := r_X5_bestLeans_230 x1 x2 x3 x4 x5 x6 x7 x8 x9 x10 x11 x12 x13 σ 
  simp only [e0] at raw
  exact raw
theorem r_X5_bestLeans_233 (x1 : Int) (x2 : Int) (x3 : Int) (x4 : Int) (x5 : Int) (x6 : Int) (x7 : Int) (x8 : Int) (x9 : Int) (x10 : Int) (x11 : Int) (x12 : Int) (x13 : Int) (σ : St) : Rx k_X5_bestLeans 233 [.inr (.inl (16, 0)), .inl x1, .inl x2, .inl x3, .inl x4, .inl x5, .inl x6, .inl x7, .inl x8, .inl x9, .inl x10, .inl x11, .inl x12, .inl x13] [] σ = Rx k_X5_bestLeans 93 [.inr (.inl (16, 0)), .inl x1, .inl x2, .inl x3, .inl x4, .inl x5, .inl x6, .inl (wr ((wr ((wr (100 * x10)) + (wr (10 * x11)))) + x12)), .inl x13, .inl (wr (x9 + 1)), .inl x10, .inl x11, .inl x12, .inl x13] [] σ := by
  refine (Rx_N (k := 14) (pc' := 93) (ls' := [.inr (.inl (16, 0)), .inl x1, .inl x2, .inl x3, .inl x4, .inl x5, .inl x6, .inl (wr ((wr ((wr (100 * x10)) + (wr (10 * x11)))) + x12)), .inl x13, .inl (wr (x9 + 1)), .inl x10, .inl x11, .inl x12, .inl x13]) (st' := []) (σ' := σ) rfl).trans ?_
  rfl
theorem b_X5_bestLeans_233 (x1 : Int) (x2 : Int) (x3 : Int) (x4 : Int) (x5 : Int) (x6 : Int) (x7 : Int) (x8 : Int) (x9 : Int) (x10 : Int) (x11 : Int) (x12 : Int) (x13 : Int) (σ : St) (g0a : -2147483648 ≤ (x9 + 1)) (g0b : (x9 + 1) < 2147483648) (g1a : -2147483648 ≤ (10 * x11)) (g1b : (10 * x11) < 2147483648) (g2a : -2147483648 ≤ (100 * x10)) (g2b : (100 * x10) < 2147483648) (g3a : -2147483648 ≤ (((100 * x10)) + (10 * x11))) (g3b : (((100 * x10)) + (10 * x11)) < 2147483648) (g4a : -2147483648 ≤ (((((100 * x10)) + (10 * x11))) + x12)) (g4b : (((((100 * x10)) + (10 * x11))) + x12) < 2147483648) : Rx k_X5_bestLeans 233 [.inr (.inl (16, 0)), .inl x1, .inl x2, .inl x3, .inl x4, .inl x5, .inl x6, .inl x7, .inl x8, .inl x9, .inl x10, .inl x11, .inl x12, .inl x13] [] σ = Rx k_X5_bestLeans 93 [.inr (.inl (16, 0)), .inl x1, .inl x2, .inl x3, .inl x4, .inl x5, .inl x6, .inl (((((100 * x10)) + (10 * x11))) + x12), .inl x13, .inl (x9 + 1), .inl x10, .inl x11, .inl x12, .inl x13] [] σ := by
  have e0 := wr_id (x := (x9 + 1)) g0a g0b
  have e1 := wr_id (x := (10 * x11)) g1a g1b
  have e2 := wr_id (x := (100 * x10)) g2a g2b
  have e3 := wr_id (x := (((100 * x10)) + (10 * x11))) g3a g3b
  have e4 := wr_id (x := (((((100 * x10)) + (10 * x11))) + x12)) g4a g4b
  have raw := r_X5_bestLeans_233 x1 x2 x3 x4 x5 x6 x7 x8 x9 x10 x11 x12 x13 σ 
  simp only [e0, e1, e2, e3, e4] at raw
  exact raw
theorem b_X5_bestLeans_259 (x1 : Int) (x2 : Int) (x3 : Int) (x4 : Int) (x5 : Int) (x6 : Int) (x7 : Int) (x8 : Int) (x9 : Int) (u10 : AV) (u11 : AV) (u12 : AV) (u13 : AV) (σ : St) : Rx k_X5_bestLeans 259 [.inr (.inl (16, 0)), .inl x1, .inl x2, .inl x3, .inl x4, .inl x5, .inl x6, .inl x7, .inl x8, .inl x9, u10, u11, u12, u13] [] σ = if x7 < 0 then Rx k_X5_bestLeans 269 [.inr (.inl (16, 0)), .inl x1, .inl x2, .inl x3, .inl x4, .inl x5, .inl x6, .inl x7, .inl x8, .inl x9, u10, u11, u12, u13] [] σ else Rx k_X5_bestLeans 264 [.inr (.inl (16, 0)), .inl x1, .inl x2, .inl x3, .inl x4, .inl x5, .inl x6, .inl x7, .inl x8, .inl x9, u10, u11, u12, u13] [] σ := by
  exact Rx_lt0 (k := 2) rfl
theorem b_X5_bestLeans_264 (x1 : Int) (x2 : Int) (x3 : Int) (x4 : Int) (x5 : Int) (x6 : Int) (x7 : Int) (x8 : Int) (x9 : Int) (u10 : AV) (u11 : AV) (u12 : AV) (u13 : AV) (σ : St) : Rx k_X5_bestLeans 264 [.inr (.inl (16, 0)), .inl x1, .inl x2, .inl x3, .inl x4, .inl x5, .inl x6, .inl x7, .inl x8, .inl x9, u10, u11, u12, u13] [] σ = if x5 = 0 then Rx k_X5_bestLeans 269 [.inr (.inl (16, 0)), .inl x1, .inl x2, .inl x3, .inl x4, .inl x5, .inl x6, .inl x7, .inl x8, .inl x9, u10, u11, u12, u13] [] σ else Rx k_X5_bestLeans 274 [.inr (.inl (16, 0)), .inl x1, .inl x2, .inl x3, .inl x4, .inl x5, .inl x6, .inl x7, .inl x8, .inl x9, u10, u11, u12, u13] [] σ := by
  exact Rx_ne0 (k := 2) rfl
theorem b_X5_bestLeans_269 (x1 : Int) (x2 : Int) (x3 : Int) (x4 : Int) (x5 : Int) (x6 : Int) (x7 : Int) (x8 : Int) (x9 : Int) (u10 : AV) (u11 : AV) (u12 : AV) (u13 : AV) (σ : St) : Rx k_X5_bestLeans 269 [.inr (.inl (16, 0)), .inl x1, .inl x2, .inl x3, .inl x4, .inl x5, .inl x6, .inl x7, .inl x8, .inl x9, u10, u11, u12, u13] [] σ = some (some (.inl x7), σ) := by
  refine (Rx_N (k := 2) (pc' := 276) (ls' := [.inr (.inl (16, 0)), .inl x1, .inl x2, .inl x3, .inl x4, .inl x5, .inl x6, .inl x7, .inl x8, .inl x9, u10, u11, u12, u13]) (st' := [.inl x7]) (σ' := σ) rfl).trans ?_
  exact Rx_ret rfl rfl
theorem b_X5_bestLeans_274 (x1 : Int) (x2 : Int) (x3 : Int) (x4 : Int) (x5 : Int) (x6 : Int) (x7 : Int) (x8 : Int) (x9 : Int) (u10 : AV) (u11 : AV) (u12 : AV) (u13 : AV) (σ : St) : Rx k_X5_bestLeans 274 [.inr (.inl (16, 0)), .inl x1, .inl x2, .inl x3, .inl x4, .inl x5, .inl x6, .inl x7, .inl x8, .inl x9, u10, u11, u12, u13] [] σ = some (some (.inl x8), σ) := by
  refine (Rx_N (k := 1) (pc' := 276) (ls' := [.inr (.inl (16, 0)), .inl x1, .inl x2, .inl x3, .inl x4, .inl x5, .inl x6, .inl x7, .inl x8, .inl x9, u10, u11, u12, u13]) (st' := [.inl x8]) (σ' := σ) rfl).trans ?_
  exact Rx_ret rfl rfl
theorem b_X5_upWith_0 (x1 : Int) (x2 : Int) (x3 : Int) (σ : St) : Rx k_X5_upWith 0 [.inr (.inl (16, 0)), .inl x1, .inl x2, .inl x3] [] σ = (Rx k_X5_copies 0 [.inr (.inl (17, 0)), .inr (.inl (17, 1)), uns] [] σ).bind fun q => Rx k_X5_upWith 11 [.inr (.inl (16, 0)), .inl x1, .inl x2, .inl x3] (q.1.toList ++ []) q.2 := by
  refine (Rx_N (k := 4) (pc' := 8) (ls' := [.inr (.inl (16, 0)), .inl x1, .inl x2, .inl x3]) (st' := [.inr (.inl (17, 1)), .inr (.inl (17, 0))]) (σ' := σ) rfl).trans ?_
  exact Rx_call (n := 3) (y' := k_X5_copies) (as := [.inr (.inl (17, 0)), .inr (.inl (17, 1))]) (rest := []) rfl rfl rfl
theorem b_X5_upWith_11 (x1 : Int) (x2 : Int) (x3 : Int) (σ : St) : Rx k_X5_upWith 11 [.inr (.inl (16, 0)), .inl x1, .inl x2, .inl x3] [] σ = (Rx k_X5_ofP 0 [.inl x1] [] σ).bind fun q => Rx k_X5_upWith 19 [.inr (.inl (16, 0)), .inl x1, .inl x2, .inl x3] (q.1.toList ++ [.inr (.inl (17, 1))]) q.2 := by
  refine (Rx_N (k := 3) (pc' := 16) (ls' := [.inr (.inl (16, 0)), .inl x1, .inl x2, .inl x3]) (st' := [.inl x1, .inr (.inl (17, 1))]) (σ' := σ) rfl).trans ?_
  exact Rx_call (n := 3) (y' := k_X5_ofP) (as := [.inl x1]) (rest := [.inr (.inl (17, 1))]) rfl rfl rfl
theorem r_X5_upWith_19 (x1 : Int) (x2 : Int) (x3 : Int) (s1 : Int) (σ : St) (h0 : 0 ≤ (wr (s1 + 2))) (h1 : (wr (s1 + 2)) < 58) : Rx k_X5_upWith 19 [.inr (.inl (16, 0)), .inl x1, .inl x2, .inl x3] [.inl s1, .inr (.inl (17, 1))] σ = (Rx k_X5_upIn 0 [.inr (.inl (16, 0)), .inl x3] [] (up σ 17 1 ((wr (s1 + 2)).toNat) x2)).bind fun q => Rx k_X5_upWith 28 [.inr (.inl (16, 0)), .inl x1, .inl x2, .inl x3] (q.1.toList ++ []) q.2 := by
  refine (Rx_N (k := 3) (pc' := 22) (ls' := [.inr (.inl (16, 0)), .inl x1, .inl x2, .inl x3]) (st' := [.inl x2, .inl (wr (s1 + 2)), .inr (.inl (17, 1))]) (σ' := σ) rfl).trans ?_
  refine (Rx_ist 58 rfl rfl h0 h1).trans ?_
  refine (Rx_N (k := 2) (pc' := 25) (ls' := [.inr (.inl (16, 0)), .inl x1, .inl x2, .inl x3]) (st' := [.inl x3, .inr (.inl (16, 0))]) (σ' := (up σ 17 1 ((wr (s1 + 2)).toNat) x2)) rfl).trans ?_
  exact Rx_call (n := 3) (y' := k_X5_upIn) (as := [.inr (.inl (16, 0)), .inl x3]) (rest := []) rfl rfl rfl
theorem b_X5_upWith_19 (x1 : Int) (x2 : Int) (x3 : Int) (s1 : Int) (σ : St) (h0 : 0 ≤ (s1 + 2)) (h1 : (s1 + 2) < 58) (g0a : -2147483648 ≤ (s1 + 2)) (g0b : (s1 + 2) < 2147483648) : Rx k_X5_upWith 19 [.inr (.inl (16, 0)), .inl x1, .inl x2, .inl x3] [.inl s1, .inr (.inl (17, 1))] σ = (Rx k_X5_upIn 0 [.inr (.inl (16, 0)), .inl x3] [] (up σ 17 1 (((s1 + 2)).toNat) x2)).bind fun q => Rx k_X5_upWith 28 [.inr (.inl (16, 0)), .inl x1, .inl x2, .inl x3] (q.1.toList ++ []) q.2 := by
  have e0 := wr_id (x := (s1 + 2)) g0a g0b
  have raw := r_X5_upWith_19 x1 x2 x3 s1 σ (by simp only [e0]; exact h0) (by simp only [e0]; exact h1)
  simp only [e0] at raw
  exact raw
theorem b_X5_upWith_28 (x1 : Int) (x2 : Int) (x3 : Int) (s0 : Int) (σ : St) : Rx k_X5_upWith 28 [.inr (.inl (16, 0)), .inl x1, .inl x2, .inl x3] [.inl s0] σ = some (some (.inl s0), σ) := by
  exact Rx_ret rfl rfl
theorem b_X5_mended_0 (x1 : Int) (u2 : AV) (u3 : AV) (u4 : AV) (u5 : AV) (u6 : AV) (σ : St) : Rx k_X5_mended 0 [.inr (.inl (16, 0)), .inl x1, u2, u3, u4, u5, u6] [] σ = (Rx k_X5_wrongBy 0 [.inl x1, .inl 99] [] σ).bind fun q => Rx k_X5_mended 6 [.inr (.inl (16, 0)), .inl x1, u2, u3, u4, u5, u6] (q.1.toList ++ []) q.2 := by
  refine (Rx_N (k := 2) (pc' := 3) (ls' := [.inr (.inl (16, 0)), .inl x1, u2, u3, u4, u5, u6]) (st' := [.inl 99, .inl x1]) (σ' := σ) rfl).trans ?_
  exact Rx_call (n := 3) (y' := k_X5_wrongBy) (as := [.inl x1, .inl 99]) (rest := []) rfl rfl rfl
theorem b_X5_mended_6 (x1 : Int) (u2 : AV) (u3 : AV) (u4 : AV) (u5 : AV) (u6 : AV) (s0 : Int) (σ : St) : Rx k_X5_mended 6 [.inr (.inl (16, 0)), .inl x1, u2, u3, u4, u5, u6] [.inl s0] σ = if s0 = 0 then Rx k_X5_mended 17 [.inr (.inl (16, 0)), .inl x1, .inl s0, u3, u4, u5, u6] [] σ else Rx k_X5_mended 11 [.inr (.inl (16, 0)), .inl x1, .inl s0, u3, u4, u5, u6] [] σ := by
  exact Rx_eq0 (k := 3) rfl
theorem b_X5_mended_11 (x1 : Int) (x2 : Int) (u3 : AV) (u4 : AV) (u5 : AV) (u6 : AV) (σ : St) : Rx k_X5_mended 11 [.inr (.inl (16, 0)), .inl x1, .inl x2, u3, u4, u5, u6] [] σ = (Rx k_X5_no 0 [.inr (.inl (16, 0)), .inl x2] [] σ).bind fun q => Rx k_X5_mended 16 [.inr (.inl (16, 0)), .inl x1, .inl x2, u3, u4, u5, u6] (q.1.toList ++ []) q.2 := by
  refine (Rx_N (k := 2) (pc' := 13) (ls' := [.inr (.inl (16, 0)), .inl x1, .inl x2, u3, u4, u5, u6]) (st' := [.inl x2, .inr (.inl (16, 0))]) (σ' := σ) rfl).trans ?_
  exact Rx_call (n := 3) (y' := k_X5_no) (as := [.inr (.inl (16, 0)), .inl x2]) (rest := []) rfl rfl rfl
theorem b_X5_mended_16 (x1 : Int) (x2 : Int) (u3 : AV) (u4 : AV) (u5 : AV) (u6 : AV) (s0 : Int) (σ : St) : Rx k_X5_mended 16 [.inr (.inl (16, 0)), .inl x1, .inl x2, u3, u4, u5, u6] [.inl s0] σ = some (some (.inl s0), σ) := by
  exact Rx_ret rfl rfl
theorem b_X5_mended_17 (x1 : Int) (x2 : Int) (u3 : AV) (u4 : AV) (u5 : AV) (u6 : AV) (σ : St) : Rx k_X5_mended 17 [.inr (.inl (16, 0)), .inl x1, .inl x2, u3, u4, u5, u6] [] σ = (Rx k_X5_copies 0 [.inr (.inl (17, 0)), .inr (.inl (17, 1)), uns] [] σ).bind fun q => Rx k_X5_mended 28 [.inr (.inl (16, 0)), .inl x1, .inl x2, u3, u4, u5, u6] (q.1.toList ++ []) q.2 := by
  refine (Rx_N (k := 4) (pc' := 25) (ls' := [.inr (.inl (16, 0)), .inl x1, .inl x2, u3, u4, u5, u6]) (st' := [.inr (.inl (17, 1)), .inr (.inl (17, 0))]) (σ' := σ) rfl).trans ?_
  exact Rx_call (n := 3) (y' := k_X5_copies) (as := [.inr (.inl (17, 0)), .inr (.inl (17, 1))]) (rest := []) rfl rfl rfl
theorem b_X5_mended_28 (x1 : Int) (x2 : Int) (u3 : AV) (u4 : AV) (u5 : AV) (u6 : AV) (σ : St) : Rx k_X5_mended 28 [.inr (.inl (16, 0)), .inl x1, .inl x2, u3, u4, u5, u6] [] σ = (Rx k_X5_upIn 0 [.inr (.inl (16, 0)), .inl x1] [] σ).bind fun q => Rx k_X5_mended 33 [.inr (.inl (16, 0)), .inl x1, .inl x2, u3, u4, u5, u6] (q.1.toList ++ []) q.2 := by
  refine (Rx_N (k := 2) (pc' := 30) (ls' := [.inr (.inl (16, 0)), .inl x1, .inl x2, u3, u4, u5, u6]) (st' := [.inl x1, .inr (.inl (16, 0))]) (σ' := σ) rfl).trans ?_
  exact Rx_call (n := 3) (y' := k_X5_upIn) (as := [.inr (.inl (16, 0)), .inl x1]) (rest := []) rfl rfl rfl
theorem b_X5_mended_33 (x1 : Int) (x2 : Int) (u3 : AV) (u4 : AV) (u5 : AV) (u6 : AV) (s0 : Int) (σ : St) : Rx k_X5_mended 33 [.inr (.inl (16, 0)), .inl x1, .inl x2, u3, u4, u5, u6] [.inl s0] σ = Rx k_X5_mended 41 [.inr (.inl (16, 0)), .inl x1, .inl x2, .inl s0, .inl (-9), .inl 0, u6] [] σ := by
  refine (Rx_N (k := 5) (pc' := 41) (ls' := [.inr (.inl (16, 0)), .inl x1, .inl x2, .inl s0, .inl (-9), .inl 0, u6]) (st' := []) (σ' := σ) rfl).trans ?_
  rfl
theorem b_X5_mended_41 (x1 : Int) (x2 : Int) (x3 : Int) (x4 : Int) (x5 : Int) (u6 : AV) (σ : St) : Rx k_X5_mended 41 [.inr (.inl (16, 0)), .inl x1, .inl x2, .inl x3, .inl x4, .inl x5, u6] [] σ = if x5 < (σ 17 0 0) then Rx k_X5_mended 52 [.inr (.inl (16, 0)), .inl x1, .inl x2, .inl x3, .inl x4, .inl x5, u6] [] σ else Rx k_X5_mended 85 [.inr (.inl (16, 0)), .inl x1, .inl x2, .inl x3, .inl x4, .inl x5, u6] [] σ := by
  exact Rx_ge0 (k := 6) rfl
theorem b_X5_mended_52 (x1 : Int) (x2 : Int) (x3 : Int) (x4 : Int) (x5 : Int) (u6 : AV) (σ : St) : Rx k_X5_mended 52 [.inr (.inl (16, 0)), .inl x1, .inl x2, .inl x3, .inl x4, .inl x5, u6] [] σ = (Rx k_X5_upWith 0 [.inr (.inl (16, 0)), .inl x5, .inl 99, .inl x1] [] σ).bind fun q => Rx k_X5_mended 61 [.inr (.inl (16, 0)), .inl x1, .inl x2, .inl x3, .inl x4, .inl x5, u6] (q.1.toList ++ []) q.2 := by
  refine (Rx_N (k := 4) (pc' := 58) (ls' := [.inr (.inl (16, 0)), .inl x1, .inl x2, .inl x3, .inl x4, .inl x5, u6]) (st' := [.inl x1, .inl 99, .inl x5, .inr (.inl (16, 0))]) (σ' := σ) rfl).trans ?_
  exact Rx_call (n := 3) (y' := k_X5_upWith) (as := [.inr (.inl (16, 0)), .inl x5, .inl 99, .inl x1]) (rest := []) rfl rfl rfl
theorem b_X5_mended_61 (x1 : Int) (x2 : Int) (x3 : Int) (x4 : Int) (x5 : Int) (u6 : AV) (s0 : Int) (σ : St) : Rx k_X5_mended 61 [.inr (.inl (16, 0)), .inl x1, .inl x2, .inl x3, .inl x4, .inl x5, u6] [.inl s0] σ = if x3 < s0 then Rx k_X5_mended 72 [.inr (.inl (16, 0)), .inl x1, .inl x2, .inl x3, .inl x4, .inl x5, .inl s0] [] σ else Rx k_X5_mended 69 [.inr (.inl (16, 0)), .inl x1, .inl x2, .inl x3, .inl x4, .inl x5, .inl s0] [] σ := by
  exact Rx_gt0 (k := 4) rfl
theorem r_X5_mended_69 (x1 : Int) (x2 : Int) (x3 : Int) (x4 : Int) (x5 : Int) (x6 : Int) (σ : St) : Rx k_X5_mended 69 [.inr (.inl (16, 0)), .inl x1, .inl x2, .inl x3, .inl x4, .inl x5, .inl x6] [] σ = Rx k_X5_mended 41 [.inr (.inl (16, 0)), .inl x1, .inl x2, .inl x3, .inl x4, .inl (wr (x5 + 1)), .inl x6] [] σ := by
  refine (Rx_N (k := 3) (pc' := 41) (ls' := [.inr (.inl (16, 0)), .inl x1, .inl x2, .inl x3, .inl x4, .inl (wr (x5 + 1)), .inl x6]) (st' := []) (σ' := σ) rfl).trans ?_
  rfl
theorem b_X5_mended_69 (x1 : Int) (x2 : Int) (x3 : Int) (x4 : Int) (x5 : Int) (x6 : Int) (σ : St) (g0a : -2147483648 ≤ (x5 + 1)) (g0b : (x5 + 1) < 2147483648) : Rx k_X5_mended 69 [.inr (.inl (16, 0)), .inl x1, .inl x2, .inl x3, .inl x4, .inl x5, .inl x6] [] σ = Rx k_X5_mended 41 [.inr (.inl (16, 0)), .inl x1, .inl x2, .inl x3, .inl x4, .inl (x5 + 1), .inl x6] [] σ := by
  have e0 := wr_id (x := (x5 + 1)) g0a g0b
  have raw := r_X5_mended_69 x1 x2 x3 x4 x5 x6 σ 
  simp only [e0] at raw
  exact raw
theorem r_X5_mended_72 (x1 : Int) (x2 : Int) (x3 : Int) (x4 : Int) (x5 : Int) (x6 : Int) (σ : St) : Rx k_X5_mended 72 [.inr (.inl (16, 0)), .inl x1, .inl x2, .inl x3, .inl x4, .inl x5, .inl x6] [] σ = Rx k_X5_mended 41 [.inr (.inl (16, 0)), .inl x1, .inl x2, .inl x6, .inl x5, .inl (wr (x5 + 1)), .inl x6] [] σ := by
  refine (Rx_N (k := 6) (pc' := 41) (ls' := [.inr (.inl (16, 0)), .inl x1, .inl x2, .inl x6, .inl x5, .inl (wr (x5 + 1)), .inl x6]) (st' := []) (σ' := σ) rfl).trans ?_
  rfl
theorem b_X5_mended_72 (x1 : Int) (x2 : Int) (x3 : Int) (x4 : Int) (x5 : Int) (x6 : Int) (σ : St) (g0a : -2147483648 ≤ (x5 + 1)) (g0b : (x5 + 1) < 2147483648) : Rx k_X5_mended 72 [.inr (.inl (16, 0)), .inl x1, .inl x2, .inl x3, .inl x4, .inl x5, .inl x6] [] σ = Rx k_X5_mended 41 [.inr (.inl (16, 0)), .inl x1, .inl x2, .inl x6, .inl x5, .inl (x5 + 1), .inl x6] [] σ := by
  have e0 := wr_id (x := (x5 + 1)) g0a g0b
  have raw := r_X5_mended_72 x1 x2 x3 x4 x5 x6 σ 
  simp only [e0] at raw
  exact raw
theorem b_X5_mended_85 (x1 : Int) (x2 : Int) (x3 : Int) (x4 : Int) (x5 : Int) (u6 : AV) (σ : St) : Rx k_X5_mended 85 [.inr (.inl (16, 0)), .inl x1, .inl x2, .inl x3, .inl x4, .inl x5, u6] [] σ = some (some (.inl x4), σ) := by
  refine (Rx_N (k := 1) (pc' := 87) (ls' := [.inr (.inl (16, 0)), .inl x1, .inl x2, .inl x3, .inl x4, .inl x5, u6]) (st' := [.inl x4]) (σ' := σ) rfl).trans ?_
  exact Rx_ret rfl rfl
theorem b_X5_key_0 (x1 : Int) (u2 : AV) (u3 : AV) (u4 : AV) (u5 : AV) (u6 : AV) (σ : St) : Rx k_X5_key 0 [.inr (.inl (16, 0)), .inl x1, u2, u3, u4, u5, u6] [] σ = (Rx k_X5_wrongBy 0 [.inl x1, .inl 99] [] σ).bind fun q => Rx k_X5_key 6 [.inr (.inl (16, 0)), .inl x1, u2, u3, u4, u5, u6] (q.1.toList ++ []) q.2 := by
  refine (Rx_N (k := 2) (pc' := 3) (ls' := [.inr (.inl (16, 0)), .inl x1, u2, u3, u4, u5, u6]) (st' := [.inl 99, .inl x1]) (σ' := σ) rfl).trans ?_
  exact Rx_call (n := 3) (y' := k_X5_wrongBy) (as := [.inl x1, .inl 99]) (rest := []) rfl rfl rfl
theorem b_X5_key_6 (x1 : Int) (u2 : AV) (u3 : AV) (u4 : AV) (u5 : AV) (u6 : AV) (s0 : Int) (σ : St) : Rx k_X5_key 6 [.inr (.inl (16, 0)), .inl x1, u2, u3, u4, u5, u6] [.inl s0] σ = if s0 = 0 then Rx k_X5_key 17 [.inr (.inl (16, 0)), .inl x1, .inl s0, u3, u4, u5, u6] [] σ else Rx k_X5_key 11 [.inr (.inl (16, 0)), .inl x1, .inl s0, u3, u4, u5, u6] [] σ := by
  exact Rx_eq0 (k := 3) rfl
theorem b_X5_key_11 (x1 : Int) (x2 : Int) (u3 : AV) (u4 : AV) (u5 : AV) (u6 : AV) (σ : St) : Rx k_X5_key 11 [.inr (.inl (16, 0)), .inl x1, .inl x2, u3, u4, u5, u6] [] σ = (Rx k_X5_no 0 [.inr (.inl (16, 0)), .inl x2] [] σ).bind fun q => Rx k_X5_key 16 [.inr (.inl (16, 0)), .inl x1, .inl x2, u3, u4, u5, u6] (q.1.toList ++ []) q.2 := by
  refine (Rx_N (k := 2) (pc' := 13) (ls' := [.inr (.inl (16, 0)), .inl x1, .inl x2, u3, u4, u5, u6]) (st' := [.inl x2, .inr (.inl (16, 0))]) (σ' := σ) rfl).trans ?_
  exact Rx_call (n := 3) (y' := k_X5_no) (as := [.inr (.inl (16, 0)), .inl x2]) (rest := []) rfl rfl rfl
theorem b_X5_key_16 (x1 : Int) (x2 : Int) (u3 : AV) (u4 : AV) (u5 : AV) (u6 : AV) (s0 : Int) (σ : St) : Rx k_X5_key 16 [.inr (.inl (16, 0)), .inl x1, .inl x2, u3, u4, u5, u6] [.inl s0] σ = some (some (.inl s0), σ) := by
  exact Rx_ret rfl rfl
theorem b_X5_key_17 (x1 : Int) (x2 : Int) (u3 : AV) (u4 : AV) (u5 : AV) (u6 : AV) (σ : St) : Rx k_X5_key 17 [.inr (.inl (16, 0)), .inl x1, .inl x2, u3, u4, u5, u6] [] σ = (Rx k_X5_copies 0 [.inr (.inl (17, 0)), .inr (.inl (17, 1)), uns] [] σ).bind fun q => Rx k_X5_key 28 [.inr (.inl (16, 0)), .inl x1, .inl x2, u3, u4, u5, u6] (q.1.toList ++ []) q.2 := by
  refine (Rx_N (k := 4) (pc' := 25) (ls' := [.inr (.inl (16, 0)), .inl x1, .inl x2, u3, u4, u5, u6]) (st' := [.inr (.inl (17, 1)), .inr (.inl (17, 0))]) (σ' := σ) rfl).trans ?_
  exact Rx_call (n := 3) (y' := k_X5_copies) (as := [.inr (.inl (17, 0)), .inr (.inl (17, 1))]) (rest := []) rfl rfl rfl
theorem b_X5_key_28 (x1 : Int) (x2 : Int) (u3 : AV) (u4 : AV) (u5 : AV) (u6 : AV) (σ : St) : Rx k_X5_key 28 [.inr (.inl (16, 0)), .inl x1, .inl x2, u3, u4, u5, u6] [] σ = (Rx k_X5_upIn 0 [.inr (.inl (16, 0)), .inl x1] [] σ).bind fun q => Rx k_X5_key 33 [.inr (.inl (16, 0)), .inl x1, .inl x2, u3, u4, u5, u6] (q.1.toList ++ []) q.2 := by
  refine (Rx_N (k := 2) (pc' := 30) (ls' := [.inr (.inl (16, 0)), .inl x1, .inl x2, u3, u4, u5, u6]) (st' := [.inl x1, .inr (.inl (16, 0))]) (σ' := σ) rfl).trans ?_
  exact Rx_call (n := 3) (y' := k_X5_upIn) (as := [.inr (.inl (16, 0)), .inl x1]) (rest := []) rfl rfl rfl
theorem b_X5_key_33 (x1 : Int) (x2 : Int) (u3 : AV) (u4 : AV) (u5 : AV) (u6 : AV) (s0 : Int) (σ : St) : Rx k_X5_key 33 [.inr (.inl (16, 0)), .inl x1, .inl x2, u3, u4, u5, u6] [.inl s0] σ = Rx k_X5_key 41 [.inr (.inl (16, 0)), .inl x1, .inl x2, .inl s0, .inl (-9), .inl 0, u6] [] σ := by
  refine (Rx_N (k := 5) (pc' := 41) (ls' := [.inr (.inl (16, 0)), .inl x1, .inl x2, .inl s0, .inl (-9), .inl 0, u6]) (st' := []) (σ' := σ) rfl).trans ?_
  rfl
theorem b_X5_key_41 (x1 : Int) (x2 : Int) (x3 : Int) (x4 : Int) (x5 : Int) (u6 : AV) (σ : St) : Rx k_X5_key 41 [.inr (.inl (16, 0)), .inl x1, .inl x2, .inl x3, .inl x4, .inl x5, u6] [] σ = if x5 < (σ 17 0 0) then Rx k_X5_key 52 [.inr (.inl (16, 0)), .inl x1, .inl x2, .inl x3, .inl x4, .inl x5, u6] [] σ else Rx k_X5_key 84 [.inr (.inl (16, 0)), .inl x1, .inl x2, .inl x3, .inl x4, .inl x5, u6] [] σ := by
  exact Rx_ge0 (k := 6) rfl
theorem b_X5_key_52 (x1 : Int) (x2 : Int) (x3 : Int) (x4 : Int) (x5 : Int) (u6 : AV) (σ : St) : Rx k_X5_key 52 [.inr (.inl (16, 0)), .inl x1, .inl x2, .inl x3, .inl x4, .inl x5, u6] [] σ = (Rx k_X5_upWith 0 [.inr (.inl (16, 0)), .inl x5, .inl 0, .inl x1] [] σ).bind fun q => Rx k_X5_key 60 [.inr (.inl (16, 0)), .inl x1, .inl x2, .inl x3, .inl x4, .inl x5, u6] (q.1.toList ++ []) q.2 := by
  refine (Rx_N (k := 4) (pc' := 57) (ls' := [.inr (.inl (16, 0)), .inl x1, .inl x2, .inl x3, .inl x4, .inl x5, u6]) (st' := [.inl x1, .inl 0, .inl x5, .inr (.inl (16, 0))]) (σ' := σ) rfl).trans ?_
  exact Rx_call (n := 3) (y' := k_X5_upWith) (as := [.inr (.inl (16, 0)), .inl x5, .inl 0, .inl x1]) (rest := []) rfl rfl rfl
theorem b_X5_key_60 (x1 : Int) (x2 : Int) (x3 : Int) (x4 : Int) (x5 : Int) (u6 : AV) (s0 : Int) (σ : St) : Rx k_X5_key 60 [.inr (.inl (16, 0)), .inl x1, .inl x2, .inl x3, .inl x4, .inl x5, u6] [.inl s0] σ = if s0 < x3 then Rx k_X5_key 71 [.inr (.inl (16, 0)), .inl x1, .inl x2, .inl x3, .inl x4, .inl x5, .inl s0] [] σ else Rx k_X5_key 68 [.inr (.inl (16, 0)), .inl x1, .inl x2, .inl x3, .inl x4, .inl x5, .inl s0] [] σ := by
  exact Rx_lt0 (k := 4) rfl
theorem r_X5_key_68 (x1 : Int) (x2 : Int) (x3 : Int) (x4 : Int) (x5 : Int) (x6 : Int) (σ : St) : Rx k_X5_key 68 [.inr (.inl (16, 0)), .inl x1, .inl x2, .inl x3, .inl x4, .inl x5, .inl x6] [] σ = Rx k_X5_key 41 [.inr (.inl (16, 0)), .inl x1, .inl x2, .inl x3, .inl x4, .inl (wr (x5 + 1)), .inl x6] [] σ := by
  refine (Rx_N (k := 3) (pc' := 41) (ls' := [.inr (.inl (16, 0)), .inl x1, .inl x2, .inl x3, .inl x4, .inl (wr (x5 + 1)), .inl x6]) (st' := []) (σ' := σ) rfl).trans ?_
  rfl
theorem b_X5_key_68 (x1 : Int) (x2 : Int) (x3 : Int) (x4 : Int) (x5 : Int) (x6 : Int) (σ : St) (g0a : -2147483648 ≤ (x5 + 1)) (g0b : (x5 + 1) < 2147483648) : Rx k_X5_key 68 [.inr (.inl (16, 0)), .inl x1, .inl x2, .inl x3, .inl x4, .inl x5, .inl x6] [] σ = Rx k_X5_key 41 [.inr (.inl (16, 0)), .inl x1, .inl x2, .inl x3, .inl x4, .inl (x5 + 1), .inl x6] [] σ := by
  have e0 := wr_id (x := (x5 + 1)) g0a g0b
  have raw := r_X5_key_68 x1 x2 x3 x4 x5 x6 σ 
  simp only [e0] at raw
  exact raw
theorem r_X5_key_71 (x1 : Int) (x2 : Int) (x3 : Int) (x4 : Int) (x5 : Int) (x6 : Int) (σ : St) : Rx k_X5_key 71 [.inr (.inl (16, 0)), .inl x1, .inl x2, .inl x3, .inl x4, .inl x5, .inl x6] [] σ = Rx k_X5_key 41 [.inr (.inl (16, 0)), .inl x1, .inl x2, .inl x6, .inl x5, .inl (wr (x5 + 1)), .inl x6] [] σ := by
  refine (Rx_N (k := 6) (pc' := 41) (ls' := [.inr (.inl (16, 0)), .inl x1, .inl x2, .inl x6, .inl x5, .inl (wr (x5 + 1)), .inl x6]) (st' := []) (σ' := σ) rfl).trans ?_
  rfl
theorem b_X5_key_71 (x1 : Int) (x2 : Int) (x3 : Int) (x4 : Int) (x5 : Int) (x6 : Int) (σ : St) (g0a : -2147483648 ≤ (x5 + 1)) (g0b : (x5 + 1) < 2147483648) : Rx k_X5_key 71 [.inr (.inl (16, 0)), .inl x1, .inl x2, .inl x3, .inl x4, .inl x5, .inl x6] [] σ = Rx k_X5_key 41 [.inr (.inl (16, 0)), .inl x1, .inl x2, .inl x6, .inl x5, .inl (x5 + 1), .inl x6] [] σ := by
  have e0 := wr_id (x := (x5 + 1)) g0a g0b
  have raw := r_X5_key_71 x1 x2 x3 x4 x5 x6 σ 
  simp only [e0] at raw
  exact raw
theorem b_X5_key_84 (x1 : Int) (x2 : Int) (x3 : Int) (x4 : Int) (x5 : Int) (u6 : AV) (σ : St) : Rx k_X5_key 84 [.inr (.inl (16, 0)), .inl x1, .inl x2, .inl x3, .inl x4, .inl x5, u6] [] σ = some (some (.inl x4), σ) := by
  refine (Rx_N (k := 1) (pc' := 86) (ls' := [.inr (.inl (16, 0)), .inl x1, .inl x2, .inl x3, .inl x4, .inl x5, u6]) (st' := [.inl x4]) (σ' := σ) rfl).trans ?_
  exact Rx_ret rfl rfl
theorem b_X5_takes_0 (x1 : Int) (x2 : Int) (u3 : AV) (u4 : AV) (σ : St) : Rx k_X5_takes 0 [.inr (.inl (16, 0)), .inl x1, .inl x2, u3, u4] [] σ = (Rx k_X5_isPurpose 0 [.inr (.inl (16, 0)), .inl x1] [] σ).bind fun q => Rx k_X5_takes 5 [.inr (.inl (16, 0)), .inl x1, .inl x2, u3, u4] (q.1.toList ++ []) q.2 := by
  refine (Rx_N (k := 2) (pc' := 2) (ls' := [.inr (.inl (16, 0)), .inl x1, .inl x2, u3, u4]) (st' := [.inl x1, .inr (.inl (16, 0))]) (σ' := σ) rfl).trans ?_
  exact Rx_call (n := 3) (y' := k_X5_isPurpose) (as := [.inr (.inl (16, 0)), .inl x1]) (rest := []) rfl rfl rfl
theorem b_X5_takes_5 (x1 : Int) (x2 : Int) (u3 : AV) (u4 : AV) (s0 : Int) (σ : St) : Rx k_X5_takes 5 [.inr (.inl (16, 0)), .inl x1, .inl x2, u3, u4] [.inl s0] σ = if s0 = 0 then Rx k_X5_takes 17 [.inr (.inl (16, 0)), .inl x1, .inl x2, u3, u4] [] σ else Rx k_X5_takes 8 [.inr (.inl (16, 0)), .inl x1, .inl x2, u3, u4] [] σ := by
  exact Rx_eq0 (k := 1) rfl
theorem b_X5_takes_8 (x1 : Int) (x2 : Int) (u3 : AV) (u4 : AV) (σ : St) : Rx k_X5_takes 8 [.inr (.inl (16, 0)), .inl x1, .inl x2, u3, u4] [] σ = (Rx k_X5_wrongBy 0 [.inl x2, .inl 99] [] σ).bind fun q => Rx k_X5_takes 14 [.inr (.inl (16, 0)), .inl x1, .inl x2, u3, u4] (q.1.toList ++ []) q.2 := by
  refine (Rx_N (k := 2) (pc' := 11) (ls' := [.inr (.inl (16, 0)), .inl x1, .inl x2, u3, u4]) (st' := [.inl 99, .inl x2]) (σ' := σ) rfl).trans ?_
  exact Rx_call (n := 3) (y' := k_X5_wrongBy) (as := [.inl x2, .inl 99]) (rest := []) rfl rfl rfl
theorem b_X5_takes_14 (x1 : Int) (x2 : Int) (u3 : AV) (u4 : AV) (s0 : Int) (σ : St) : Rx k_X5_takes 14 [.inr (.inl (16, 0)), .inl x1, .inl x2, u3, u4] [.inl s0] σ = if s0 = 0 then Rx k_X5_takes 29 [.inr (.inl (16, 0)), .inl x1, .inl x2, .inl s0, u4] [] σ else Rx k_X5_takes 23 [.inr (.inl (16, 0)), .inl x1, .inl x2, .inl s0, u4] [] σ := by
  exact Rx_eq0 (k := 4) rfl
theorem b_X5_takes_17 (x1 : Int) (x2 : Int) (u3 : AV) (u4 : AV) (σ : St) : Rx k_X5_takes 17 [.inr (.inl (16, 0)), .inl x1, .inl x2, u3, u4] [] σ = if ((-1) : Int) = (0 : Int) then Rx k_X5_takes 29 [.inr (.inl (16, 0)), .inl x1, .inl x2, .inl (-1), u4] [] σ else Rx k_X5_takes 23 [.inr (.inl (16, 0)), .inl x1, .inl x2, .inl (-1), u4] [] σ := by
  exact Rx_eq0 (k := 4) rfl
theorem b_X5_takes_23 (x1 : Int) (x2 : Int) (x3 : Int) (u4 : AV) (σ : St) : Rx k_X5_takes 23 [.inr (.inl (16, 0)), .inl x1, .inl x2, .inl x3, u4] [] σ = (Rx k_X5_no 0 [.inr (.inl (16, 0)), .inl x3] [] σ).bind fun q => Rx k_X5_takes 28 [.inr (.inl (16, 0)), .inl x1, .inl x2, .inl x3, u4] (q.1.toList ++ []) q.2 := by
  refine (Rx_N (k := 2) (pc' := 25) (ls' := [.inr (.inl (16, 0)), .inl x1, .inl x2, .inl x3, u4]) (st' := [.inl x3, .inr (.inl (16, 0))]) (σ' := σ) rfl).trans ?_
  exact Rx_call (n := 3) (y' := k_X5_no) (as := [.inr (.inl (16, 0)), .inl x3]) (rest := []) rfl rfl rfl
theorem b_X5_takes_28 (x1 : Int) (x2 : Int) (x3 : Int) (u4 : AV) (s0 : Int) (σ : St) : Rx k_X5_takes 28 [.inr (.inl (16, 0)), .inl x1, .inl x2, .inl x3, u4] [.inl s0] σ = some (some (.inl s0), σ) := by
  exact Rx_ret rfl rfl
theorem b_X5_takes_29 (x1 : Int) (x2 : Int) (x3 : Int) (u4 : AV) (σ : St) : Rx k_X5_takes 29 [.inr (.inl (16, 0)), .inl x1, .inl x2, .inl x3, u4] [] σ = (Rx k_X5_takesOn 0 [.inr (.inl (16, 0)), .inl x2] [] σ).bind fun q => Rx k_X5_takes 34 [.inr (.inl (16, 0)), .inl x1, .inl x2, .inl x3, u4] (q.1.toList ++ []) q.2 := by
  refine (Rx_N (k := 2) (pc' := 31) (ls' := [.inr (.inl (16, 0)), .inl x1, .inl x2, .inl x3, u4]) (st' := [.inl x2, .inr (.inl (16, 0))]) (σ' := σ) rfl).trans ?_
  exact Rx_call (n := 3) (y' := k_X5_takesOn) (as := [.inr (.inl (16, 0)), .inl x2]) (rest := []) rfl rfl rfl
theorem b_X5_takes_34 (x1 : Int) (x2 : Int) (x3 : Int) (u4 : AV) (σ : St) : Rx k_X5_takes 34 [.inr (.inl (16, 0)), .inl x1, .inl x2, .inl x3, u4] [] σ = (Rx k_X5_spareOf 0 [.inr (.inl (17, 1)), .inl x1] [] σ).bind fun q => Rx k_X5_takes 42 [.inr (.inl (16, 0)), .inl x1, .inl x2, .inl x3, u4] (q.1.toList ++ []) q.2 := by
  refine (Rx_N (k := 3) (pc' := 39) (ls' := [.inr (.inl (16, 0)), .inl x1, .inl x2, .inl x3, u4]) (st' := [.inl x1, .inr (.inl (17, 1))]) (σ' := σ) rfl).trans ?_
  exact Rx_call (n := 3) (y' := k_X5_spareOf) (as := [.inr (.inl (17, 1)), .inl x1]) (rest := []) rfl rfl rfl
theorem b_X5_takes_42 (x1 : Int) (x2 : Int) (x3 : Int) (u4 : AV) (s0 : Int) (σ : St) : Rx k_X5_takes 42 [.inr (.inl (16, 0)), .inl x1, .inl x2, .inl x3, u4] [.inl s0] σ = if s0 < 0 then Rx k_X5_takes 49 [.inr (.inl (16, 0)), .inl x1, .inl x2, .inl x3, .inl s0] [] σ else Rx k_X5_takes 54 [.inr (.inl (16, 0)), .inl x1, .inl x2, .inl x3, .inl s0] [] σ := by
  exact Rx_ge0 (k := 3) rfl
theorem b_X5_takes_49 (x1 : Int) (x2 : Int) (x3 : Int) (x4 : Int) (σ : St) : Rx k_X5_takes 49 [.inr (.inl (16, 0)), .inl x1, .inl x2, .inl x3, .inl x4] [] σ = some (some (.inl (-9)), σ) := by
  refine (Rx_N (k := 2) (pc' := 68) (ls' := [.inr (.inl (16, 0)), .inl x1, .inl x2, .inl x3, .inl x4]) (st' := [.inl (-9)]) (σ' := σ) rfl).trans ?_
  exact Rx_ret rfl rfl
theorem b_X5_takes_54 (x1 : Int) (x2 : Int) (x3 : Int) (x4 : Int) (σ : St) : Rx k_X5_takes 54 [.inr (.inl (16, 0)), .inl x1, .inl x2, .inl x3, .inl x4] [] σ = if 9 < x4 then Rx k_X5_takes 61 [.inr (.inl (16, 0)), .inl x1, .inl x2, .inl x3, .inl x4] [] σ else Rx k_X5_takes 66 [.inr (.inl (16, 0)), .inl x1, .inl x2, .inl x3, .inl x4] [] σ := by
  exact Rx_le0 (k := 3) rfl
theorem b_X5_takes_61 (x1 : Int) (x2 : Int) (x3 : Int) (x4 : Int) (σ : St) : Rx k_X5_takes 61 [.inr (.inl (16, 0)), .inl x1, .inl x2, .inl x3, .inl x4] [] σ = some (some (.inl 9), σ) := by
  refine (Rx_N (k := 2) (pc' := 68) (ls' := [.inr (.inl (16, 0)), .inl x1, .inl x2, .inl x3, .inl x4]) (st' := [.inl 9]) (σ' := σ) rfl).trans ?_
  exact Rx_ret rfl rfl
theorem b_X5_takes_66 (x1 : Int) (x2 : Int) (x3 : Int) (x4 : Int) (σ : St) : Rx k_X5_takes 66 [.inr (.inl (16, 0)), .inl x1, .inl x2, .inl x3, .inl x4] [] σ = some (some (.inl x4), σ) := by
  refine (Rx_N (k := 1) (pc' := 68) (ls' := [.inr (.inl (16, 0)), .inl x1, .inl x2, .inl x3, .inl x4]) (st' := [.inl x4]) (σ' := σ) rfl).trans ?_
  exact Rx_ret rfl rfl
theorem b_X5_weightOf_0 (x1 : Int) (u2 : AV) (u3 : AV) (σ : St) : Rx k_X5_weightOf 0 [.inr (.inl (16, 0)), .inl x1, u2, u3] [] σ = Rx k_X5_weightOf 4 [.inr (.inl (16, 0)), .inl x1, .inl 0, .inl 0] [] σ := by
  refine (Rx_N (k := 4) (pc' := 4) (ls' := [.inr (.inl (16, 0)), .inl x1, .inl 0, .inl 0]) (st' := []) (σ' := σ) rfl).trans ?_
  rfl
theorem b_X5_weightOf_4 (x1 : Int) (x2 : Int) (x3 : Int) (σ : St) : Rx k_X5_weightOf 4 [.inr (.inl (16, 0)), .inl x1, .inl x2, .inl x3] [] σ = if x3 < (σ 17 0 1) then Rx k_X5_weightOf 14 [.inr (.inl (16, 0)), .inl x1, .inl x2, .inl x3] [] σ else Rx k_X5_weightOf 47 [.inr (.inl (16, 0)), .inl x1, .inl x2, .inl x3] [] σ := by
  exact Rx_ge0 (k := 6) rfl
theorem b_X5_weightOf_14 (x1 : Int) (x2 : Int) (x3 : Int) (σ : St) : Rx k_X5_weightOf 14 [.inr (.inl (16, 0)), .inl x1, .inl x2, .inl x3] [] σ = if (bAnd (bShr x1 x3) 1) = 1 then Rx k_X5_weightOf 24 [.inr (.inl (16, 0)), .inl x1, .inl x2, .inl x3] [.inl x2] σ else Rx k_X5_weightOf 38 [.inr (.inl (16, 0)), .inl x1, .inl x2, .inl x3] [.inl x2] σ := by
  exact Rx_ne0 (k := 8) rfl
theorem b_X5_weightOf_24 (x1 : Int) (x2 : Int) (x3 : Int) (s0 : Int) (σ : St) : Rx k_X5_weightOf 24 [.inr (.inl (16, 0)), .inl x1, .inl x2, .inl x3] [.inl s0] σ = (Rx k_X5_ofT 0 [.inl x3] [] σ).bind fun q => Rx k_X5_weightOf 32 [.inr (.inl (16, 0)), .inl x1, .inl x2, .inl x3] (q.1.toList ++ [.inr (.inl (17, 0)), .inl s0]) q.2 := by
  refine (Rx_N (k := 3) (pc' := 29) (ls' := [.inr (.inl (16, 0)), .inl x1, .inl x2, .inl x3]) (st' := [.inl x3, .inr (.inl (17, 0)), .inl s0]) (σ' := σ) rfl).trans ?_
  exact Rx_call (n := 3) (y' := k_X5_ofT) (as := [.inl x3]) (rest := [.inr (.inl (17, 0)), .inl s0]) rfl rfl rfl
theorem r_X5_weightOf_32 (x1 : Int) (x2 : Int) (x3 : Int) (s2 : Int) (s0 : Int) (σ : St) (h0 : 0 ≤ (wr (s2 + 0))) (h1 : (wr (s2 + 0)) < 58) : Rx k_X5_weightOf 32 [.inr (.inl (16, 0)), .inl x1, .inl x2, .inl x3] [.inl s2, .inr (.inl (17, 0)), .inl s0] σ = Rx k_X5_weightOf 4 [.inr (.inl (16, 0)), .inl x1, .inl (wr (s0 + (σ 17 0 (wr (s2 + 0)).toNat))), .inl (wr (x3 + 1))] [] σ := by
  refine (Rx_N (k := 2) (pc' := 34) (ls' := [.inr (.inl (16, 0)), .inl x1, .inl x2, .inl x3]) (st' := [.inl (wr (s2 + 0)), .inr (.inl (17, 0)), .inl s0]) (σ' := σ) rfl).trans ?_
  refine (Rx_ild 58 rfl rfl rfl h0 h1).trans ?_
  refine (Rx_N (k := 5) (pc' := 4) (ls' := [.inr (.inl (16, 0)), .inl x1, .inl (wr (s0 + (σ 17 0 (wr (s2 + 0)).toNat))), .inl (wr (x3 + 1))]) (st' := []) (σ' := σ) rfl).trans ?_
  rfl
theorem b_X5_weightOf_32 (x1 : Int) (x2 : Int) (x3 : Int) (s2 : Int) (s0 : Int) (σ : St) (h0 : 0 ≤ (s2 + 0)) (h1 : (s2 + 0) < 58) (g0a : -2147483648 ≤ (s2 + 0)) (g0b : (s2 + 0) < 2147483648) (g1a : -2147483648 ≤ (x3 + 1)) (g1b : (x3 + 1) < 2147483648) (g2a : -2147483648 ≤ (s0 + (σ 17 0 (s2 + 0).toNat))) (g2b : (s0 + (σ 17 0 (s2 + 0).toNat)) < 2147483648) : Rx k_X5_weightOf 32 [.inr (.inl (16, 0)), .inl x1, .inl x2, .inl x3] [.inl s2, .inr (.inl (17, 0)), .inl s0] σ = Rx k_X5_weightOf 4 [.inr (.inl (16, 0)), .inl x1, .inl (s0 + (σ 17 0 (s2 + 0).toNat)), .inl (x3 + 1)] [] σ := by
  have e0 := wr_id (x := (s2 + 0)) g0a g0b
  have e1 := wr_id (x := (x3 + 1)) g1a g1b
  have e2 := wr_id (x := (s0 + (σ 17 0 (s2 + 0).toNat))) g2a g2b
  have raw := r_X5_weightOf_32 x1 x2 x3 s2 s0 σ (by simp only [e0, e1, e2]; exact h0) (by simp only [e0, e1, e2]; exact h1)
  simp only [e0, e1, e2] at raw
  exact raw
theorem r_X5_weightOf_38 (x1 : Int) (x2 : Int) (x3 : Int) (s0 : Int) (σ : St) : Rx k_X5_weightOf 38 [.inr (.inl (16, 0)), .inl x1, .inl x2, .inl x3] [.inl s0] σ = Rx k_X5_weightOf 4 [.inr (.inl (16, 0)), .inl x1, .inl (wr (s0 + 0)), .inl (wr (x3 + 1))] [] σ := by
  refine (Rx_N (k := 5) (pc' := 4) (ls' := [.inr (.inl (16, 0)), .inl x1, .inl (wr (s0 + 0)), .inl (wr (x3 + 1))]) (st' := []) (σ' := σ) rfl).trans ?_
  rfl
theorem b_X5_weightOf_38 (x1 : Int) (x2 : Int) (x3 : Int) (s0 : Int) (σ : St) (g0a : -2147483648 ≤ (s0 + 0)) (g0b : (s0 + 0) < 2147483648) (g1a : -2147483648 ≤ (x3 + 1)) (g1b : (x3 + 1) < 2147483648) : Rx k_X5_weightOf 38 [.inr (.inl (16, 0)), .inl x1, .inl x2, .inl x3] [.inl s0] σ = Rx k_X5_weightOf 4 [.inr (.inl (16, 0)), .inl x1, .inl (s0 + 0), .inl (x3 + 1)] [] σ := by
  have e0 := wr_id (x := (s0 + 0)) g0a g0b
  have e1 := wr_id (x := (x3 + 1)) g1a g1b
  have raw := r_X5_weightOf_38 x1 x2 x3 s0 σ 
  simp only [e0, e1] at raw
  exact raw
theorem b_X5_weightOf_47 (x1 : Int) (x2 : Int) (x3 : Int) (σ : St) : Rx k_X5_weightOf 47 [.inr (.inl (16, 0)), .inl x1, .inl x2, .inl x3] [] σ = some (some (.inl x2), σ) := by
  refine (Rx_N (k := 1) (pc' := 48) (ls' := [.inr (.inl (16, 0)), .inl x1, .inl x2, .inl x3]) (st' := [.inl x2]) (σ' := σ) rfl).trans ?_
  exact Rx_ret rfl rfl
theorem b_X5_balanced_0 (x1 : Int) (x2 : Int) (u3 : AV) (u4 : AV) (u5 : AV) (σ : St) : Rx k_X5_balanced 0 [.inr (.inl (16, 0)), .inl x1, .inl x2, u3, u4, u5] [] σ = (Rx k_X5_isPurpose 0 [.inr (.inl (16, 0)), .inl x1] [] σ).bind fun q => Rx k_X5_balanced 5 [.inr (.inl (16, 0)), .inl x1, .inl x2, u3, u4, u5] (q.1.toList ++ []) q.2 := by
  refine (Rx_N (k := 2) (pc' := 2) (ls' := [.inr (.inl (16, 0)), .inl x1, .inl x2, u3, u4, u5]) (st' := [.inl x1, .inr (.inl (16, 0))]) (σ' := σ) rfl).trans ?_
  exact Rx_call (n := 3) (y' := k_X5_isPurpose) (as := [.inr (.inl (16, 0)), .inl x1]) (rest := []) rfl rfl rfl
theorem b_X5_balanced_5 (x1 : Int) (x2 : Int) (u3 : AV) (u4 : AV) (u5 : AV) (s0 : Int) (σ : St) : Rx k_X5_balanced 5 [.inr (.inl (16, 0)), .inl x1, .inl x2, u3, u4, u5] [.inl s0] σ = if s0 = 0 then Rx k_X5_balanced 8 [.inr (.inl (16, 0)), .inl x1, .inl x2, u3, u4, u5] [] σ else Rx k_X5_balanced 14 [.inr (.inl (16, 0)), .inl x1, .inl x2, u3, u4, u5] [] σ := by
  exact Rx_ne0 (k := 1) rfl
theorem b_X5_balanced_8 (x1 : Int) (x2 : Int) (u3 : AV) (u4 : AV) (u5 : AV) (σ : St) : Rx k_X5_balanced 8 [.inr (.inl (16, 0)), .inl x1, .inl x2, u3, u4, u5] [] σ = (Rx k_X5_no 0 [.inr (.inl (16, 0)), .inl (-1)] [] σ).bind fun q => Rx k_X5_balanced 13 [.inr (.inl (16, 0)), .inl x1, .inl x2, u3, u4, u5] (q.1.toList ++ []) q.2 := by
  refine (Rx_N (k := 2) (pc' := 10) (ls' := [.inr (.inl (16, 0)), .inl x1, .inl x2, u3, u4, u5]) (st' := [.inl (-1), .inr (.inl (16, 0))]) (σ' := σ) rfl).trans ?_
  exact Rx_call (n := 3) (y' := k_X5_no) (as := [.inr (.inl (16, 0)), .inl (-1)]) (rest := []) rfl rfl rfl
theorem b_X5_balanced_13 (x1 : Int) (x2 : Int) (u3 : AV) (u4 : AV) (u5 : AV) (s0 : Int) (σ : St) : Rx k_X5_balanced 13 [.inr (.inl (16, 0)), .inl x1, .inl x2, u3, u4, u5] [.inl s0] σ = some (some (.inl s0), σ) := by
  exact Rx_ret rfl rfl
theorem b_X5_balanced_14 (x1 : Int) (x2 : Int) (u3 : AV) (u4 : AV) (u5 : AV) (σ : St) : Rx k_X5_balanced 14 [.inr (.inl (16, 0)), .inl x1, .inl x2, u3, u4, u5] [] σ = (Rx k_X5_isIn 0 [.inl x2, .inl 0, .inl 1] [] σ).bind fun q => Rx k_X5_balanced 20 [.inr (.inl (16, 0)), .inl x1, .inl x2, u3, u4, u5] (q.1.toList ++ []) q.2 := by
  refine (Rx_N (k := 3) (pc' := 17) (ls' := [.inr (.inl (16, 0)), .inl x1, .inl x2, u3, u4, u5]) (st' := [.inl 1, .inl 0, .inl x2]) (σ' := σ) rfl).trans ?_
  exact Rx_call (n := 3) (y' := k_X5_isIn) (as := [.inl x2, .inl 0, .inl 1]) (rest := []) rfl rfl rfl
theorem b_X5_balanced_20 (x1 : Int) (x2 : Int) (u3 : AV) (u4 : AV) (u5 : AV) (s0 : Int) (σ : St) : Rx k_X5_balanced 20 [.inr (.inl (16, 0)), .inl x1, .inl x2, u3, u4, u5] [.inl s0] σ = if s0 = 0 then Rx k_X5_balanced 23 [.inr (.inl (16, 0)), .inl x1, .inl x2, u3, u4, u5] [] σ else Rx k_X5_balanced 30 [.inr (.inl (16, 0)), .inl x1, .inl x2, u3, u4, u5] [] σ := by
  exact Rx_ne0 (k := 1) rfl
theorem b_X5_balanced_23 (x1 : Int) (x2 : Int) (u3 : AV) (u4 : AV) (u5 : AV) (σ : St) : Rx k_X5_balanced 23 [.inr (.inl (16, 0)), .inl x1, .inl x2, u3, u4, u5] [] σ = (Rx k_X5_no 0 [.inr (.inl (16, 0)), .inl (-2)] [] σ).bind fun q => Rx k_X5_balanced 29 [.inr (.inl (16, 0)), .inl x1, .inl x2, u3, u4, u5] (q.1.toList ++ []) q.2 := by
  refine (Rx_N (k := 2) (pc' := 26) (ls' := [.inr (.inl (16, 0)), .inl x1, .inl x2, u3, u4, u5]) (st' := [.inl (-2), .inr (.inl (16, 0))]) (σ' := σ) rfl).trans ?_
  exact Rx_call (n := 3) (y' := k_X5_no) (as := [.inr (.inl (16, 0)), .inl (-2)]) (rest := []) rfl rfl rfl
theorem b_X5_balanced_29 (x1 : Int) (x2 : Int) (u3 : AV) (u4 : AV) (u5 : AV) (s0 : Int) (σ : St) : Rx k_X5_balanced 29 [.inr (.inl (16, 0)), .inl x1, .inl x2, u3, u4, u5] [.inl s0] σ = some (some (.inl s0), σ) := by
  exact Rx_ret rfl rfl
theorem b_X5_balanced_30 (x1 : Int) (x2 : Int) (u3 : AV) (u4 : AV) (u5 : AV) (σ : St) : Rx k_X5_balanced 30 [.inr (.inl (16, 0)), .inl x1, .inl x2, u3, u4, u5] [] σ = (Rx k_X5_upSet 0 [.inr (.inl (17, 0)), uns, uns] [] σ).bind fun q => Rx k_X5_balanced 37 [.inr (.inl (16, 0)), .inl x1, .inl x2, u3, u4, u5] (q.1.toList ++ []) q.2 := by
  refine (Rx_N (k := 2) (pc' := 34) (ls' := [.inr (.inl (16, 0)), .inl x1, .inl x2, u3, u4, u5]) (st' := [.inr (.inl (17, 0))]) (σ' := σ) rfl).trans ?_
  exact Rx_call (n := 3) (y' := k_X5_upSet) (as := [.inr (.inl (17, 0))]) (rest := []) rfl rfl rfl
theorem b_X5_balanced_37 (x1 : Int) (x2 : Int) (u3 : AV) (u4 : AV) (u5 : AV) (s0 : Int) (σ : St) : Rx k_X5_balanced 37 [.inr (.inl (16, 0)), .inl x1, .inl x2, u3, u4, u5] [.inl s0] σ = Rx k_X5_balanced 44 [.inr (.inl (16, 0)), .inl x1, .inl x2, .inl s0, .inl 0, .inl 0] [] σ := by
  refine (Rx_N (k := 5) (pc' := 44) (ls' := [.inr (.inl (16, 0)), .inl x1, .inl x2, .inl s0, .inl 0, .inl 0]) (st' := []) (σ' := σ) rfl).trans ?_
  rfl
theorem b_X5_balanced_44 (x1 : Int) (x2 : Int) (x3 : Int) (x4 : Int) (x5 : Int) (σ : St) : Rx k_X5_balanced 44 [.inr (.inl (16, 0)), .inl x1, .inl x2, .inl x3, .inl x4, .inl x5] [] σ = if x3 < x5 then Rx k_X5_balanced 102 [.inr (.inl (16, 0)), .inl x1, .inl x2, .inl x3, .inl x4, .inl x5] [] σ else Rx k_X5_balanced 50 [.inr (.inl (16, 0)), .inl x1, .inl x2, .inl x3, .inl x4, .inl x5] [] σ := by
  exact Rx_gt0 (k := 3) rfl
theorem b_X5_balanced_50 (x1 : Int) (x2 : Int) (x3 : Int) (x4 : Int) (x5 : Int) (σ : St) : Rx k_X5_balanced 50 [.inr (.inl (16, 0)), .inl x1, .inl x2, .inl x3, .inl x4, .inl x5] [] σ = if (bAnd x5 (bXor x3 (-1))) = 0 then Rx k_X5_balanced 59 [.inr (.inl (16, 0)), .inl x1, .inl x2, .inl x3, .inl x4, .inl x5] [] σ else Rx k_X5_balanced 96 [.inr (.inl (16, 0)), .inl x1, .inl x2, .inl x3, .inl x4, .inl x5] [] σ := by
  exact Rx_ne0 (k := 6) rfl
theorem b_X5_balanced_59 (x1 : Int) (x2 : Int) (x3 : Int) (x4 : Int) (x5 : Int) (σ : St) : Rx k_X5_balanced 59 [.inr (.inl (16, 0)), .inl x1, .inl x2, .inl x3, .inl x4, .inl x5] [] σ = (Rx k_X5_bits 0 [.inl x5, uns, uns] [] σ).bind fun q => Rx k_X5_balanced 64 [.inr (.inl (16, 0)), .inl x1, .inl x2, .inl x3, .inl x4, .inl x5] (q.1.toList ++ []) q.2 := by
  refine (Rx_N (k := 1) (pc' := 61) (ls' := [.inr (.inl (16, 0)), .inl x1, .inl x2, .inl x3, .inl x4, .inl x5]) (st' := [.inl x5]) (σ' := σ) rfl).trans ?_
  exact Rx_call (n := 3) (y' := k_X5_bits) (as := [.inl x5]) (rest := []) rfl rfl rfl
theorem b_X5_balanced_64 (x1 : Int) (x2 : Int) (x3 : Int) (x4 : Int) (x5 : Int) (s0 : Int) (σ : St) : Rx k_X5_balanced 64 [.inr (.inl (16, 0)), .inl x1, .inl x2, .inl x3, .inl x4, .inl x5] [.inl s0] σ = (Rx k_X5_bits 0 [.inl x4, uns, uns] [] σ).bind fun q => Rx k_X5_balanced 69 [.inr (.inl (16, 0)), .inl x1, .inl x2, .inl x3, .inl x4, .inl x5] (q.1.toList ++ [.inl s0]) q.2 := by
  refine (Rx_N (k := 1) (pc' := 66) (ls' := [.inr (.inl (16, 0)), .inl x1, .inl x2, .inl x3, .inl x4, .inl x5]) (st' := [.inl x4, .inl s0]) (σ' := σ) rfl).trans ?_
  exact Rx_call (n := 3) (y' := k_X5_bits) (as := [.inl x4]) (rest := [.inl s0]) rfl rfl rfl
theorem b_X5_balanced_69 (x1 : Int) (x2 : Int) (x3 : Int) (x4 : Int) (x5 : Int) (s1 : Int) (s0 : Int) (σ : St) : Rx k_X5_balanced 69 [.inr (.inl (16, 0)), .inl x1, .inl x2, .inl x3, .inl x4, .inl x5] [.inl s1, .inl s0] σ = if s1 < s0 then Rx k_X5_balanced 72 [.inr (.inl (16, 0)), .inl x1, .inl x2, .inl x3, .inl x4, .inl x5] [] σ else Rx k_X5_balanced 96 [.inr (.inl (16, 0)), .inl x1, .inl x2, .inl x3, .inl x4, .inl x5] [] σ := by
  exact Rx_le0 (k := 1) rfl
theorem b_X5_balanced_72 (x1 : Int) (x2 : Int) (x3 : Int) (x4 : Int) (x5 : Int) (σ : St) : Rx k_X5_balanced 72 [.inr (.inl (16, 0)), .inl x1, .inl x2, .inl x3, .inl x4, .inl x5] [] σ = (Rx k_X5_weightOf 0 [.inr (.inl (16, 0)), .inl x5, uns, uns] [] σ).bind fun q => Rx k_X5_balanced 78 [.inr (.inl (16, 0)), .inl x1, .inl x2, .inl x3, .inl x4, .inl x5] (q.1.toList ++ []) q.2 := by
  refine (Rx_N (k := 2) (pc' := 75) (ls' := [.inr (.inl (16, 0)), .inl x1, .inl x2, .inl x3, .inl x4, .inl x5]) (st' := [.inl x5, .inr (.inl (16, 0))]) (σ' := σ) rfl).trans ?_
  exact Rx_call (n := 3) (y' := k_X5_weightOf) (as := [.inr (.inl (16, 0)), .inl x5]) (rest := []) rfl rfl rfl
theorem b_X5_balanced_78 (x1 : Int) (x2 : Int) (x3 : Int) (x4 : Int) (x5 : Int) (s0 : Int) (σ : St) : Rx k_X5_balanced 78 [.inr (.inl (16, 0)), .inl x1, .inl x2, .inl x3, .inl x4, .inl x5] [.inl s0] σ = (Rx k_X5_ofP 0 [.inl x1] [] σ).bind fun q => Rx k_X5_balanced 86 [.inr (.inl (16, 0)), .inl x1, .inl x2, .inl x3, .inl x4, .inl x5] (q.1.toList ++ [.inr (.inl (17, 0)), .inl s0]) q.2 := by
  refine (Rx_N (k := 3) (pc' := 83) (ls' := [.inr (.inl (16, 0)), .inl x1, .inl x2, .inl x3, .inl x4, .inl x5]) (st' := [.inl x1, .inr (.inl (17, 0)), .inl s0]) (σ' := σ) rfl).trans ?_
  exact Rx_call (n := 3) (y' := k_X5_ofP) (as := [.inl x1]) (rest := [.inr (.inl (17, 0)), .inl s0]) rfl rfl rfl
theorem r_X5_balanced_86 (x1 : Int) (x2 : Int) (x3 : Int) (x4 : Int) (x5 : Int) (s2 : Int) (s0 : Int) (σ : St) (h0 : 0 ≤ (wr (s2 + 2))) (h1 : (wr (s2 + 2)) < 58) : Rx k_X5_balanced 86 [.inr (.inl (16, 0)), .inl x1, .inl x2, .inl x3, .inl x4, .inl x5] [.inl s2, .inr (.inl (17, 0)), .inl s0] σ = if (σ 17 0 (wr (s2 + 2)).toNat) < s0 then Rx k_X5_balanced 96 [.inr (.inl (16, 0)), .inl x1, .inl x2, .inl x3, .inl x4, .inl x5] [] σ else Rx k_X5_balanced 92 [.inr (.inl (16, 0)), .inl x1, .inl x2, .inl x3, .inl x4, .inl x5] [] σ := by
  refine (Rx_N (k := 2) (pc' := 88) (ls' := [.inr (.inl (16, 0)), .inl x1, .inl x2, .inl x3, .inl x4, .inl x5]) (st' := [.inl (wr (s2 + 2)), .inr (.inl (17, 0)), .inl s0]) (σ' := σ) rfl).trans ?_
  refine (Rx_ild 58 rfl rfl rfl h0 h1).trans ?_
  exact Rx_gt0 (k := 1) rfl
theorem b_X5_balanced_86 (x1 : Int) (x2 : Int) (x3 : Int) (x4 : Int) (x5 : Int) (s2 : Int) (s0 : Int) (σ : St) (h0 : 0 ≤ (s2 + 2)) (h1 : (s2 + 2) < 58) (g0a : -2147483648 ≤ (s2 + 2)) (g0b : (s2 + 2) < 2147483648) : Rx k_X5_balanced 86 [.inr (.inl (16, 0)), .inl x1, .inl x2, .inl x3, .inl x4, .inl x5] [.inl s2, .inr (.inl (17, 0)), .inl s0] σ = if (σ 17 0 (s2 + 2).toNat) < s0 then Rx k_X5_balanced 96 [.inr (.inl (16, 0)), .inl x1, .inl x2, .inl x3, .inl x4, .inl x5] [] σ else Rx k_X5_balanced 92 [.inr (.inl (16, 0)), .inl x1, .inl x2, .inl x3, .inl x4, .inl x5] [] σ := by
  have e0 := wr_id (x := (s2 + 2)) g0a g0b
  have raw := r_X5_balanced_86 x1 x2 x3 x4 x5 s2 s0 σ (by simp only [e0]; exact h0) (by simp only [e0]; exact h1)
  simp only [e0] at raw
  exact raw
theorem r_X5_balanced_92 (x1 : Int) (x2 : Int) (x3 : Int) (x4 : Int) (x5 : Int) (σ : St) : Rx k_X5_balanced 92 [.inr (.inl (16, 0)), .inl x1, .inl x2, .inl x3, .inl x4, .inl x5] [] σ = Rx k_X5_balanced 44 [.inr (.inl (16, 0)), .inl x1, .inl x2, .inl x3, .inl x5, .inl (wr (x5 + 1))] [] σ := by
  refine (Rx_N (k := 4) (pc' := 44) (ls' := [.inr (.inl (16, 0)), .inl x1, .inl x2, .inl x3, .inl x5, .inl (wr (x5 + 1))]) (st' := []) (σ' := σ) rfl).trans ?_
  rfl
theorem b_X5_balanced_92 (x1 : Int) (x2 : Int) (x3 : Int) (x4 : Int) (x5 : Int) (σ : St) (g0a : -2147483648 ≤ (x5 + 1)) (g0b : (x5 + 1) < 2147483648) : Rx k_X5_balanced 92 [.inr (.inl (16, 0)), .inl x1, .inl x2, .inl x3, .inl x4, .inl x5] [] σ = Rx k_X5_balanced 44 [.inr (.inl (16, 0)), .inl x1, .inl x2, .inl x3, .inl x5, .inl (x5 + 1)] [] σ := by
  have e0 := wr_id (x := (x5 + 1)) g0a g0b
  have raw := r_X5_balanced_92 x1 x2 x3 x4 x5 σ 
  simp only [e0] at raw
  exact raw
theorem r_X5_balanced_96 (x1 : Int) (x2 : Int) (x3 : Int) (x4 : Int) (x5 : Int) (σ : St) : Rx k_X5_balanced 96 [.inr (.inl (16, 0)), .inl x1, .inl x2, .inl x3, .inl x4, .inl x5] [] σ = Rx k_X5_balanced 44 [.inr (.inl (16, 0)), .inl x1, .inl x2, .inl x3, .inl x4, .inl (wr (x5 + 1))] [] σ := by
  refine (Rx_N (k := 2) (pc' := 44) (ls' := [.inr (.inl (16, 0)), .inl x1, .inl x2, .inl x3, .inl x4, .inl (wr (x5 + 1))]) (st' := []) (σ' := σ) rfl).trans ?_
  rfl
theorem b_X5_balanced_96 (x1 : Int) (x2 : Int) (x3 : Int) (x4 : Int) (x5 : Int) (σ : St) (g0a : -2147483648 ≤ (x5 + 1)) (g0b : (x5 + 1) < 2147483648) : Rx k_X5_balanced 96 [.inr (.inl (16, 0)), .inl x1, .inl x2, .inl x3, .inl x4, .inl x5] [] σ = Rx k_X5_balanced 44 [.inr (.inl (16, 0)), .inl x1, .inl x2, .inl x3, .inl x4, .inl (x5 + 1)] [] σ := by
  have e0 := wr_id (x := (x5 + 1)) g0a g0b
  have raw := r_X5_balanced_96 x1 x2 x3 x4 x5 σ 
  simp only [e0] at raw
  exact raw
theorem b_X5_balanced_102 (x1 : Int) (x2 : Int) (x3 : Int) (x4 : Int) (x5 : Int) (σ : St) : Rx k_X5_balanced 102 [.inr (.inl (16, 0)), .inl x1, .inl x2, .inl x3, .inl x4, .inl x5] [] σ = if x2 = 0 then Rx k_X5_balanced 106 [.inr (.inl (16, 0)), .inl x1, .inl x2, .inl x3, .inl x4, .inl x5] [] σ else Rx k_X5_balanced 111 [.inr (.inl (16, 0)), .inl x1, .inl x2, .inl x3, .inl x4, .inl x5] [] σ := by
  exact Rx_ne0 (k := 2) rfl
theorem b_X5_balanced_106 (x1 : Int) (x2 : Int) (x3 : Int) (x4 : Int) (x5 : Int) (σ : St) : Rx k_X5_balanced 106 [.inr (.inl (16, 0)), .inl x1, .inl x2, .inl x3, .inl x4, .inl x5] [] σ = some (some (.inl x4), σ) := by
  refine (Rx_N (k := 2) (pc' := 116) (ls' := [.inr (.inl (16, 0)), .inl x1, .inl x2, .inl x3, .inl x4, .inl x5]) (st' := [.inl x4]) (σ' := σ) rfl).trans ?_
  exact Rx_ret rfl rfl
theorem b_X5_balanced_111 (x1 : Int) (x2 : Int) (x3 : Int) (x4 : Int) (x5 : Int) (σ : St) : Rx k_X5_balanced 111 [.inr (.inl (16, 0)), .inl x1, .inl x2, .inl x3, .inl x4, .inl x5] [] σ = (Rx k_X5_bits 0 [.inl x4, uns, uns] [] σ).bind fun q => Rx k_X5_balanced 116 [.inr (.inl (16, 0)), .inl x1, .inl x2, .inl x3, .inl x4, .inl x5] (q.1.toList ++ []) q.2 := by
  refine (Rx_N (k := 1) (pc' := 113) (ls' := [.inr (.inl (16, 0)), .inl x1, .inl x2, .inl x3, .inl x4, .inl x5]) (st' := [.inl x4]) (σ' := σ) rfl).trans ?_
  exact Rx_call (n := 3) (y' := k_X5_bits) (as := [.inl x4]) (rest := []) rfl rfl rfl
theorem b_X5_balanced_116 (x1 : Int) (x2 : Int) (x3 : Int) (x4 : Int) (x5 : Int) (s0 : Int) (σ : St) : Rx k_X5_balanced 116 [.inr (.inl (16, 0)), .inl x1, .inl x2, .inl x3, .inl x4, .inl x5] [.inl s0] σ = some (some (.inl s0), σ) := by
  exact Rx_ret rfl rfl
theorem b_X5_leastToPush_0 (r0 : Nat) (x1 : Int) (u2 : AV) (u3 : AV) (σ : St) : Rx k_X5_leastToPush 0 [.inr (.inl (17, r0)), .inl x1, u2, u3] [] σ = Rx k_X5_leastToPush 2 [.inr (.inl (17, r0)), .inl x1, .inl 0, u3] [] σ := by
  refine (Rx_N (k := 2) (pc' := 2) (ls' := [.inr (.inl (17, r0)), .inl x1, .inl 0, u3]) (st' := []) (σ' := σ) rfl).trans ?_
  rfl
theorem b_X5_leastToPush_2 (r0 : Nat) (x1 : Int) (x2 : Int) (u3 : AV) (σ : St) : Rx k_X5_leastToPush 2 [.inr (.inl (17, r0)), .inl x1, .inl x2, u3] [] σ = if x2 < 20 then Rx k_X5_leastToPush 8 [.inr (.inl (17, r0)), .inl x1, .inl x2, u3] [] σ else Rx k_X5_leastToPush 53 [.inr (.inl (17, r0)), .inl x1, .inl x2, u3] [] σ := by
  exact Rx_ge0 (k := 3) rfl
theorem b_X5_leastToPush_8 (r0 : Nat) (x1 : Int) (x2 : Int) (u3 : AV) (σ : St) : Rx k_X5_leastToPush 8 [.inr (.inl (17, r0)), .inl x1, .inl x2, u3] [] σ = (Rx k_X5_whoAt 0 [.inr (.inl (17, r0)), .inl x2, uns] [] σ).bind fun q => Rx k_X5_leastToPush 13 [.inr (.inl (17, r0)), .inl x1, .inl x2, u3] (q.1.toList ++ []) q.2 := by
  refine (Rx_N (k := 2) (pc' := 10) (ls' := [.inr (.inl (17, r0)), .inl x1, .inl x2, u3]) (st' := [.inl x2, .inr (.inl (17, r0))]) (σ' := σ) rfl).trans ?_
  exact Rx_call (n := 3) (y' := k_X5_whoAt) (as := [.inr (.inl (17, r0)), .inl x2]) (rest := []) rfl rfl rfl
theorem b_X5_leastToPush_13 (r0 : Nat) (x1 : Int) (x2 : Int) (u3 : AV) (s0 : Int) (σ : St) : Rx k_X5_leastToPush 13 [.inr (.inl (17, r0)), .inl x1, .inl x2, u3] [.inl s0] σ = if s0 < 0 then Rx k_X5_leastToPush 47 [.inr (.inl (17, r0)), .inl x1, .inl x2, .inl s0] [] σ else Rx k_X5_leastToPush 18 [.inr (.inl (17, r0)), .inl x1, .inl x2, .inl s0] [] σ := by
  exact Rx_lt0 (k := 3) rfl
theorem b_X5_leastToPush_18 (r0 : Nat) (x1 : Int) (x2 : Int) (x3 : Int) (σ : St) : Rx k_X5_leastToPush 18 [.inr (.inl (17, r0)), .inl x1, .inl x2, .inl x3] [] σ = (Rx k_X5_isUp 0 [.inr (.inl (17, r0)), .inl x3] [] σ).bind fun q => Rx k_X5_leastToPush 23 [.inr (.inl (17, r0)), .inl x1, .inl x2, .inl x3] (q.1.toList ++ []) q.2 := by
  refine (Rx_N (k := 2) (pc' := 20) (ls' := [.inr (.inl (17, r0)), .inl x1, .inl x2, .inl x3]) (st' := [.inl x3, .inr (.inl (17, r0))]) (σ' := σ) rfl).trans ?_
  exact Rx_call (n := 3) (y' := k_X5_isUp) (as := [.inr (.inl (17, r0)), .inl x3]) (rest := []) rfl rfl rfl
theorem b_X5_leastToPush_23 (r0 : Nat) (x1 : Int) (x2 : Int) (x3 : Int) (s0 : Int) (σ : St) : Rx k_X5_leastToPush 23 [.inr (.inl (17, r0)), .inl x1, .inl x2, .inl x3] [.inl s0] σ = if s0 = 0 then Rx k_X5_leastToPush 47 [.inr (.inl (17, r0)), .inl x1, .inl x2, .inl x3] [] σ else Rx k_X5_leastToPush 26 [.inr (.inl (17, r0)), .inl x1, .inl x2, .inl x3] [] σ := by
  exact Rx_eq0 (k := 1) rfl
theorem b_X5_leastToPush_26 (r0 : Nat) (x1 : Int) (x2 : Int) (x3 : Int) (σ : St) : Rx k_X5_leastToPush 26 [.inr (.inl (17, r0)), .inl x1, .inl x2, .inl x3] [] σ = if x1 = 0 then Rx k_X5_leastToPush 30 [.inr (.inl (17, r0)), .inl x1, .inl x2, .inl x3] [] σ else Rx k_X5_leastToPush 45 [.inr (.inl (17, r0)), .inl x1, .inl x2, .inl x3] [] σ := by
  exact Rx_ne0 (k := 2) rfl
theorem b_X5_leastToPush_30 (r0 : Nat) (x1 : Int) (x2 : Int) (x3 : Int) (σ : St) : Rx k_X5_leastToPush 30 [.inr (.inl (17, r0)), .inl x1, .inl x2, .inl x3] [] σ = (Rx k_X5_ofT 0 [.inl x3] [] σ).bind fun q => Rx k_X5_leastToPush 36 [.inr (.inl (17, r0)), .inl x1, .inl x2, .inl x3] (q.1.toList ++ [.inr (.inl (17, r0)), .inr (.inl (17, r0))]) q.2 := by
  refine (Rx_N (k := 3) (pc' := 33) (ls' := [.inr (.inl (17, r0)), .inl x1, .inl x2, .inl x3]) (st' := [.inl x3, .inr (.inl (17, r0)), .inr (.inl (17, r0))]) (σ' := σ) rfl).trans ?_
  exact Rx_call (n := 3) (y' := k_X5_ofT) (as := [.inl x3]) (rest := [.inr (.inl (17, r0)), .inr (.inl (17, r0))]) rfl rfl rfl
theorem r_X5_leastToPush_36 (r0 : Nat) (x1 : Int) (x2 : Int) (x3 : Int) (s2 : Int) (q1 : Nat) (q0 : Nat) (σ : St) (h0 : 0 ≤ (wr (s2 + 2))) (h1 : (wr (s2 + 2)) < 58) : Rx k_X5_leastToPush 36 [.inr (.inl (17, r0)), .inl x1, .inl x2, .inl x3] [.inl s2, .inr (.inl (17, q1)), .inr (.inl (17, q0))] σ = (Rx k_X5_spareOf 0 [.inr (.inl (17, q0)), .inl (σ 17 q1 (wr (s2 + 2)).toNat)] [] σ).bind fun q => Rx k_X5_leastToPush 42 [.inr (.inl (17, r0)), .inl x1, .inl x2, .inl x3] (q.1.toList ++ []) q.2 := by
  refine (Rx_N (k := 2) (pc' := 38) (ls' := [.inr (.inl (17, r0)), .inl x1, .inl x2, .inl x3]) (st' := [.inl (wr (s2 + 2)), .inr (.inl (17, q1)), .inr (.inl (17, q0))]) (σ' := σ) rfl).trans ?_
  refine (Rx_ild 58 rfl rfl rfl h0 h1).trans ?_
  exact Rx_call (n := 3) (y' := k_X5_spareOf) (as := [.inr (.inl (17, q0)), .inl (σ 17 q1 (wr (s2 + 2)).toNat)]) (rest := []) rfl rfl rfl
theorem b_X5_leastToPush_36 (r0 : Nat) (x1 : Int) (x2 : Int) (x3 : Int) (s2 : Int) (q1 : Nat) (q0 : Nat) (σ : St) (h0 : 0 ≤ (s2 + 2)) (h1 : (s2 + 2) < 58) (g0a : -2147483648 ≤ (s2 + 2)) (g0b : (s2 + 2) < 2147483648) : Rx k_X5_leastToPush 36 [.inr (.inl (17, r0)), .inl x1, .inl x2, .inl x3] [.inl s2, .inr (.inl (17, q1)), .inr (.inl (17, q0))] σ = (Rx k_X5_spareOf 0 [.inr (.inl (17, q0)), .inl (σ 17 q1 (s2 + 2).toNat)] [] σ).bind fun q => Rx k_X5_leastToPush 42 [.inr (.inl (17, r0)), .inl x1, .inl x2, .inl x3] (q.1.toList ++ []) q.2 := by
  have e0 := wr_id (x := (s2 + 2)) g0a g0b
  have raw := r_X5_leastToPush_36 r0 x1 x2 x3 s2 q1 q0 σ (by simp only [e0]; exact h0) (by simp only [e0]; exact h1)
  simp only [e0] at raw
  exact raw
theorem b_X5_leastToPush_42 (r0 : Nat) (x1 : Int) (x2 : Int) (x3 : Int) (s0 : Int) (σ : St) : Rx k_X5_leastToPush 42 [.inr (.inl (17, r0)), .inl x1, .inl x2, .inl x3] [.inl s0] σ = if 0 < s0 then Rx k_X5_leastToPush 47 [.inr (.inl (17, r0)), .inl x1, .inl x2, .inl x3] [] σ else Rx k_X5_leastToPush 45 [.inr (.inl (17, r0)), .inl x1, .inl x2, .inl x3] [] σ := by
  exact Rx_gt0 (k := 1) rfl
theorem b_X5_leastToPush_45 (r0 : Nat) (x1 : Int) (x2 : Int) (x3 : Int) (σ : St) : Rx k_X5_leastToPush 45 [.inr (.inl (17, r0)), .inl x1, .inl x2, .inl x3] [] σ = some (some (.inl x3), σ) := by
  refine (Rx_N (k := 1) (pc' := 46) (ls' := [.inr (.inl (17, r0)), .inl x1, .inl x2, .inl x3]) (st' := [.inl x3]) (σ' := σ) rfl).trans ?_
  exact Rx_ret rfl rfl
theorem r_X5_leastToPush_47 (r0 : Nat) (x1 : Int) (x2 : Int) (x3 : Int) (σ : St) : Rx k_X5_leastToPush 47 [.inr (.inl (17, r0)), .inl x1, .inl x2, .inl x3] [] σ = Rx k_X5_leastToPush 2 [.inr (.inl (17, r0)), .inl x1, .inl (wr (x2 + 1)), .inl x3] [] σ := by
  refine (Rx_N (k := 2) (pc' := 2) (ls' := [.inr (.inl (17, r0)), .inl x1, .inl (wr (x2 + 1)), .inl x3]) (st' := []) (σ' := σ) rfl).trans ?_
  rfl
theorem b_X5_leastToPush_47 (r0 : Nat) (x1 : Int) (x2 : Int) (x3 : Int) (σ : St) (g0a : -2147483648 ≤ (x2 + 1)) (g0b : (x2 + 1) < 2147483648) : Rx k_X5_leastToPush 47 [.inr (.inl (17, r0)), .inl x1, .inl x2, .inl x3] [] σ = Rx k_X5_leastToPush 2 [.inr (.inl (17, r0)), .inl x1, .inl (x2 + 1), .inl x3] [] σ := by
  have e0 := wr_id (x := (x2 + 1)) g0a g0b
  have raw := r_X5_leastToPush_47 r0 x1 x2 x3 σ 
  simp only [e0] at raw
  exact raw
theorem b_X5_leastToPush_53 (r0 : Nat) (x1 : Int) (x2 : Int) (u3 : AV) (σ : St) : Rx k_X5_leastToPush 53 [.inr (.inl (17, r0)), .inl x1, .inl x2, u3] [] σ = some (some (.inl (-9)), σ) := by
  refine (Rx_N (k := 1) (pc' := 55) (ls' := [.inr (.inl (17, r0)), .inl x1, .inl x2, u3]) (st' := [.inl (-9)]) (σ' := σ) rfl).trans ?_
  exact Rx_ret rfl rfl
theorem b_X5_pushesLeast_0 (x1 : Int) (u2 : AV) (u3 : AV) (σ : St) : Rx k_X5_pushesLeast 0 [.inr (.inl (16, 0)), .inl x1, u2, u3] [] σ = (Rx k_X5_leastToPush 0 [.inr (.inl (17, 1)), .inl x1, uns, uns] [] σ).bind fun q => Rx k_X5_pushesLeast 8 [.inr (.inl (16, 0)), .inl x1, u2, u3] (q.1.toList ++ []) q.2 := by
  refine (Rx_N (k := 3) (pc' := 5) (ls' := [.inr (.inl (16, 0)), .inl x1, u2, u3]) (st' := [.inl x1, .inr (.inl (17, 1))]) (σ' := σ) rfl).trans ?_
  exact Rx_call (n := 3) (y' := k_X5_leastToPush) (as := [.inr (.inl (17, 1)), .inl x1]) (rest := []) rfl rfl rfl
theorem b_X5_pushesLeast_8 (x1 : Int) (u2 : AV) (u3 : AV) (s0 : Int) (σ : St) : Rx k_X5_pushesLeast 8 [.inr (.inl (16, 0)), .inl x1, u2, u3] [.inl s0] σ = if s0 < 0 then Rx k_X5_pushesLeast 13 [.inr (.inl (16, 0)), .inl x1, .inl s0, u3] [] σ else Rx k_X5_pushesLeast 17 [.inr (.inl (16, 0)), .inl x1, .inl s0, u3] [] σ := by
  exact Rx_ge0 (k := 3) rfl
theorem b_X5_pushesLeast_13 (x1 : Int) (x2 : Int) (u3 : AV) (σ : St) : Rx k_X5_pushesLeast 13 [.inr (.inl (16, 0)), .inl x1, .inl x2, u3] [] σ = some (none, σ) := by
  refine (Rx_N (k := 3) (pc' := 26) (ls' := [.inr (.inl (16, 0)), .inl x1, .inl x2, .inl 0]) (st' := []) (σ' := σ) rfl).trans ?_
  exact Rx_ret rfl rfl
theorem b_X5_pushesLeast_17 (x1 : Int) (x2 : Int) (u3 : AV) (σ : St) : Rx k_X5_pushesLeast 17 [.inr (.inl (16, 0)), .inl x1, .inl x2, u3] [] σ = (Rx k_X5_fells 0 [.inr (.inl (17, 1)), .inl x2, uns, uns, uns] [] σ).bind fun q => Rx k_X5_pushesLeast 25 [.inr (.inl (16, 0)), .inl x1, .inl x2, u3] (q.1.toList ++ []) q.2 := by
  refine (Rx_N (k := 3) (pc' := 22) (ls' := [.inr (.inl (16, 0)), .inl x1, .inl x2, u3]) (st' := [.inl x2, .inr (.inl (17, 1))]) (σ' := σ) rfl).trans ?_
  exact Rx_call (n := 3) (y' := k_X5_fells) (as := [.inr (.inl (17, 1)), .inl x2]) (rest := []) rfl rfl rfl
theorem b_X5_pushesLeast_25 (x1 : Int) (x2 : Int) (u3 : AV) (s0 : Int) (σ : St) : Rx k_X5_pushesLeast 25 [.inr (.inl (16, 0)), .inl x1, .inl x2, u3] [.inl s0] σ = some (none, σ) := by
  refine (Rx_N (k := 1) (pc' := 26) (ls' := [.inr (.inl (16, 0)), .inl x1, .inl x2, .inl s0]) (st' := []) (σ' := σ) rfl).trans ?_
  exact Rx_ret rfl rfl
theorem b_X5_thief_0 (x1 : Int) (u2 : AV) (u3 : AV) (σ : St) : Rx k_X5_thief 0 [.inr (.inl (16, 0)), .inl x1, u2, u3] [] σ = (Rx k_X5_wrongBy 0 [.inl x1, .inl 99] [] σ).bind fun q => Rx k_X5_thief 6 [.inr (.inl (16, 0)), .inl x1, u2, u3] (q.1.toList ++ []) q.2 := by
  refine (Rx_N (k := 2) (pc' := 3) (ls' := [.inr (.inl (16, 0)), .inl x1, u2, u3]) (st' := [.inl 99, .inl x1]) (σ' := σ) rfl).trans ?_
  exact Rx_call (n := 3) (y' := k_X5_wrongBy) (as := [.inl x1, .inl 99]) (rest := []) rfl rfl rfl
theorem b_X5_thief_6 (x1 : Int) (u2 : AV) (u3 : AV) (s0 : Int) (σ : St) : Rx k_X5_thief 6 [.inr (.inl (16, 0)), .inl x1, u2, u3] [.inl s0] σ = if s0 = 0 then Rx k_X5_thief 17 [.inr (.inl (16, 0)), .inl x1, .inl s0, u3] [] σ else Rx k_X5_thief 11 [.inr (.inl (16, 0)), .inl x1, .inl s0, u3] [] σ := by
  exact Rx_eq0 (k := 3) rfl
theorem b_X5_thief_11 (x1 : Int) (x2 : Int) (u3 : AV) (σ : St) : Rx k_X5_thief 11 [.inr (.inl (16, 0)), .inl x1, .inl x2, u3] [] σ = (Rx k_X5_no 0 [.inr (.inl (16, 0)), .inl x2] [] σ).bind fun q => Rx k_X5_thief 16 [.inr (.inl (16, 0)), .inl x1, .inl x2, u3] (q.1.toList ++ []) q.2 := by
  refine (Rx_N (k := 2) (pc' := 13) (ls' := [.inr (.inl (16, 0)), .inl x1, .inl x2, u3]) (st' := [.inl x2, .inr (.inl (16, 0))]) (σ' := σ) rfl).trans ?_
  exact Rx_call (n := 3) (y' := k_X5_no) (as := [.inr (.inl (16, 0)), .inl x2]) (rest := []) rfl rfl rfl
theorem b_X5_thief_16 (x1 : Int) (x2 : Int) (u3 : AV) (s0 : Int) (σ : St) : Rx k_X5_thief 16 [.inr (.inl (16, 0)), .inl x1, .inl x2, u3] [.inl s0] σ = some (some (.inl s0), σ) := by
  exact Rx_ret rfl rfl
theorem b_X5_thief_17 (x1 : Int) (x2 : Int) (u3 : AV) (σ : St) : Rx k_X5_thief 17 [.inr (.inl (16, 0)), .inl x1, .inl x2, u3] [] σ = (Rx k_X5_copies 0 [.inr (.inl (17, 0)), .inr (.inl (17, 1)), uns] [] σ).bind fun q => Rx k_X5_thief 28 [.inr (.inl (16, 0)), .inl x1, .inl x2, u3] (q.1.toList ++ []) q.2 := by
  refine (Rx_N (k := 4) (pc' := 25) (ls' := [.inr (.inl (16, 0)), .inl x1, .inl x2, u3]) (st' := [.inr (.inl (17, 1)), .inr (.inl (17, 0))]) (σ' := σ) rfl).trans ?_
  exact Rx_call (n := 3) (y' := k_X5_copies) (as := [.inr (.inl (17, 0)), .inr (.inl (17, 1))]) (rest := []) rfl rfl rfl
theorem b_X5_thief_28 (x1 : Int) (x2 : Int) (u3 : AV) (σ : St) : Rx k_X5_thief 28 [.inr (.inl (16, 0)), .inl x1, .inl x2, u3] [] σ = Rx k_X5_thief 30 [.inr (.inl (16, 0)), .inl x1, .inl x2, .inl 0] [] σ := by
  refine (Rx_N (k := 2) (pc' := 30) (ls' := [.inr (.inl (16, 0)), .inl x1, .inl x2, .inl 0]) (st' := []) (σ' := σ) rfl).trans ?_
  rfl
theorem b_X5_thief_30 (x1 : Int) (x2 : Int) (x3 : Int) (σ : St) : Rx k_X5_thief 30 [.inr (.inl (16, 0)), .inl x1, .inl x2, .inl x3] [] σ = if x3 < x1 then Rx k_X5_thief 35 [.inr (.inl (16, 0)), .inl x1, .inl x2, .inl x3] [] σ else Rx k_X5_thief 54 [.inr (.inl (16, 0)), .inl x1, .inl x2, .inl x3] [] σ := by
  exact Rx_ge0 (k := 3) rfl
theorem b_X5_thief_35 (x1 : Int) (x2 : Int) (x3 : Int) (σ : St) : Rx k_X5_thief 35 [.inr (.inl (16, 0)), .inl x1, .inl x2, .inl x3] [] σ = (Rx k_X5_pushesLeast 0 [.inr (.inl (16, 0)), .inl 0, uns, uns] [] σ).bind fun q => Rx k_X5_thief 40 [.inr (.inl (16, 0)), .inl x1, .inl x2, .inl x3] (q.1.toList ++ []) q.2 := by
  refine (Rx_N (k := 2) (pc' := 37) (ls' := [.inr (.inl (16, 0)), .inl x1, .inl x2, .inl x3]) (st' := [.inl 0, .inr (.inl (16, 0))]) (σ' := σ) rfl).trans ?_
  exact Rx_call (n := 3) (y' := k_X5_pushesLeast) (as := [.inr (.inl (16, 0)), .inl 0]) (rest := []) rfl rfl rfl
theorem b_X5_thief_40 (x1 : Int) (x2 : Int) (x3 : Int) (σ : St) : Rx k_X5_thief 40 [.inr (.inl (16, 0)), .inl x1, .inl x2, .inl x3] [] σ = (Rx k_X5_day 0 [.inr (.inl (16, 0)), .inr (.inl (17, 1)), uns, uns, uns] [] σ).bind fun q => Rx k_X5_thief 48 [.inr (.inl (16, 0)), .inl x1, .inl x2, .inl x3] (q.1.toList ++ []) q.2 := by
  refine (Rx_N (k := 3) (pc' := 45) (ls' := [.inr (.inl (16, 0)), .inl x1, .inl x2, .inl x3]) (st' := [.inr (.inl (17, 1)), .inr (.inl (16, 0))]) (σ' := σ) rfl).trans ?_
  exact Rx_call (n := 3) (y' := k_X5_day) (as := [.inr (.inl (16, 0)), .inr (.inl (17, 1))]) (rest := []) rfl rfl rfl
theorem r_X5_thief_48 (x1 : Int) (x2 : Int) (x3 : Int) (σ : St) : Rx k_X5_thief 48 [.inr (.inl (16, 0)), .inl x1, .inl x2, .inl x3] [] σ = Rx k_X5_thief 30 [.inr (.inl (16, 0)), .inl x1, .inl x2, .inl (wr (x3 + 1))] [] σ := by
  refine (Rx_N (k := 2) (pc' := 30) (ls' := [.inr (.inl (16, 0)), .inl x1, .inl x2, .inl (wr (x3 + 1))]) (st' := []) (σ' := σ) rfl).trans ?_
  rfl
theorem b_X5_thief_48 (x1 : Int) (x2 : Int) (x3 : Int) (σ : St) (g0a : -2147483648 ≤ (x3 + 1)) (g0b : (x3 + 1) < 2147483648) : Rx k_X5_thief 48 [.inr (.inl (16, 0)), .inl x1, .inl x2, .inl x3] [] σ = Rx k_X5_thief 30 [.inr (.inl (16, 0)), .inl x1, .inl x2, .inl (x3 + 1)] [] σ := by
  have e0 := wr_id (x := (x3 + 1)) g0a g0b
  have raw := r_X5_thief_48 x1 x2 x3 σ 
  simp only [e0] at raw
  exact raw
theorem b_X5_thief_54 (x1 : Int) (x2 : Int) (x3 : Int) (σ : St) : Rx k_X5_thief 54 [.inr (.inl (16, 0)), .inl x1, .inl x2, .inl x3] [] σ = (Rx k_X5_upSet 0 [.inr (.inl (17, 1)), uns, uns] [] σ).bind fun q => Rx k_X5_thief 61 [.inr (.inl (16, 0)), .inl x1, .inl x2, .inl x3] (q.1.toList ++ []) q.2 := by
  refine (Rx_N (k := 2) (pc' := 58) (ls' := [.inr (.inl (16, 0)), .inl x1, .inl x2, .inl x3]) (st' := [.inr (.inl (17, 1))]) (σ' := σ) rfl).trans ?_
  exact Rx_call (n := 3) (y' := k_X5_upSet) (as := [.inr (.inl (17, 1))]) (rest := []) rfl rfl rfl
theorem b_X5_thief_61 (x1 : Int) (x2 : Int) (x3 : Int) (s0 : Int) (σ : St) : Rx k_X5_thief 61 [.inr (.inl (16, 0)), .inl x1, .inl x2, .inl x3] [.inl s0] σ = (Rx k_X5_bits 0 [.inl s0, uns, uns] [] σ).bind fun q => Rx k_X5_thief 64 [.inr (.inl (16, 0)), .inl x1, .inl x2, .inl x3] (q.1.toList ++ []) q.2 := by
  exact Rx_call (n := 3) (y' := k_X5_bits) (as := [.inl s0]) (rest := []) rfl rfl rfl
theorem b_X5_thief_64 (x1 : Int) (x2 : Int) (x3 : Int) (s0 : Int) (σ : St) : Rx k_X5_thief 64 [.inr (.inl (16, 0)), .inl x1, .inl x2, .inl x3] [.inl s0] σ = some (some (.inl s0), σ) := by
  exact Rx_ret rfl rfl
theorem b_X5_robbed_0 (u1 : AV) (σ : St) : Rx k_X5_robbed 0 [.inr (.inl (16, 0)), u1] [] σ = (Rx k_X5_copies 0 [.inr (.inl (17, 0)), .inr (.inl (17, 1)), uns] [] σ).bind fun q => Rx k_X5_robbed 11 [.inr (.inl (16, 0)), u1] (q.1.toList ++ []) q.2 := by
  refine (Rx_N (k := 4) (pc' := 8) (ls' := [.inr (.inl (16, 0)), u1]) (st' := [.inr (.inl (17, 1)), .inr (.inl (17, 0))]) (σ' := σ) rfl).trans ?_
  exact Rx_call (n := 3) (y' := k_X5_copies) (as := [.inr (.inl (17, 0)), .inr (.inl (17, 1))]) (rest := []) rfl rfl rfl
theorem b_X5_robbed_11 (u1 : AV) (σ : St) : Rx k_X5_robbed 11 [.inr (.inl (16, 0)), u1] [] σ = Rx k_X5_robbed 13 [.inr (.inl (16, 0)), .inl 0] [] σ := by
  refine (Rx_N (k := 2) (pc' := 13) (ls' := [.inr (.inl (16, 0)), .inl 0]) (st' := []) (σ' := σ) rfl).trans ?_
  rfl
theorem b_X5_robbed_13 (x1 : Int) (σ : St) : Rx k_X5_robbed 13 [.inr (.inl (16, 0)), .inl x1] [] σ = if 99 < x1 then Rx k_X5_robbed 51 [.inr (.inl (16, 0)), .inl x1] [] σ else Rx k_X5_robbed 19 [.inr (.inl (16, 0)), .inl x1] [] σ := by
  exact Rx_gt0 (k := 3) rfl
theorem b_X5_robbed_19 (x1 : Int) (σ : St) : Rx k_X5_robbed 19 [.inr (.inl (16, 0)), .inl x1] [] σ = (Rx k_X5_leastToPush 0 [.inr (.inl (17, 1)), .inl 0, uns, uns] [] σ).bind fun q => Rx k_X5_robbed 27 [.inr (.inl (16, 0)), .inl x1] (q.1.toList ++ []) q.2 := by
  refine (Rx_N (k := 3) (pc' := 24) (ls' := [.inr (.inl (16, 0)), .inl x1]) (st' := [.inl 0, .inr (.inl (17, 1))]) (σ' := σ) rfl).trans ?_
  exact Rx_call (n := 3) (y' := k_X5_leastToPush) (as := [.inr (.inl (17, 1)), .inl 0]) (rest := []) rfl rfl rfl
theorem b_X5_robbed_27 (x1 : Int) (s0 : Int) (σ : St) : Rx k_X5_robbed 27 [.inr (.inl (16, 0)), .inl x1] [.inl s0] σ = if s0 < 0 then Rx k_X5_robbed 30 [.inr (.inl (16, 0)), .inl x1] [] σ else Rx k_X5_robbed 32 [.inr (.inl (16, 0)), .inl x1] [] σ := by
  exact Rx_ge0 (k := 1) rfl
theorem b_X5_robbed_30 (x1 : Int) (σ : St) : Rx k_X5_robbed 30 [.inr (.inl (16, 0)), .inl x1] [] σ = some (some (.inl x1), σ) := by
  refine (Rx_N (k := 1) (pc' := 31) (ls' := [.inr (.inl (16, 0)), .inl x1]) (st' := [.inl x1]) (σ' := σ) rfl).trans ?_
  exact Rx_ret rfl rfl
theorem b_X5_robbed_32 (x1 : Int) (σ : St) : Rx k_X5_robbed 32 [.inr (.inl (16, 0)), .inl x1] [] σ = (Rx k_X5_pushesLeast 0 [.inr (.inl (16, 0)), .inl 0, uns, uns] [] σ).bind fun q => Rx k_X5_robbed 37 [.inr (.inl (16, 0)), .inl x1] (q.1.toList ++ []) q.2 := by
  refine (Rx_N (k := 2) (pc' := 34) (ls' := [.inr (.inl (16, 0)), .inl x1]) (st' := [.inl 0, .inr (.inl (16, 0))]) (σ' := σ) rfl).trans ?_
  exact Rx_call (n := 3) (y' := k_X5_pushesLeast) (as := [.inr (.inl (16, 0)), .inl 0]) (rest := []) rfl rfl rfl
theorem b_X5_robbed_37 (x1 : Int) (σ : St) : Rx k_X5_robbed 37 [.inr (.inl (16, 0)), .inl x1] [] σ = (Rx k_X5_day 0 [.inr (.inl (16, 0)), .inr (.inl (17, 1)), uns, uns, uns] [] σ).bind fun q => Rx k_X5_robbed 45 [.inr (.inl (16, 0)), .inl x1] (q.1.toList ++ []) q.2 := by
  refine (Rx_N (k := 3) (pc' := 42) (ls' := [.inr (.inl (16, 0)), .inl x1]) (st' := [.inr (.inl (17, 1)), .inr (.inl (16, 0))]) (σ' := σ) rfl).trans ?_
  exact Rx_call (n := 3) (y' := k_X5_day) (as := [.inr (.inl (16, 0)), .inr (.inl (17, 1))]) (rest := []) rfl rfl rfl
theorem r_X5_robbed_45 (x1 : Int) (σ : St) : Rx k_X5_robbed 45 [.inr (.inl (16, 0)), .inl x1] [] σ = Rx k_X5_robbed 13 [.inr (.inl (16, 0)), .inl (wr (x1 + 1))] [] σ := by
  refine (Rx_N (k := 2) (pc' := 13) (ls' := [.inr (.inl (16, 0)), .inl (wr (x1 + 1))]) (st' := []) (σ' := σ) rfl).trans ?_
  rfl
theorem b_X5_robbed_45 (x1 : Int) (σ : St) (g0a : -2147483648 ≤ (x1 + 1)) (g0b : (x1 + 1) < 2147483648) : Rx k_X5_robbed 45 [.inr (.inl (16, 0)), .inl x1] [] σ = Rx k_X5_robbed 13 [.inr (.inl (16, 0)), .inl (x1 + 1)] [] σ := by
  have e0 := wr_id (x := (x1 + 1)) g0a g0b
  have raw := r_X5_robbed_45 x1 σ 
  simp only [e0] at raw
  exact raw
theorem b_X5_robbed_51 (x1 : Int) (σ : St) : Rx k_X5_robbed 51 [.inr (.inl (16, 0)), .inl x1] [] σ = some (some (.inl (-9)), σ) := by
  refine (Rx_N (k := 1) (pc' := 53) (ls' := [.inr (.inl (16, 0)), .inl x1]) (st' := [.inl (-9)]) (σ' := σ) rfl).trans ?_
  exact Rx_ret rfl rfl
theorem b_X5_bestPlace_0 (x1 : Int) (x2 : Int) (u3 : AV) (u4 : AV) (u5 : AV) (u6 : AV) (u7 : AV) (u8 : AV) (σ : St) : Rx k_X5_bestPlace 0 [.inr (.inl (16, 0)), .inl x1, .inl x2, u3, u4, u5, u6, u7, u8] [] σ = (Rx k_X5_isThing 0 [.inr (.inl (16, 0)), .inl x1] [] σ).bind fun q => Rx k_X5_bestPlace 5 [.inr (.inl (16, 0)), .inl x1, .inl x2, u3, u4, u5, u6, u7, u8] (q.1.toList ++ []) q.2 := by
  refine (Rx_N (k := 2) (pc' := 2) (ls' := [.inr (.inl (16, 0)), .inl x1, .inl x2, u3, u4, u5, u6, u7, u8]) (st' := [.inl x1, .inr (.inl (16, 0))]) (σ' := σ) rfl).trans ?_
  exact Rx_call (n := 3) (y' := k_X5_isThing) (as := [.inr (.inl (16, 0)), .inl x1]) (rest := []) rfl rfl rfl
theorem b_X5_bestPlace_5 (x1 : Int) (x2 : Int) (u3 : AV) (u4 : AV) (u5 : AV) (u6 : AV) (u7 : AV) (u8 : AV) (s0 : Int) (σ : St) : Rx k_X5_bestPlace 5 [.inr (.inl (16, 0)), .inl x1, .inl x2, u3, u4, u5, u6, u7, u8] [.inl s0] σ = if s0 = 0 then Rx k_X5_bestPlace 8 [.inr (.inl (16, 0)), .inl x1, .inl x2, u3, u4, u5, u6, u7, u8] [] σ else Rx k_X5_bestPlace 12 [.inr (.inl (16, 0)), .inl x1, .inl x2, u3, u4, u5, u6, u7, u8] [] σ := by
  exact Rx_ne0 (k := 1) rfl
theorem b_X5_bestPlace_8 (x1 : Int) (x2 : Int) (u3 : AV) (u4 : AV) (u5 : AV) (u6 : AV) (u7 : AV) (u8 : AV) (σ : St) : Rx k_X5_bestPlace 8 [.inr (.inl (16, 0)), .inl x1, .inl x2, u3, u4, u5, u6, u7, u8] [] σ = if ((-1) : Int) = (0 : Int) then Rx k_X5_bestPlace 42 [.inr (.inl (16, 0)), .inl x1, .inl x2, .inl (-1), u4, u5, u6, u7, u8] [] σ else Rx k_X5_bestPlace 36 [.inr (.inl (16, 0)), .inl x1, .inl x2, .inl (-1), u4, u5, u6, u7, u8] [] σ := by
  exact Rx_eq0 (k := 5) rfl
theorem b_X5_bestPlace_12 (x1 : Int) (x2 : Int) (u3 : AV) (u4 : AV) (u5 : AV) (u6 : AV) (u7 : AV) (u8 : AV) (σ : St) : Rx k_X5_bestPlace 12 [.inr (.inl (16, 0)), .inl x1, .inl x2, u3, u4, u5, u6, u7, u8] [] σ = (Rx k_X5_isIn 0 [.inl x2, .inl 0, .inl 1] [] σ).bind fun q => Rx k_X5_bestPlace 18 [.inr (.inl (16, 0)), .inl x1, .inl x2, u3, u4, u5, u6, u7, u8] (q.1.toList ++ []) q.2 := by
  refine (Rx_N (k := 3) (pc' := 15) (ls' := [.inr (.inl (16, 0)), .inl x1, .inl x2, u3, u4, u5, u6, u7, u8]) (st' := [.inl 1, .inl 0, .inl x2]) (σ' := σ) rfl).trans ?_
  exact Rx_call (n := 3) (y' := k_X5_isIn) (as := [.inl x2, .inl 0, .inl 1]) (rest := []) rfl rfl rfl
theorem b_X5_bestPlace_18 (x1 : Int) (x2 : Int) (u3 : AV) (u4 : AV) (u5 : AV) (u6 : AV) (u7 : AV) (u8 : AV) (s0 : Int) (σ : St) : Rx k_X5_bestPlace 18 [.inr (.inl (16, 0)), .inl x1, .inl x2, u3, u4, u5, u6, u7, u8] [.inl s0] σ = if s0 = 0 then Rx k_X5_bestPlace 21 [.inr (.inl (16, 0)), .inl x1, .inl x2, u3, u4, u5, u6, u7, u8] [] σ else Rx k_X5_bestPlace 26 [.inr (.inl (16, 0)), .inl x1, .inl x2, u3, u4, u5, u6, u7, u8] [] σ := by
  exact Rx_ne0 (k := 1) rfl
theorem b_X5_bestPlace_21 (x1 : Int) (x2 : Int) (u3 : AV) (u4 : AV) (u5 : AV) (u6 : AV) (u7 : AV) (u8 : AV) (σ : St) : Rx k_X5_bestPlace 21 [.inr (.inl (16, 0)), .inl x1, .inl x2, u3, u4, u5, u6, u7, u8] [] σ = if ((-2) : Int) = (0 : Int) then Rx k_X5_bestPlace 42 [.inr (.inl (16, 0)), .inl x1, .inl x2, .inl (-2), u4, u5, u6, u7, u8] [] σ else Rx k_X5_bestPlace 36 [.inr (.inl (16, 0)), .inl x1, .inl x2, .inl (-2), u4, u5, u6, u7, u8] [] σ := by
  exact Rx_eq0 (k := 5) rfl
theorem b_X5_bestPlace_26 (x1 : Int) (x2 : Int) (u3 : AV) (u4 : AV) (u5 : AV) (u6 : AV) (u7 : AV) (u8 : AV) (σ : St) : Rx k_X5_bestPlace 26 [.inr (.inl (16, 0)), .inl x1, .inl x2, u3, u4, u5, u6, u7, u8] [] σ = (Rx k_X5_wrongUp 0 [.inr (.inl (16, 0)), .inl x1] [] σ).bind fun q => Rx k_X5_bestPlace 31 [.inr (.inl (16, 0)), .inl x1, .inl x2, u3, u4, u5, u6, u7, u8] (q.1.toList ++ []) q.2 := by
  refine (Rx_N (k := 2) (pc' := 28) (ls' := [.inr (.inl (16, 0)), .inl x1, .inl x2, u3, u4, u5, u6, u7, u8]) (st' := [.inl x1, .inr (.inl (16, 0))]) (σ' := σ) rfl).trans ?_
  exact Rx_call (n := 3) (y' := k_X5_wrongUp) (as := [.inr (.inl (16, 0)), .inl x1]) (rest := []) rfl rfl rfl
theorem b_X5_bestPlace_31 (x1 : Int) (x2 : Int) (u3 : AV) (u4 : AV) (u5 : AV) (u6 : AV) (u7 : AV) (u8 : AV) (s0 : Int) (σ : St) : Rx k_X5_bestPlace 31 [.inr (.inl (16, 0)), .inl x1, .inl x2, u3, u4, u5, u6, u7, u8] [.inl s0] σ = if s0 = 0 then Rx k_X5_bestPlace 42 [.inr (.inl (16, 0)), .inl x1, .inl x2, .inl s0, u4, u5, u6, u7, u8] [] σ else Rx k_X5_bestPlace 36 [.inr (.inl (16, 0)), .inl x1, .inl x2, .inl s0, u4, u5, u6, u7, u8] [] σ := by
  exact Rx_eq0 (k := 3) rfl
theorem b_X5_bestPlace_36 (x1 : Int) (x2 : Int) (x3 : Int) (u4 : AV) (u5 : AV) (u6 : AV) (u7 : AV) (u8 : AV) (σ : St) : Rx k_X5_bestPlace 36 [.inr (.inl (16, 0)), .inl x1, .inl x2, .inl x3, u4, u5, u6, u7, u8] [] σ = (Rx k_X5_no 0 [.inr (.inl (16, 0)), .inl x3] [] σ).bind fun q => Rx k_X5_bestPlace 41 [.inr (.inl (16, 0)), .inl x1, .inl x2, .inl x3, u4, u5, u6, u7, u8] (q.1.toList ++ []) q.2 := by
  refine (Rx_N (k := 2) (pc' := 38) (ls' := [.inr (.inl (16, 0)), .inl x1, .inl x2, .inl x3, u4, u5, u6, u7, u8]) (st' := [.inl x3, .inr (.inl (16, 0))]) (σ' := σ) rfl).trans ?_
  exact Rx_call (n := 3) (y' := k_X5_no) (as := [.inr (.inl (16, 0)), .inl x3]) (rest := []) rfl rfl rfl
theorem b_X5_bestPlace_41 (x1 : Int) (x2 : Int) (x3 : Int) (u4 : AV) (u5 : AV) (u6 : AV) (u7 : AV) (u8 : AV) (s0 : Int) (σ : St) : Rx k_X5_bestPlace 41 [.inr (.inl (16, 0)), .inl x1, .inl x2, .inl x3, u4, u5, u6, u7, u8] [.inl s0] σ = some (some (.inl s0), σ) := by
  exact Rx_ret rfl rfl
theorem b_X5_bestPlace_42 (x1 : Int) (x2 : Int) (x3 : Int) (u4 : AV) (u5 : AV) (u6 : AV) (u7 : AV) (u8 : AV) (σ : St) : Rx k_X5_bestPlace 42 [.inr (.inl (16, 0)), .inl x1, .inl x2, .inl x3, u4, u5, u6, u7, u8] [] σ = Rx k_X5_bestPlace 53 [.inr (.inl (16, 0)), .inl x1, .inl x2, .inl x3, .inl (-9), .inl 1000000000, .inl 0, u7, u8] [] σ := by
  refine (Rx_N (k := 6) (pc' := 53) (ls' := [.inr (.inl (16, 0)), .inl x1, .inl x2, .inl x3, .inl (-9), .inl 1000000000, .inl 0, u7, u8]) (st' := []) (σ' := σ) rfl).trans ?_
  rfl
theorem b_X5_bestPlace_53 (x1 : Int) (x2 : Int) (x3 : Int) (x4 : Int) (x5 : Int) (x6 : Int) (u7 : AV) (u8 : AV) (σ : St) : Rx k_X5_bestPlace 53 [.inr (.inl (16, 0)), .inl x1, .inl x2, .inl x3, .inl x4, .inl x5, .inl x6, u7, u8] [] σ = if x6 < 20 then Rx k_X5_bestPlace 60 [.inr (.inl (16, 0)), .inl x1, .inl x2, .inl x3, .inl x4, .inl x5, .inl x6, u7, u8] [] σ else Rx k_X5_bestPlace 143 [.inr (.inl (16, 0)), .inl x1, .inl x2, .inl x3, .inl x4, .inl x5, .inl x6, u7, u8] [] σ := by
  exact Rx_ge0 (k := 3) rfl
theorem b_X5_bestPlace_60 (x1 : Int) (x2 : Int) (x3 : Int) (x4 : Int) (x5 : Int) (x6 : Int) (u7 : AV) (u8 : AV) (σ : St) : Rx k_X5_bestPlace 60 [.inr (.inl (16, 0)), .inl x1, .inl x2, .inl x3, .inl x4, .inl x5, .inl x6, u7, u8] [] σ = (Rx k_X5_whoAt 0 [.inr (.inl (17, 0)), .inl x6, uns] [] σ).bind fun q => Rx k_X5_bestPlace 69 [.inr (.inl (16, 0)), .inl x1, .inl x2, .inl x3, .inl x4, .inl x5, .inl x6, u7, u8] (q.1.toList ++ []) q.2 := by
  refine (Rx_N (k := 3) (pc' := 66) (ls' := [.inr (.inl (16, 0)), .inl x1, .inl x2, .inl x3, .inl x4, .inl x5, .inl x6, u7, u8]) (st' := [.inl x6, .inr (.inl (17, 0))]) (σ' := σ) rfl).trans ?_
  exact Rx_call (n := 3) (y' := k_X5_whoAt) (as := [.inr (.inl (17, 0)), .inl x6]) (rest := []) rfl rfl rfl
theorem b_X5_bestPlace_69 (x1 : Int) (x2 : Int) (x3 : Int) (x4 : Int) (x5 : Int) (x6 : Int) (u7 : AV) (u8 : AV) (s0 : Int) (σ : St) : Rx k_X5_bestPlace 69 [.inr (.inl (16, 0)), .inl x1, .inl x2, .inl x3, .inl x4, .inl x5, .inl x6, u7, u8] [.inl s0] σ = if s0 < 0 then Rx k_X5_bestPlace 85 [.inr (.inl (16, 0)), .inl x1, .inl x2, .inl x3, .inl x4, .inl x5, .inl x6, .inl s0, u8] [] σ else Rx k_X5_bestPlace 76 [.inr (.inl (16, 0)), .inl x1, .inl x2, .inl x3, .inl x4, .inl x5, .inl x6, .inl s0, u8] [] σ := by
  exact Rx_lt0 (k := 3) rfl
theorem b_X5_bestPlace_76 (x1 : Int) (x2 : Int) (x3 : Int) (x4 : Int) (x5 : Int) (x6 : Int) (x7 : Int) (u8 : AV) (σ : St) : Rx k_X5_bestPlace 76 [.inr (.inl (16, 0)), .inl x1, .inl x2, .inl x3, .inl x4, .inl x5, .inl x6, .inl x7, u8] [] σ = if x7 = x1 then Rx k_X5_bestPlace 85 [.inr (.inl (16, 0)), .inl x1, .inl x2, .inl x3, .inl x4, .inl x5, .inl x6, .inl x7, u8] [] σ else Rx k_X5_bestPlace 82 [.inr (.inl (16, 0)), .inl x1, .inl x2, .inl x3, .inl x4, .inl x5, .inl x6, .inl x7, u8] [] σ := by
  exact Rx_eq0 (k := 3) rfl
theorem r_X5_bestPlace_82 (x1 : Int) (x2 : Int) (x3 : Int) (x4 : Int) (x5 : Int) (x6 : Int) (x7 : Int) (u8 : AV) (σ : St) : Rx k_X5_bestPlace 82 [.inr (.inl (16, 0)), .inl x1, .inl x2, .inl x3, .inl x4, .inl x5, .inl x6, .inl x7, u8] [] σ = Rx k_X5_bestPlace 53 [.inr (.inl (16, 0)), .inl x1, .inl x2, .inl x3, .inl x4, .inl x5, .inl (wr (x6 + 1)), .inl x7, u8] [] σ := by
  refine (Rx_N (k := 3) (pc' := 53) (ls' := [.inr (.inl (16, 0)), .inl x1, .inl x2, .inl x3, .inl x4, .inl x5, .inl (wr (x6 + 1)), .inl x7, u8]) (st' := []) (σ' := σ) rfl).trans ?_
  rfl
theorem b_X5_bestPlace_82 (x1 : Int) (x2 : Int) (x3 : Int) (x4 : Int) (x5 : Int) (x6 : Int) (x7 : Int) (u8 : AV) (σ : St) (g0a : -2147483648 ≤ (x6 + 1)) (g0b : (x6 + 1) < 2147483648) : Rx k_X5_bestPlace 82 [.inr (.inl (16, 0)), .inl x1, .inl x2, .inl x3, .inl x4, .inl x5, .inl x6, .inl x7, u8] [] σ = Rx k_X5_bestPlace 53 [.inr (.inl (16, 0)), .inl x1, .inl x2, .inl x3, .inl x4, .inl x5, .inl (x6 + 1), .inl x7, u8] [] σ := by
  have e0 := wr_id (x := (x6 + 1)) g0a g0b
  have raw := r_X5_bestPlace_82 x1 x2 x3 x4 x5 x6 x7 u8 σ 
  simp only [e0] at raw
  exact raw
theorem b_X5_bestPlace_85 (x1 : Int) (x2 : Int) (x3 : Int) (x4 : Int) (x5 : Int) (x6 : Int) (x7 : Int) (u8 : AV) (σ : St) : Rx k_X5_bestPlace 85 [.inr (.inl (16, 0)), .inl x1, .inl x2, .inl x3, .inl x4, .inl x5, .inl x6, .inl x7, u8] [] σ = (Rx k_X5_copies 0 [.inr (.inl (17, 0)), .inr (.inl (17, 1)), uns] [] σ).bind fun q => Rx k_X5_bestPlace 96 [.inr (.inl (16, 0)), .inl x1, .inl x2, .inl x3, .inl x4, .inl x5, .inl x6, .inl x7, u8] (q.1.toList ++ []) q.2 := by
  refine (Rx_N (k := 4) (pc' := 93) (ls' := [.inr (.inl (16, 0)), .inl x1, .inl x2, .inl x3, .inl x4, .inl x5, .inl x6, .inl x7, u8]) (st' := [.inr (.inl (17, 1)), .inr (.inl (17, 0))]) (σ' := σ) rfl).trans ?_
  exact Rx_call (n := 3) (y' := k_X5_copies) (as := [.inr (.inl (17, 0)), .inr (.inl (17, 1))]) (rest := []) rfl rfl rfl
theorem b_X5_bestPlace_96 (x1 : Int) (x2 : Int) (x3 : Int) (x4 : Int) (x5 : Int) (x6 : Int) (x7 : Int) (u8 : AV) (σ : St) : Rx k_X5_bestPlace 96 [.inr (.inl (16, 0)), .inl x1, .inl x2, .inl x3, .inl x4, .inl x5, .inl x6, .inl x7, u8] [] σ = (Rx k_X5_ofT 0 [.inl x1] [] σ).bind fun q => Rx k_X5_bestPlace 104 [.inr (.inl (16, 0)), .inl x1, .inl x2, .inl x3, .inl x4, .inl x5, .inl x6, .inl x7, u8] (q.1.toList ++ [.inr (.inl (17, 1))]) q.2 := by
  refine (Rx_N (k := 3) (pc' := 101) (ls' := [.inr (.inl (16, 0)), .inl x1, .inl x2, .inl x3, .inl x4, .inl x5, .inl x6, .inl x7, u8]) (st' := [.inl x1, .inr (.inl (17, 1))]) (σ' := σ) rfl).trans ?_
  exact Rx_call (n := 3) (y' := k_X5_ofT) (as := [.inl x1]) (rest := [.inr (.inl (17, 1))]) rfl rfl rfl
theorem r_X5_bestPlace_104 (x1 : Int) (x2 : Int) (x3 : Int) (x4 : Int) (x5 : Int) (x6 : Int) (x7 : Int) (u8 : AV) (s1 : Int) (σ : St) (h0 : 0 ≤ (wr (s1 + 1))) (h1 : (wr (s1 + 1)) < 58) : Rx k_X5_bestPlace 104 [.inr (.inl (16, 0)), .inl x1, .inl x2, .inl x3, .inl x4, .inl x5, .inl x6, .inl x7, u8] [.inl s1, .inr (.inl (17, 1))] σ = (Rx k_X5_fells 0 [.inr (.inl (17, 1)), .inl x1, uns, uns, uns] [] (up σ 17 1 ((wr (s1 + 1)).toNat) x6)).bind fun q => Rx k_X5_bestPlace 117 [.inr (.inl (16, 0)), .inl x1, .inl x2, .inl x3, .inl x4, .inl x5, .inl x6, .inl x7, u8] (q.1.toList ++ []) q.2 := by
  refine (Rx_N (k := 3) (pc' := 108) (ls' := [.inr (.inl (16, 0)), .inl x1, .inl x2, .inl x3, .inl x4, .inl x5, .inl x6, .inl x7, u8]) (st' := [.inl x6, .inl (wr (s1 + 1)), .inr (.inl (17, 1))]) (σ' := σ) rfl).trans ?_
  refine (Rx_ist 58 rfl rfl h0 h1).trans ?_
  refine (Rx_N (k := 3) (pc' := 114) (ls' := [.inr (.inl (16, 0)), .inl x1, .inl x2, .inl x3, .inl x4, .inl x5, .inl x6, .inl x7, u8]) (st' := [.inl x1, .inr (.inl (17, 1))]) (σ' := (up σ 17 1 ((wr (s1 + 1)).toNat) x6)) rfl).trans ?_
  exact Rx_call (n := 3) (y' := k_X5_fells) (as := [.inr (.inl (17, 1)), .inl x1]) (rest := []) rfl rfl rfl
theorem b_X5_bestPlace_104 (x1 : Int) (x2 : Int) (x3 : Int) (x4 : Int) (x5 : Int) (x6 : Int) (x7 : Int) (u8 : AV) (s1 : Int) (σ : St) (h0 : 0 ≤ (s1 + 1)) (h1 : (s1 + 1) < 58) (g0a : -2147483648 ≤ (s1 + 1)) (g0b : (s1 + 1) < 2147483648) : Rx k_X5_bestPlace 104 [.inr (.inl (16, 0)), .inl x1, .inl x2, .inl x3, .inl x4, .inl x5, .inl x6, .inl x7, u8] [.inl s1, .inr (.inl (17, 1))] σ = (Rx k_X5_fells 0 [.inr (.inl (17, 1)), .inl x1, uns, uns, uns] [] (up σ 17 1 (((s1 + 1)).toNat) x6)).bind fun q => Rx k_X5_bestPlace 117 [.inr (.inl (16, 0)), .inl x1, .inl x2, .inl x3, .inl x4, .inl x5, .inl x6, .inl x7, u8] (q.1.toList ++ []) q.2 := by
  have e0 := wr_id (x := (s1 + 1)) g0a g0b
  have raw := r_X5_bestPlace_104 x1 x2 x3 x4 x5 x6 x7 u8 s1 σ (by simp only [e0]; exact h0) (by simp only [e0]; exact h1)
  simp only [e0] at raw
  exact raw
theorem b_X5_bestPlace_117 (x1 : Int) (x2 : Int) (x3 : Int) (x4 : Int) (x5 : Int) (x6 : Int) (x7 : Int) (u8 : AV) (s0 : Int) (σ : St) : Rx k_X5_bestPlace 117 [.inr (.inl (16, 0)), .inl x1, .inl x2, .inl x3, .inl x4, .inl x5, .inl x6, .inl x7, u8] [.inl s0] σ = if s0 < x5 then Rx k_X5_bestPlace 129 [.inr (.inl (16, 0)), .inl x1, .inl x2, .inl x3, .inl x4, .inl x5, .inl x6, .inl x7, .inl s0] [] σ else Rx k_X5_bestPlace 126 [.inr (.inl (16, 0)), .inl x1, .inl x2, .inl x3, .inl x4, .inl x5, .inl x6, .inl x7, .inl s0] [] σ := by
  exact Rx_lt0 (k := 4) rfl
theorem r_X5_bestPlace_126 (x1 : Int) (x2 : Int) (x3 : Int) (x4 : Int) (x5 : Int) (x6 : Int) (x7 : Int) (x8 : Int) (σ : St) : Rx k_X5_bestPlace 126 [.inr (.inl (16, 0)), .inl x1, .inl x2, .inl x3, .inl x4, .inl x5, .inl x6, .inl x7, .inl x8] [] σ = Rx k_X5_bestPlace 53 [.inr (.inl (16, 0)), .inl x1, .inl x2, .inl x3, .inl x4, .inl x5, .inl (wr (x6 + 1)), .inl x7, .inl x8] [] σ := by
  refine (Rx_N (k := 3) (pc' := 53) (ls' := [.inr (.inl (16, 0)), .inl x1, .inl x2, .inl x3, .inl x4, .inl x5, .inl (wr (x6 + 1)), .inl x7, .inl x8]) (st' := []) (σ' := σ) rfl).trans ?_
  rfl
theorem b_X5_bestPlace_126 (x1 : Int) (x2 : Int) (x3 : Int) (x4 : Int) (x5 : Int) (x6 : Int) (x7 : Int) (x8 : Int) (σ : St) (g0a : -2147483648 ≤ (x6 + 1)) (g0b : (x6 + 1) < 2147483648) : Rx k_X5_bestPlace 126 [.inr (.inl (16, 0)), .inl x1, .inl x2, .inl x3, .inl x4, .inl x5, .inl x6, .inl x7, .inl x8] [] σ = Rx k_X5_bestPlace 53 [.inr (.inl (16, 0)), .inl x1, .inl x2, .inl x3, .inl x4, .inl x5, .inl (x6 + 1), .inl x7, .inl x8] [] σ := by
  have e0 := wr_id (x := (x6 + 1)) g0a g0b
  have raw := r_X5_bestPlace_126 x1 x2 x3 x4 x5 x6 x7 x8 σ 
  simp only [e0] at raw
  exact raw
theorem r_X5_bestPlace_129 (x1 : Int) (x2 : Int) (x3 : Int) (x4 : Int) (x5 : Int) (x6 : Int) (x7 : Int) (x8 : Int) (σ : St) : Rx k_X5_bestPlace 129 [.inr (.inl (16, 0)), .inl x1, .inl x2, .inl x3, .inl x4, .inl x5, .inl x6, .inl x7, .inl x8] [] σ = Rx k_X5_bestPlace 53 [.inr (.inl (16, 0)), .inl x1, .inl x2, .inl x3, .inl x6, .inl x8, .inl (wr (x6 + 1)), .inl x7, .inl x8] [] σ := by
  refine (Rx_N (k := 6) (pc' := 53) (ls' := [.inr (.inl (16, 0)), .inl x1, .inl x2, .inl x3, .inl x6, .inl x8, .inl (wr (x6 + 1)), .inl x7, .inl x8]) (st' := []) (σ' := σ) rfl).trans ?_
  rfl
theorem b_X5_bestPlace_129 (x1 : Int) (x2 : Int) (x3 : Int) (x4 : Int) (x5 : Int) (x6 : Int) (x7 : Int) (x8 : Int) (σ : St) (g0a : -2147483648 ≤ (x6 + 1)) (g0b : (x6 + 1) < 2147483648) : Rx k_X5_bestPlace 129 [.inr (.inl (16, 0)), .inl x1, .inl x2, .inl x3, .inl x4, .inl x5, .inl x6, .inl x7, .inl x8] [] σ = Rx k_X5_bestPlace 53 [.inr (.inl (16, 0)), .inl x1, .inl x2, .inl x3, .inl x6, .inl x8, .inl (x6 + 1), .inl x7, .inl x8] [] σ := by
  have e0 := wr_id (x := (x6 + 1)) g0a g0b
  have raw := r_X5_bestPlace_129 x1 x2 x3 x4 x5 x6 x7 x8 σ 
  simp only [e0] at raw
  exact raw
theorem b_X5_bestPlace_143 (x1 : Int) (x2 : Int) (x3 : Int) (x4 : Int) (x5 : Int) (x6 : Int) (u7 : AV) (u8 : AV) (σ : St) : Rx k_X5_bestPlace 143 [.inr (.inl (16, 0)), .inl x1, .inl x2, .inl x3, .inl x4, .inl x5, .inl x6, u7, u8] [] σ = if x2 = 0 then Rx k_X5_bestPlace 147 [.inr (.inl (16, 0)), .inl x1, .inl x2, .inl x3, .inl x4, .inl x5, .inl x6, u7, u8] [] σ else Rx k_X5_bestPlace 152 [.inr (.inl (16, 0)), .inl x1, .inl x2, .inl x3, .inl x4, .inl x5, .inl x6, u7, u8] [] σ := by
  exact Rx_ne0 (k := 2) rfl
theorem b_X5_bestPlace_147 (x1 : Int) (x2 : Int) (x3 : Int) (x4 : Int) (x5 : Int) (x6 : Int) (u7 : AV) (u8 : AV) (σ : St) : Rx k_X5_bestPlace 147 [.inr (.inl (16, 0)), .inl x1, .inl x2, .inl x3, .inl x4, .inl x5, .inl x6, u7, u8] [] σ = some (some (.inl x4), σ) := by
  refine (Rx_N (k := 2) (pc' := 154) (ls' := [.inr (.inl (16, 0)), .inl x1, .inl x2, .inl x3, .inl x4, .inl x5, .inl x6, u7, u8]) (st' := [.inl x4]) (σ' := σ) rfl).trans ?_
  exact Rx_ret rfl rfl
theorem b_X5_bestPlace_152 (x1 : Int) (x2 : Int) (x3 : Int) (x4 : Int) (x5 : Int) (x6 : Int) (u7 : AV) (u8 : AV) (σ : St) : Rx k_X5_bestPlace 152 [.inr (.inl (16, 0)), .inl x1, .inl x2, .inl x3, .inl x4, .inl x5, .inl x6, u7, u8] [] σ = some (some (.inl x5), σ) := by
  refine (Rx_N (k := 1) (pc' := 154) (ls' := [.inr (.inl (16, 0)), .inl x1, .inl x2, .inl x3, .inl x4, .inl x5, .inl x6, u7, u8]) (st' := [.inl x5]) (σ' := σ) rfl).trans ?_
  exact Rx_ret rfl rfl
theorem b_X5_gcd_0 (w0 : Int) (w2 : Int) (u4 : AV) (u5 : AV) (u6 : AV) (u7 : AV) (u8 : AV) (u9 : AV) (σ : St) : Rx k_X5_gcd 0 [.inr (.inr w0), uns, .inr (.inr w2), uns, u4, u5, u6, u7, u8, u9] [] σ = Rx k_X5_gcd 6 [.inr (.inr w0), uns, .inr (.inr w2), uns, .inr (.inr w0), uns, .inr (.inr w2), uns, u8, u9] [] σ := by
  refine (Rx_N (k := 4) (pc' := 6) (ls' := [.inr (.inr w0), uns, .inr (.inr w2), uns, .inr (.inr w0), uns, .inr (.inr w2), uns, u8, u9]) (st' := []) (σ' := σ) rfl).trans ?_
  rfl
theorem b_X5_gcd_6 (w0 : Int) (w2 : Int) (w4 : Int) (w6 : Int) (u8 : AV) (u9 : AV) (σ : St) : Rx k_X5_gcd 6 [.inr (.inr w0), uns, .inr (.inr w2), uns, .inr (.inr w4), uns, .inr (.inr w6), uns, u8, u9] [] σ = if (if 0 < w6 then 1 else if w6 = 0 then 0 else -1) = 0 then Rx k_X5_gcd 31 [.inr (.inr w0), uns, .inr (.inr w2), uns, .inr (.inr w4), uns, .inr (.inr w6), uns, u8, u9] [] σ else Rx k_X5_gcd 13 [.inr (.inr w0), uns, .inr (.inr w2), uns, .inr (.inr w4), uns, .inr (.inr w6), uns, u8, u9] [] σ := by
  exact Rx_eq0 (k := 4) rfl
theorem b_X5_gcd_13 (w0 : Int) (w2 : Int) (w4 : Int) (w6 : Int) (u8 : AV) (u9 : AV) (σ : St) (h0 : w6 ≠ 0) : Rx k_X5_gcd 13 [.inr (.inr w0), uns, .inr (.inr w2), uns, .inr (.inr w4), uns, .inr (.inr w6), uns, u8, u9] [] σ = Rx k_X5_gcd 6 [.inr (.inr w0), uns, .inr (.inr w2), uns, .inr (.inr w6), uns, .inr (.inr (w4.tmod w6)), uns, .inr (.inr (w4.tmod w6)), uns] [] σ := by
  refine (Rx_N (k := 2) (pc' := 17) (ls' := [.inr (.inr w0), uns, .inr (.inr w2), uns, .inr (.inr w4), uns, .inr (.inr w6), uns, u8, u9]) (st' := [.inr (.inr w6), .inr (.inr w4)]) (σ' := σ) rfl).trans ?_
  refine (Rx_lrem rfl h0).trans ?_
  refine (Rx_N (k := 6) (pc' := 6) (ls' := [.inr (.inr w0), uns, .inr (.inr w2), uns, .inr (.inr w6), uns, .inr (.inr (w4.tmod w6)), uns, .inr (.inr (w4.tmod w6)), uns]) (st' := []) (σ' := σ) rfl).trans ?_
  rfl
theorem b_X5_gcd_31 (w0 : Int) (w2 : Int) (w4 : Int) (w6 : Int) (u8 : AV) (u9 : AV) (σ : St) : Rx k_X5_gcd 31 [.inr (.inr w0), uns, .inr (.inr w2), uns, .inr (.inr w4), uns, .inr (.inr w6), uns, u8, u9] [] σ = some (some (.inr (.inr w4)), σ) := by
  refine (Rx_N (k := 1) (pc' := 33) (ls' := [.inr (.inr w0), uns, .inr (.inr w2), uns, .inr (.inr w4), uns, .inr (.inr w6), uns, u8, u9]) (st' := [.inr (.inr w4)]) (σ' := σ) rfl).trans ?_
  exact Rx_ret rfl rfl
theorem b_X5_partOf_0 (w0 : Int) (w2 : Int) (x4 : Int) (σ : St) : Rx k_X5_partOf 0 [.inr (.inr w0), uns, .inr (.inr w2), uns, .inl x4] [] σ = if (if 0 < w0 then 1 else if w0 = 0 then 0 else -1) = 0 then Rx k_X5_partOf 6 [.inr (.inr w0), uns, .inr (.inr w2), uns, .inl x4] [] σ else Rx k_X5_partOf 10 [.inr (.inr w0), uns, .inr (.inr w2), uns, .inl x4] [] σ := by
  exact Rx_ne0 (k := 4) rfl
theorem b_X5_partOf_6 (w0 : Int) (w2 : Int) (x4 : Int) (σ : St) : Rx k_X5_partOf 6 [.inr (.inr w0), uns, .inr (.inr w2), uns, .inl x4] [] σ = some (some (.inr (.inr x4)), σ) := by
  refine (Rx_N (k := 2) (pc' := 9) (ls' := [.inr (.inr w0), uns, .inr (.inr w2), uns, .inl x4]) (st' := [.inr (.inr x4)]) (σ' := σ) rfl).trans ?_
  exact Rx_ret rfl rfl
theorem b_X5_partOf_10 (w0 : Int) (w2 : Int) (x4 : Int) (σ : St) : Rx k_X5_partOf 10 [.inr (.inr w0), uns, .inr (.inr w2), uns, .inl x4] [] σ = if x4 = 0 then Rx k_X5_partOf 15 [.inr (.inr w0), uns, .inr (.inr w2), uns, .inl x4] [] σ else Rx k_X5_partOf 19 [.inr (.inr w0), uns, .inr (.inr w2), uns, .inl x4] [] σ := by
  exact Rx_ne0 (k := 2) rfl
theorem b_X5_partOf_15 (w0 : Int) (w2 : Int) (x4 : Int) (σ : St) : Rx k_X5_partOf 15 [.inr (.inr w0), uns, .inr (.inr w2), uns, .inl x4] [] σ = (Rx k_X5_gcd 0 [.inr (.inr w0), uns, .inr (.inr w2), uns, uns, uns, uns, uns, uns, uns] [] σ).bind fun q => Rx k_X5_partOf 25 [.inr (.inr w0), uns, .inr (.inr w2), uns, .inl x4] (q.1.toList ++ [.inr (.inr w0)]) q.2 := by
  refine (Rx_N (k := 4) (pc' := 22) (ls' := [.inr (.inr w0), uns, .inr (.inr w2), uns, .inl x4]) (st' := [.inr (.inr w2), .inr (.inr w0), .inr (.inr w0)]) (σ' := σ) rfl).trans ?_
  exact Rx_call (n := 3) (y' := k_X5_gcd) (as := [.inr (.inr w0), .inr (.inr w2)]) (rest := [.inr (.inr w0)]) rfl rfl rfl
theorem b_X5_partOf_19 (w0 : Int) (w2 : Int) (x4 : Int) (σ : St) : Rx k_X5_partOf 19 [.inr (.inr w0), uns, .inr (.inr w2), uns, .inl x4] [] σ = (Rx k_X5_gcd 0 [.inr (.inr w0), uns, .inr (.inr w2), uns, uns, uns, uns, uns, uns, uns] [] σ).bind fun q => Rx k_X5_partOf 25 [.inr (.inr w0), uns, .inr (.inr w2), uns, .inl x4] (q.1.toList ++ [.inr (.inr w2)]) q.2 := by
  refine (Rx_N (k := 3) (pc' := 22) (ls' := [.inr (.inr w0), uns, .inr (.inr w2), uns, .inl x4]) (st' := [.inr (.inr w2), .inr (.inr w0), .inr (.inr w2)]) (σ' := σ) rfl).trans ?_
  exact Rx_call (n := 3) (y' := k_X5_gcd) (as := [.inr (.inr w0), .inr (.inr w2)]) (rest := [.inr (.inr w2)]) rfl rfl rfl
theorem r_X5_partOf_25 (w0 : Int) (w2 : Int) (x4 : Int) (t1 : Int) (t0 : Int) (σ : St) (h0 : t1 ≠ 0) : Rx k_X5_partOf 25 [.inr (.inr w0), uns, .inr (.inr w2), uns, .inl x4] [.inr (.inr t1), .inr (.inr t0)] σ = some (some (.inr (.inr (wl (t0.tdiv t1)))), σ) := by
  refine (Rx_ldiv rfl h0).trans ?_
  exact Rx_ret rfl rfl
theorem b_X5_partOf_25 (w0 : Int) (w2 : Int) (x4 : Int) (t1 : Int) (t0 : Int) (σ : St) (h0 : t1 ≠ 0) (g0a : -9223372036854775808 ≤ (t0.tdiv t1)) (g0b : (t0.tdiv t1) < 9223372036854775808) : Rx k_X5_partOf 25 [.inr (.inr w0), uns, .inr (.inr w2), uns, .inl x4] [.inr (.inr t1), .inr (.inr t0)] σ = some (some (.inr (.inr (t0.tdiv t1))), σ) := by
  have e0 := wl_id (x := (t0.tdiv t1)) g0a g0b
  have raw := r_X5_partOf_25 w0 w2 x4 t1 t0 σ h0
  simp only [e0] at raw
  exact raw
theorem b_X5_draught_0 (x1 : Int) (x2 : Int) (x3 : Int) (x4 : Int) (u5 : AV) (u6 : AV) (u7 : AV) (u8 : AV) (u9 : AV) (u10 : AV) (u11 : AV) (u12 : AV) (u13 : AV) (σ : St) : Rx k_X5_draught 0 [.inr (.inl (16, 0)), .inl x1, .inl x2, .inl x3, .inl x4, u5, u6, u7, u8, u9, u10, u11, u12, u13] [] σ = (Rx k_X5_isThing 0 [.inr (.inl (16, 0)), .inl x1] [] σ).bind fun q => Rx k_X5_draught 5 [.inr (.inl (16, 0)), .inl x1, .inl x2, .inl x3, .inl x4, u5, u6, u7, u8, u9, u10, u11, u12, u13] (q.1.toList ++ []) q.2 := by
  refine (Rx_N (k := 2) (pc' := 2) (ls' := [.inr (.inl (16, 0)), .inl x1, .inl x2, .inl x3, .inl x4, u5, u6, u7, u8, u9, u10, u11, u12, u13]) (st' := [.inl x1, .inr (.inl (16, 0))]) (σ' := σ) rfl).trans ?_
  exact Rx_call (n := 3) (y' := k_X5_isThing) (as := [.inr (.inl (16, 0)), .inl x1]) (rest := []) rfl rfl rfl
theorem b_X5_draught_5 (x1 : Int) (x2 : Int) (x3 : Int) (x4 : Int) (u5 : AV) (u6 : AV) (u7 : AV) (u8 : AV) (u9 : AV) (u10 : AV) (u11 : AV) (u12 : AV) (u13 : AV) (s0 : Int) (σ : St) : Rx k_X5_draught 5 [.inr (.inl (16, 0)), .inl x1, .inl x2, .inl x3, .inl x4, u5, u6, u7, u8, u9, u10, u11, u12, u13] [.inl s0] σ = if s0 = 0 then Rx k_X5_draught 8 [.inr (.inl (16, 0)), .inl x1, .inl x2, .inl x3, .inl x4, u5, u6, u7, u8, u9, u10, u11, u12, u13] [] σ else Rx k_X5_draught 14 [.inr (.inl (16, 0)), .inl x1, .inl x2, .inl x3, .inl x4, u5, u6, u7, u8, u9, u10, u11, u12, u13] [] σ := by
  exact Rx_ne0 (k := 1) rfl
theorem b_X5_draught_8 (x1 : Int) (x2 : Int) (x3 : Int) (x4 : Int) (u5 : AV) (u6 : AV) (u7 : AV) (u8 : AV) (u9 : AV) (u10 : AV) (u11 : AV) (u12 : AV) (u13 : AV) (σ : St) : Rx k_X5_draught 8 [.inr (.inl (16, 0)), .inl x1, .inl x2, .inl x3, .inl x4, u5, u6, u7, u8, u9, u10, u11, u12, u13] [] σ = (Rx k_X5_noWide 0 [.inr (.inl (16, 0)), .inl (-1)] [] σ).bind fun q => Rx k_X5_draught 13 [.inr (.inl (16, 0)), .inl x1, .inl x2, .inl x3, .inl x4, u5, u6, u7, u8, u9, u10, u11, u12, u13] (q.1.toList ++ []) q.2 := by
  refine (Rx_N (k := 2) (pc' := 10) (ls' := [.inr (.inl (16, 0)), .inl x1, .inl x2, .inl x3, .inl x4, u5, u6, u7, u8, u9, u10, u11, u12, u13]) (st' := [.inl (-1), .inr (.inl (16, 0))]) (σ' := σ) rfl).trans ?_
  exact Rx_call (n := 3) (y' := k_X5_noWide) (as := [.inr (.inl (16, 0)), .inl (-1)]) (rest := []) rfl rfl rfl
theorem b_X5_draught_13 (x1 : Int) (x2 : Int) (x3 : Int) (x4 : Int) (u5 : AV) (u6 : AV) (u7 : AV) (u8 : AV) (u9 : AV) (u10 : AV) (u11 : AV) (u12 : AV) (u13 : AV) (t0 : Int) (σ : St) : Rx k_X5_draught 13 [.inr (.inl (16, 0)), .inl x1, .inl x2, .inl x3, .inl x4, u5, u6, u7, u8, u9, u10, u11, u12, u13] [.inr (.inr t0)] σ = some (some (.inr (.inr t0)), σ) := by
  exact Rx_ret rfl rfl
theorem b_X5_draught_14 (x1 : Int) (x2 : Int) (x3 : Int) (x4 : Int) (u5 : AV) (u6 : AV) (u7 : AV) (u8 : AV) (u9 : AV) (u10 : AV) (u11 : AV) (u12 : AV) (u13 : AV) (σ : St) : Rx k_X5_draught 14 [.inr (.inl (16, 0)), .inl x1, .inl x2, .inl x3, .inl x4, u5, u6, u7, u8, u9, u10, u11, u12, u13] [] σ = if x2 < 0 then Rx k_X5_draught 23 [.inr (.inl (16, 0)), .inl x1, .inl x2, .inl x3, .inl x4, u5, u6, u7, u8, u9, u10, u11, u12, u13] [] σ else Rx k_X5_draught 18 [.inr (.inl (16, 0)), .inl x1, .inl x2, .inl x3, .inl x4, u5, u6, u7, u8, u9, u10, u11, u12, u13] [] σ := by
  exact Rx_lt0 (k := 2) rfl
theorem b_X5_draught_18 (x1 : Int) (x2 : Int) (x3 : Int) (x4 : Int) (u5 : AV) (u6 : AV) (u7 : AV) (u8 : AV) (u9 : AV) (u10 : AV) (u11 : AV) (u12 : AV) (u13 : AV) (σ : St) : Rx k_X5_draught 18 [.inr (.inl (16, 0)), .inl x1, .inl x2, .inl x3, .inl x4, u5, u6, u7, u8, u9, u10, u11, u12, u13] [] σ = if x3 < 2 then Rx k_X5_draught 23 [.inr (.inl (16, 0)), .inl x1, .inl x2, .inl x3, .inl x4, u5, u6, u7, u8, u9, u10, u11, u12, u13] [] σ else Rx k_X5_draught 30 [.inr (.inl (16, 0)), .inl x1, .inl x2, .inl x3, .inl x4, u5, u6, u7, u8, u9, u10, u11, u12, u13] [] σ := by
  exact Rx_ge0 (k := 3) rfl
theorem b_X5_draught_23 (x1 : Int) (x2 : Int) (x3 : Int) (x4 : Int) (u5 : AV) (u6 : AV) (u7 : AV) (u8 : AV) (u9 : AV) (u10 : AV) (u11 : AV) (u12 : AV) (u13 : AV) (σ : St) : Rx k_X5_draught 23 [.inr (.inl (16, 0)), .inl x1, .inl x2, .inl x3, .inl x4, u5, u6, u7, u8, u9, u10, u11, u12, u13] [] σ = (Rx k_X5_noWide 0 [.inr (.inl (16, 0)), .inl (-4)] [] σ).bind fun q => Rx k_X5_draught 29 [.inr (.inl (16, 0)), .inl x1, .inl x2, .inl x3, .inl x4, u5, u6, u7, u8, u9, u10, u11, u12, u13] (q.1.toList ++ []) q.2 := by
  refine (Rx_N (k := 2) (pc' := 26) (ls' := [.inr (.inl (16, 0)), .inl x1, .inl x2, .inl x3, .inl x4, u5, u6, u7, u8, u9, u10, u11, u12, u13]) (st' := [.inl (-4), .inr (.inl (16, 0))]) (σ' := σ) rfl).trans ?_
  exact Rx_call (n := 3) (y' := k_X5_noWide) (as := [.inr (.inl (16, 0)), .inl (-4)]) (rest := []) rfl rfl rfl
theorem b_X5_draught_29 (x1 : Int) (x2 : Int) (x3 : Int) (x4 : Int) (u5 : AV) (u6 : AV) (u7 : AV) (u8 : AV) (u9 : AV) (u10 : AV) (u11 : AV) (u12 : AV) (u13 : AV) (t0 : Int) (σ : St) : Rx k_X5_draught 29 [.inr (.inl (16, 0)), .inl x1, .inl x2, .inl x3, .inl x4, u5, u6, u7, u8, u9, u10, u11, u12, u13] [.inr (.inr t0)] σ = some (some (.inr (.inr t0)), σ) := by
  exact Rx_ret rfl rfl
theorem b_X5_draught_30 (x1 : Int) (x2 : Int) (x3 : Int) (x4 : Int) (u5 : AV) (u6 : AV) (u7 : AV) (u8 : AV) (u9 : AV) (u10 : AV) (u11 : AV) (u12 : AV) (u13 : AV) (σ : St) : Rx k_X5_draught 30 [.inr (.inl (16, 0)), .inl x1, .inl x2, .inl x3, .inl x4, u5, u6, u7, u8, u9, u10, u11, u12, u13] [] σ = if 7 < x2 then Rx k_X5_draught 42 [.inr (.inl (16, 0)), .inl x1, .inl x2, .inl x3, .inl x4, u5, u6, u7, u8, u9, u10, u11, u12, u13] [] σ else Rx k_X5_draught 36 [.inr (.inl (16, 0)), .inl x1, .inl x2, .inl x3, .inl x4, u5, u6, u7, u8, u9, u10, u11, u12, u13] [] σ := by
  exact Rx_gt0 (k := 3) rfl
theorem b_X5_draught_36 (x1 : Int) (x2 : Int) (x3 : Int) (x4 : Int) (u5 : AV) (u6 : AV) (u7 : AV) (u8 : AV) (u9 : AV) (u10 : AV) (u11 : AV) (u12 : AV) (u13 : AV) (σ : St) : Rx k_X5_draught 36 [.inr (.inl (16, 0)), .inl x1, .inl x2, .inl x3, .inl x4, u5, u6, u7, u8, u9, u10, u11, u12, u13] [] σ = if 20 < x3 then Rx k_X5_draught 42 [.inr (.inl (16, 0)), .inl x1, .inl x2, .inl x3, .inl x4, u5, u6, u7, u8, u9, u10, u11, u12, u13] [] σ else Rx k_X5_draught 49 [.inr (.inl (16, 0)), .inl x1, .inl x2, .inl x3, .inl x4, u5, u6, u7, u8, u9, u10, u11, u12, u13] [] σ := by
  exact Rx_le0 (k := 3) rfl
theorem b_X5_draught_42 (x1 : Int) (x2 : Int) (x3 : Int) (x4 : Int) (u5 : AV) (u6 : AV) (u7 : AV) (u8 : AV) (u9 : AV) (u10 : AV) (u11 : AV) (u12 : AV) (u13 : AV) (σ : St) : Rx k_X5_draught 42 [.inr (.inl (16, 0)), .inl x1, .inl x2, .inl x3, .inl x4, u5, u6, u7, u8, u9, u10, u11, u12, u13] [] σ = (Rx k_X5_noWide 0 [.inr (.inl (16, 0)), .inl (-6)] [] σ).bind fun q => Rx k_X5_draught 48 [.inr (.inl (16, 0)), .inl x1, .inl x2, .inl x3, .inl x4, u5, u6, u7, u8, u9, u10, u11, u12, u13] (q.1.toList ++ []) q.2 := by
  refine (Rx_N (k := 2) (pc' := 45) (ls' := [.inr (.inl (16, 0)), .inl x1, .inl x2, .inl x3, .inl x4, u5, u6, u7, u8, u9, u10, u11, u12, u13]) (st' := [.inl (-6), .inr (.inl (16, 0))]) (σ' := σ) rfl).trans ?_
  exact Rx_call (n := 3) (y' := k_X5_noWide) (as := [.inr (.inl (16, 0)), .inl (-6)]) (rest := []) rfl rfl rfl
theorem b_X5_draught_48 (x1 : Int) (x2 : Int) (x3 : Int) (x4 : Int) (u5 : AV) (u6 : AV) (u7 : AV) (u8 : AV) (u9 : AV) (u10 : AV) (u11 : AV) (u12 : AV) (u13 : AV) (t0 : Int) (σ : St) : Rx k_X5_draught 48 [.inr (.inl (16, 0)), .inl x1, .inl x2, .inl x3, .inl x4, u5, u6, u7, u8, u9, u10, u11, u12, u13] [.inr (.inr t0)] σ = some (some (.inr (.inr t0)), σ) := by
  exact Rx_ret rfl rfl
theorem b_X5_draught_49 (x1 : Int) (x2 : Int) (x3 : Int) (x4 : Int) (u5 : AV) (u6 : AV) (u7 : AV) (u8 : AV) (u9 : AV) (u10 : AV) (u11 : AV) (u12 : AV) (u13 : AV) (σ : St) : Rx k_X5_draught 49 [.inr (.inl (16, 0)), .inl x1, .inl x2, .inl x3, .inl x4, u5, u6, u7, u8, u9, u10, u11, u12, u13] [] σ = (Rx k_X5_isIn 0 [.inl x4, .inl 0, .inl 1] [] σ).bind fun q => Rx k_X5_draught 56 [.inr (.inl (16, 0)), .inl x1, .inl x2, .inl x3, .inl x4, u5, u6, u7, u8, u9, u10, u11, u12, u13] (q.1.toList ++ []) q.2 := by
  refine (Rx_N (k := 3) (pc' := 53) (ls' := [.inr (.inl (16, 0)), .inl x1, .inl x2, .inl x3, .inl x4, u5, u6, u7, u8, u9, u10, u11, u12, u13]) (st' := [.inl 1, .inl 0, .inl x4]) (σ' := σ) rfl).trans ?_
  exact Rx_call (n := 3) (y' := k_X5_isIn) (as := [.inl x4, .inl 0, .inl 1]) (rest := []) rfl rfl rfl
theorem b_X5_draught_56 (x1 : Int) (x2 : Int) (x3 : Int) (x4 : Int) (u5 : AV) (u6 : AV) (u7 : AV) (u8 : AV) (u9 : AV) (u10 : AV) (u11 : AV) (u12 : AV) (u13 : AV) (s0 : Int) (σ : St) : Rx k_X5_draught 56 [.inr (.inl (16, 0)), .inl x1, .inl x2, .inl x3, .inl x4, u5, u6, u7, u8, u9, u10, u11, u12, u13] [.inl s0] σ = if s0 = 0 then Rx k_X5_draught 59 [.inr (.inl (16, 0)), .inl x1, .inl x2, .inl x3, .inl x4, u5, u6, u7, u8, u9, u10, u11, u12, u13] [] σ else Rx k_X5_draught 66 [.inr (.inl (16, 0)), .inl x1, .inl x2, .inl x3, .inl x4, u5, u6, u7, u8, u9, u10, u11, u12, u13] [] σ := by
  exact Rx_ne0 (k := 1) rfl
theorem b_X5_draught_59 (x1 : Int) (x2 : Int) (x3 : Int) (x4 : Int) (u5 : AV) (u6 : AV) (u7 : AV) (u8 : AV) (u9 : AV) (u10 : AV) (u11 : AV) (u12 : AV) (u13 : AV) (σ : St) : Rx k_X5_draught 59 [.inr (.inl (16, 0)), .inl x1, .inl x2, .inl x3, .inl x4, u5, u6, u7, u8, u9, u10, u11, u12, u13] [] σ = (Rx k_X5_noWide 0 [.inr (.inl (16, 0)), .inl (-2)] [] σ).bind fun q => Rx k_X5_draught 65 [.inr (.inl (16, 0)), .inl x1, .inl x2, .inl x3, .inl x4, u5, u6, u7, u8, u9, u10, u11, u12, u13] (q.1.toList ++ []) q.2 := by
  refine (Rx_N (k := 2) (pc' := 62) (ls' := [.inr (.inl (16, 0)), .inl x1, .inl x2, .inl x3, .inl x4, u5, u6, u7, u8, u9, u10, u11, u12, u13]) (st' := [.inl (-2), .inr (.inl (16, 0))]) (σ' := σ) rfl).trans ?_
  exact Rx_call (n := 3) (y' := k_X5_noWide) (as := [.inr (.inl (16, 0)), .inl (-2)]) (rest := []) rfl rfl rfl
theorem b_X5_draught_65 (x1 : Int) (x2 : Int) (x3 : Int) (x4 : Int) (u5 : AV) (u6 : AV) (u7 : AV) (u8 : AV) (u9 : AV) (u10 : AV) (u11 : AV) (u12 : AV) (u13 : AV) (t0 : Int) (σ : St) : Rx k_X5_draught 65 [.inr (.inl (16, 0)), .inl x1, .inl x2, .inl x3, .inl x4, u5, u6, u7, u8, u9, u10, u11, u12, u13] [.inr (.inr t0)] σ = some (some (.inr (.inr t0)), σ) := by
  exact Rx_ret rfl rfl
theorem b_X5_draught_66 (x1 : Int) (x2 : Int) (x3 : Int) (x4 : Int) (u5 : AV) (u6 : AV) (u7 : AV) (u8 : AV) (u9 : AV) (u10 : AV) (u11 : AV) (u12 : AV) (u13 : AV) (σ : St) : Rx k_X5_draught 66 [.inr (.inl (16, 0)), .inl x1, .inl x2, .inl x3, .inl x4, u5, u6, u7, u8, u9, u10, u11, u12, u13] [] σ = Rx k_X5_draught 75 [.inr (.inl (16, 0)), .inl x1, .inl x2, .inl x3, .inl x4, .inr (.inr 0), uns, .inr (.inr 1), uns, .inl 0, u10, u11, u12, u13] [] σ := by
  refine (Rx_N (k := 6) (pc' := 75) (ls' := [.inr (.inl (16, 0)), .inl x1, .inl x2, .inl x3, .inl x4, .inr (.inr 0), uns, .inr (.inr 1), uns, .inl 0, u10, u11, u12, u13]) (st' := []) (σ' := σ) rfl).trans ?_
  rfl
theorem b_X5_draught_75 (x1 : Int) (x2 : Int) (x3 : Int) (x4 : Int) (w5 : Int) (w7 : Int) (x9 : Int) (u10 : AV) (u11 : AV) (u12 : AV) (u13 : AV) (σ : St) : Rx k_X5_draught 75 [.inr (.inl (16, 0)), .inl x1, .inl x2, .inl x3, .inl x4, .inr (.inr w5), uns, .inr (.inr w7), uns, .inl x9, u10, u11, u12, u13] [] σ = if x9 < x2 then Rx k_X5_draught 81 [.inr (.inl (16, 0)), .inl x1, .inl x2, .inl x3, .inl x4, .inr (.inr w5), uns, .inr (.inr w7), uns, .inl x9, u10, u11, u12, u13] [] σ else Rx k_X5_draught 94 [.inr (.inl (16, 0)), .inl x1, .inl x2, .inl x3, .inl x4, .inr (.inr w5), uns, .inr (.inr w7), uns, .inl x9, u10, u11, u12, u13] [] σ := by
  exact Rx_ge0 (k := 3) rfl
theorem r_X5_draught_81 (x1 : Int) (x2 : Int) (x3 : Int) (x4 : Int) (w5 : Int) (w7 : Int) (x9 : Int) (u10 : AV) (u11 : AV) (u12 : AV) (u13 : AV) (σ : St) : Rx k_X5_draught 81 [.inr (.inl (16, 0)), .inl x1, .inl x2, .inl x3, .inl x4, .inr (.inr w5), uns, .inr (.inr w7), uns, .inl x9, u10, u11, u12, u13] [] σ = Rx k_X5_draught 75 [.inr (.inl (16, 0)), .inl x1, .inl x2, .inl x3, .inl x4, .inr (.inr w5), uns, .inr (.inr (wl (w7 * x3))), uns, .inl (wr (x9 + 1)), u10, u11, u12, u13] [] σ := by
  refine (Rx_N (k := 7) (pc' := 75) (ls' := [.inr (.inl (16, 0)), .inl x1, .inl x2, .inl x3, .inl x4, .inr (.inr w5), uns, .inr (.inr (wl (w7 * x3))), uns, .inl (wr (x9 + 1)), u10, u11, u12, u13]) (st' := []) (σ' := σ) rfl).trans ?_
  rfl
theorem b_X5_draught_81 (x1 : Int) (x2 : Int) (x3 : Int) (x4 : Int) (w5 : Int) (w7 : Int) (x9 : Int) (u10 : AV) (u11 : AV) (u12 : AV) (u13 : AV) (σ : St) (g0a : -2147483648 ≤ (x9 + 1)) (g0b : (x9 + 1) < 2147483648) (g1a : -9223372036854775808 ≤ (w7 * x3)) (g1b : (w7 * x3) < 9223372036854775808) : Rx k_X5_draught 81 [.inr (.inl (16, 0)), .inl x1, .inl x2, .inl x3, .inl x4, .inr (.inr w5), uns, .inr (.inr w7), uns, .inl x9, u10, u11, u12, u13] [] σ = Rx k_X5_draught 75 [.inr (.inl (16, 0)), .inl x1, .inl x2, .inl x3, .inl x4, .inr (.inr w5), uns, .inr (.inr (w7 * x3)), uns, .inl (x9 + 1), u10, u11, u12, u13] [] σ := by
  have e0 := wr_id (x := (x9 + 1)) g0a g0b
  have e1 := wl_id (x := (w7 * x3)) g1a g1b
  have raw := r_X5_draught_81 x1 x2 x3 x4 w5 w7 x9 u10 u11 u12 u13 σ 
  simp only [e0, e1] at raw
  exact raw
theorem b_X5_draught_94 (x1 : Int) (x2 : Int) (x3 : Int) (x4 : Int) (w5 : Int) (w7 : Int) (x9 : Int) (u10 : AV) (u11 : AV) (u12 : AV) (u13 : AV) (σ : St) : Rx k_X5_draught 94 [.inr (.inl (16, 0)), .inl x1, .inl x2, .inl x3, .inl x4, .inr (.inr w5), uns, .inr (.inr w7), uns, .inl x9, u10, u11, u12, u13] [] σ = Rx k_X5_draught 97 [.inr (.inl (16, 0)), .inl x1, .inl x2, .inl x3, .inl x4, .inr (.inr w5), uns, .inr (.inr w7), uns, .inl 0, u10, u11, u12, u13] [] σ := by
  refine (Rx_N (k := 2) (pc' := 97) (ls' := [.inr (.inl (16, 0)), .inl x1, .inl x2, .inl x3, .inl x4, .inr (.inr w5), uns, .inr (.inr w7), uns, .inl 0, u10, u11, u12, u13]) (st' := []) (σ' := σ) rfl).trans ?_
  rfl
theorem b_X5_draught_97 (x1 : Int) (x2 : Int) (x3 : Int) (x4 : Int) (w5 : Int) (w7 : Int) (x9 : Int) (u10 : AV) (u11 : AV) (u12 : AV) (u13 : AV) (σ : St) : Rx k_X5_draught 97 [.inr (.inl (16, 0)), .inl x1, .inl x2, .inl x3, .inl x4, .inr (.inr w5), uns, .inr (.inr w7), uns, .inl x9, u10, u11, u12, u13] [] σ = if x9 < (bShl 1 x2) then Rx k_X5_draught 105 [.inr (.inl (16, 0)), .inl x1, .inl x2, .inl x3, .inl x4, .inr (.inr w5), uns, .inr (.inr w7), uns, .inl x9, u10, u11, u12, u13] [] σ else Rx k_X5_draught 216 [.inr (.inl (16, 0)), .inl x1, .inl x2, .inl x3, .inl x4, .inr (.inr w5), uns, .inr (.inr w7), uns, .inl x9, u10, u11, u12, u13] [] σ := by
  exact Rx_ge0 (k := 5) rfl
theorem b_X5_draught_105 (x1 : Int) (x2 : Int) (x3 : Int) (x4 : Int) (w5 : Int) (w7 : Int) (x9 : Int) (u10 : AV) (u11 : AV) (u12 : AV) (u13 : AV) (σ : St) : Rx k_X5_draught 105 [.inr (.inl (16, 0)), .inl x1, .inl x2, .inl x3, .inl x4, .inr (.inr w5), uns, .inr (.inr w7), uns, .inl x9, u10, u11, u12, u13] [] σ = (Rx k_X5_copies 0 [.inr (.inl (17, 0)), .inr (.inl (17, 1)), uns] [] σ).bind fun q => Rx k_X5_draught 119 [.inr (.inl (16, 0)), .inl x1, .inl x2, .inl x3, .inl x4, .inr (.inr w5), uns, .inr (.inr w7), uns, .inl x9, .inr (.inr 1), uns, u12, u13] (q.1.toList ++ []) q.2 := by
  refine (Rx_N (k := 6) (pc' := 116) (ls' := [.inr (.inl (16, 0)), .inl x1, .inl x2, .inl x3, .inl x4, .inr (.inr w5), uns, .inr (.inr w7), uns, .inl x9, .inr (.inr 1), uns, u12, u13]) (st' := [.inr (.inl (17, 1)), .inr (.inl (17, 0))]) (σ' := σ) rfl).trans ?_
  exact Rx_call (n := 3) (y' := k_X5_copies) (as := [.inr (.inl (17, 0)), .inr (.inl (17, 1))]) (rest := []) rfl rfl rfl
theorem b_X5_draught_119 (x1 : Int) (x2 : Int) (x3 : Int) (x4 : Int) (w5 : Int) (w7 : Int) (x9 : Int) (w10 : Int) (u12 : AV) (u13 : AV) (σ : St) : Rx k_X5_draught 119 [.inr (.inl (16, 0)), .inl x1, .inl x2, .inl x3, .inl x4, .inr (.inr w5), uns, .inr (.inr w7), uns, .inl x9, .inr (.inr w10), uns, u12, u13] [] σ = Rx k_X5_draught 122 [.inr (.inl (16, 0)), .inl x1, .inl x2, .inl x3, .inl x4, .inr (.inr w5), uns, .inr (.inr w7), uns, .inl x9, .inr (.inr w10), uns, .inl 0, u13] [] σ := by
  refine (Rx_N (k := 2) (pc' := 122) (ls' := [.inr (.inl (16, 0)), .inl x1, .inl x2, .inl x3, .inl x4, .inr (.inr w5), uns, .inr (.inr w7), uns, .inl x9, .inr (.inr w10), uns, .inl 0, u13]) (st' := []) (σ' := σ) rfl).trans ?_
  rfl
theorem b_X5_draught_122 (x1 : Int) (x2 : Int) (x3 : Int) (x4 : Int) (w5 : Int) (w7 : Int) (x9 : Int) (w10 : Int) (x12 : Int) (u13 : AV) (σ : St) : Rx k_X5_draught 122 [.inr (.inl (16, 0)), .inl x1, .inl x2, .inl x3, .inl x4, .inr (.inr w5), uns, .inr (.inr w7), uns, .inl x9, .inr (.inr w10), uns, .inl x12, u13] [] σ = if x12 < x2 then Rx k_X5_draught 128 [.inr (.inl (16, 0)), .inl x1, .inl x2, .inl x3, .inl x4, .inr (.inr w5), uns, .inr (.inr w7), uns, .inl x9, .inr (.inr w10), uns, .inl x12, u13] [] σ else Rx k_X5_draught 188 [.inr (.inl (16, 0)), .inl x1, .inl x2, .inl x3, .inl x4, .inr (.inr w5), uns, .inr (.inr w7), uns, .inl x9, .inr (.inr w10), uns, .inl x12, u13] [] σ := by
  exact Rx_ge0 (k := 3) rfl
theorem b_X5_draught_128 (x1 : Int) (x2 : Int) (x3 : Int) (x4 : Int) (w5 : Int) (w7 : Int) (x9 : Int) (w10 : Int) (x12 : Int) (u13 : AV) (σ : St) : Rx k_X5_draught 128 [.inr (.inl (16, 0)), .inl x1, .inl x2, .inl x3, .inl x4, .inr (.inr w5), uns, .inr (.inr w7), uns, .inl x9, .inr (.inr w10), uns, .inl x12, u13] [] σ = if (bAnd (bShr x9 x12) 1) = 1 then Rx k_X5_draught 139 [.inr (.inl (16, 0)), .inl x1, .inl x2, .inl x3, .inl x4, .inr (.inr w5), uns, .inr (.inr w7), uns, .inl x9, .inr (.inr w10), uns, .inl x12, u13] [] σ else Rx k_X5_draught 143 [.inr (.inl (16, 0)), .inl x1, .inl x2, .inl x3, .inl x4, .inr (.inr w5), uns, .inr (.inr w7), uns, .inl x9, .inr (.inr w10), uns, .inl x12, u13] [] σ := by
  exact Rx_ne0 (k := 7) rfl
theorem b_X5_draught_139 (x1 : Int) (x2 : Int) (x3 : Int) (x4 : Int) (w5 : Int) (w7 : Int) (x9 : Int) (w10 : Int) (x12 : Int) (u13 : AV) (σ : St) : Rx k_X5_draught 139 [.inr (.inl (16, 0)), .inl x1, .inl x2, .inl x3, .inl x4, .inr (.inr w5), uns, .inr (.inr w7), uns, .inl x9, .inr (.inr w10), uns, .inl x12, u13] [] σ = if (1 : Int) = (0 : Int) then Rx k_X5_draught 157 [.inr (.inl (16, 0)), .inl x1, .inl x2, .inl x3, .inl x4, .inr (.inr w5), uns, .inr (.inr w7), uns, .inl x9, .inr (.inr w10), uns, .inl x12, .inl 1] [.inr (.inr w10)] σ else Rx k_X5_draught 153 [.inr (.inl (16, 0)), .inl x1, .inl x2, .inl x3, .inl x4, .inr (.inr w5), uns, .inr (.inr w7), uns, .inl x9, .inr (.inr w10), uns, .inl x12, .inl 1] [.inr (.inr w10)] σ := by
  exact Rx_eq0 (k := 6) rfl
theorem b_X5_draught_143 (x1 : Int) (x2 : Int) (x3 : Int) (x4 : Int) (w5 : Int) (w7 : Int) (x9 : Int) (w10 : Int) (x12 : Int) (u13 : AV) (σ : St) : Rx k_X5_draught 143 [.inr (.inl (16, 0)), .inl x1, .inl x2, .inl x3, .inl x4, .inr (.inr w5), uns, .inr (.inr w7), uns, .inl x9, .inr (.inr w10), uns, .inl x12, u13] [] σ = if (0 : Int) = (0 : Int) then Rx k_X5_draught 157 [.inr (.inl (16, 0)), .inl x1, .inl x2, .inl x3, .inl x4, .inr (.inr w5), uns, .inr (.inr w7), uns, .inl x9, .inr (.inr w10), uns, .inl x12, .inl 0] [.inr (.inr w10)] σ else Rx k_X5_draught 153 [.inr (.inl (16, 0)), .inl x1, .inl x2, .inl x3, .inl x4, .inr (.inr w5), uns, .inr (.inr w7), uns, .inl x9, .inr (.inr w10), uns, .inl x12, .inl 0] [.inr (.inr w10)] σ := by
  exact Rx_eq0 (k := 5) rfl
theorem r_X5_draught_153 (x1 : Int) (x2 : Int) (x3 : Int) (x4 : Int) (w5 : Int) (w7 : Int) (x9 : Int) (w10 : Int) (x12 : Int) (x13 : Int) (t0 : Int) (σ : St) : Rx k_X5_draught 153 [.inr (.inl (16, 0)), .inl x1, .inl x2, .inl x3, .inl x4, .inr (.inr w5), uns, .inr (.inr w7), uns, .inl x9, .inr (.inr w10), uns, .inl x12, .inl x13] [.inr (.inr t0)] σ = if x13 = 0 then Rx k_X5_draught 174 [.inr (.inl (16, 0)), .inl x1, .inl x2, .inl x3, .inl x4, .inr (.inr w5), uns, .inr (.inr w7), uns, .inl x9, .inr (.inr (wl (t0 * 1))), uns, .inl x12, .inl x13] [] σ else Rx k_X5_draught 169 [.inr (.inl (16, 0)), .inl x1, .inl x2, .inl x3, .inl x4, .inr (.inr w5), uns, .inr (.inr w7), uns, .inl x9, .inr (.inr (wl (t0 * 1))), uns, .inl x12, .inl x13] [] σ := by
  exact Rx_eq0 (k := 6) rfl
theorem b_X5_draught_153 (x1 : Int) (x2 : Int) (x3 : Int) (x4 : Int) (w5 : Int) (w7 : Int) (x9 : Int) (w10 : Int) (x12 : Int) (x13 : Int) (t0 : Int) (σ : St) (g0a : -9223372036854775808 ≤ (t0 * 1)) (g0b : (t0 * 1) < 9223372036854775808) : Rx k_X5_draught 153 [.inr (.inl (16, 0)), .inl x1, .inl x2, .inl x3, .inl x4, .inr (.inr w5), uns, .inr (.inr w7), uns, .inl x9, .inr (.inr w10), uns, .inl x12, .inl x13] [.inr (.inr t0)] σ = if x13 = 0 then Rx k_X5_draught 174 [.inr (.inl (16, 0)), .inl x1, .inl x2, .inl x3, .inl x4, .inr (.inr w5), uns, .inr (.inr w7), uns, .inl x9, .inr (.inr (t0 * 1)), uns, .inl x12, .inl x13] [] σ else Rx k_X5_draught 169 [.inr (.inl (16, 0)), .inl x1, .inl x2, .inl x3, .inl x4, .inr (.inr w5), uns, .inr (.inr w7), uns, .inl x9, .inr (.inr (t0 * 1)), uns, .inl x12, .inl x13] [] σ := by
  have e0 := wl_id (x := (t0 * 1)) g0a g0b
  have raw := r_X5_draught_153 x1 x2 x3 x4 w5 w7 x9 w10 x12 x13 t0 σ 
  simp only [e0] at raw
  exact raw
theorem r_X5_draught_157 (x1 : Int) (x2 : Int) (x3 : Int) (x4 : Int) (w5 : Int) (w7 : Int) (x9 : Int) (w10 : Int) (x12 : Int) (x13 : Int) (t0 : Int) (σ : St) : Rx k_X5_draught 157 [.inr (.inl (16, 0)), .inl x1, .inl x2, .inl x3, .inl x4, .inr (.inr w5), uns, .inr (.inr w7), uns, .inl x9, .inr (.inr w10), uns, .inl x12, .inl x13] [.inr (.inr t0)] σ = if x13 = 0 then Rx k_X5_draught 174 [.inr (.inl (16, 0)), .inl x1, .inl x2, .inl x3, .inl x4, .inr (.inr w5), uns, .inr (.inr w7), uns, .inl x9, .inr (.inr (wl (t0 * (wr (x3 - 1))))), uns, .inl x12, .inl x13] [] σ else Rx k_X5_draught 169 [.inr (.inl (16, 0)), .inl x1, .inl x2, .inl x3, .inl x4, .inr (.inr w5), uns, .inr (.inr w7), uns, .inl x9, .inr (.inr (wl (t0 * (wr (x3 - 1))))), uns, .inl x12, .inl x13] [] σ := by
  exact Rx_eq0 (k := 8) rfl
theorem b_X5_draught_157 (x1 : Int) (x2 : Int) (x3 : Int) (x4 : Int) (w5 : Int) (w7 : Int) (x9 : Int) (w10 : Int) (x12 : Int) (x13 : Int) (t0 : Int) (σ : St) (g0a : -2147483648 ≤ (x3 - 1)) (g0b : (x3 - 1) < 2147483648) (g1a : -9223372036854775808 ≤ (t0 * (x3 - 1))) (g1b : (t0 * (x3 - 1)) < 9223372036854775808) : Rx k_X5_draught 157 [.inr (.inl (16, 0)), .inl x1, .inl x2, .inl x3, .inl x4, .inr (.inr w5), uns, .inr (.inr w7), uns, .inl x9, .inr (.inr w10), uns, .inl x12, .inl x13] [.inr (.inr t0)] σ = if x13 = 0 then Rx k_X5_draught 174 [.inr (.inl (16, 0)), .inl x1, .inl x2, .inl x3, .inl x4, .inr (.inr w5), uns, .inr (.inr w7), uns, .inl x9, .inr (.inr (t0 * (x3 - 1))), uns, .inl x12, .inl x13] [] σ else Rx k_X5_draught 169 [.inr (.inl (16, 0)), .inl x1, .inl x2, .inl x3, .inl x4, .inr (.inr w5), uns, .inr (.inr w7), uns, .inl x9, .inr (.inr (t0 * (x3 - 1))), uns, .inl x12, .inl x13] [] σ := by
  have e0 := wr_id (x := (x3 - 1)) g0a g0b
  have e1 := wl_id (x := (t0 * (x3 - 1))) g1a g1b
  have raw := r_X5_draught_157 x1 x2 x3 x4 w5 w7 x9 w10 x12 x13 t0 σ 
  simp only [e0, e1] at raw
  exact raw
theorem b_X5_draught_169 (x1 : Int) (x2 : Int) (x3 : Int) (x4 : Int) (w5 : Int) (w7 : Int) (x9 : Int) (w10 : Int) (x12 : Int) (x13 : Int) (σ : St) : Rx k_X5_draught 169 [.inr (.inl (16, 0)), .inl x1, .inl x2, .inl x3, .inl x4, .inr (.inr w5), uns, .inr (.inr w7), uns, .inl x9, .inr (.inr w10), uns, .inl x12, .inl x13] [] σ = (Rx k_X5_pushesLeast 0 [.inr (.inl (16, 0)), .inl 1, uns, uns] [] σ).bind fun q => Rx k_X5_draught 174 [.inr (.inl (16, 0)), .inl x1, .inl x2, .inl x3, .inl x4, .inr (.inr w5), uns, .inr (.inr w7), uns, .inl x9, .inr (.inr w10), uns, .inl x12, .inl x13] (q.1.toList ++ []) q.2 := by
  refine (Rx_N (k := 2) (pc' := 171) (ls' := [.inr (.inl (16, 0)), .inl x1, .inl x2, .inl x3, .inl x4, .inr (.inr w5), uns, .inr (.inr w7), uns, .inl x9, .inr (.inr w10), uns, .inl x12, .inl x13]) (st' := [.inl 1, .inr (.inl (16, 0))]) (σ' := σ) rfl).trans ?_
  exact Rx_call (n := 3) (y' := k_X5_pushesLeast) (as := [.inr (.inl (16, 0)), .inl 1]) (rest := []) rfl rfl rfl
theorem b_X5_draught_174 (x1 : Int) (x2 : Int) (x3 : Int) (x4 : Int) (w5 : Int) (w7 : Int) (x9 : Int) (w10 : Int) (x12 : Int) (x13 : Int) (σ : St) : Rx k_X5_draught 174 [.inr (.inl (16, 0)), .inl x1, .inl x2, .inl x3, .inl x4, .inr (.inr w5), uns, .inr (.inr w7), uns, .inl x9, .inr (.inr w10), uns, .inl x12, .inl x13] [] σ = (Rx k_X5_day 0 [.inr (.inl (16, 0)), .inr (.inl (17, 1)), uns, uns, uns] [] σ).bind fun q => Rx k_X5_draught 182 [.inr (.inl (16, 0)), .inl x1, .inl x2, .inl x3, .inl x4, .inr (.inr w5), uns, .inr (.inr w7), uns, .inl x9, .inr (.inr w10), uns, .inl x12, .inl x13] (q.1.toList ++ []) q.2 := by
  refine (Rx_N (k := 3) (pc' := 179) (ls' := [.inr (.inl (16, 0)), .inl x1, .inl x2, .inl x3, .inl x4, .inr (.inr w5), uns, .inr (.inr w7), uns, .inl x9, .inr (.inr w10), uns, .inl x12, .inl x13]) (st' := [.inr (.inl (17, 1)), .inr (.inl (16, 0))]) (σ' := σ) rfl).trans ?_
  exact Rx_call (n := 3) (y' := k_X5_day) (as := [.inr (.inl (16, 0)), .inr (.inl (17, 1))]) (rest := []) rfl rfl rfl
theorem r_X5_draught_182 (x1 : Int) (x2 : Int) (x3 : Int) (x4 : Int) (w5 : Int) (w7 : Int) (x9 : Int) (w10 : Int) (x12 : Int) (x13 : Int) (σ : St) : Rx k_X5_draught 182 [.inr (.inl (16, 0)), .inl x1, .inl x2, .inl x3, .inl x4, .inr (.inr w5), uns, .inr (.inr w7), uns, .inl x9, .inr (.inr w10), uns, .inl x12, .inl x13] [] σ = Rx k_X5_draught 122 [.inr (.inl (16, 0)), .inl x1, .inl x2, .inl x3, .inl x4, .inr (.inr w5), uns, .inr (.inr w7), uns, .inl x9, .inr (.inr w10), uns, .inl (wr (x12 + 1)), .inl x13] [] σ := by
  refine (Rx_N (k := 2) (pc' := 122) (ls' := [.inr (.inl (16, 0)), .inl x1, .inl x2, .inl x3, .inl x4, .inr (.inr w5), uns, .inr (.inr w7), uns, .inl x9, .inr (.inr w10), uns, .inl (wr (x12 + 1)), .inl x13]) (st' := []) (σ' := σ) rfl).trans ?_
  rfl
theorem b_X5_draught_182 (x1 : Int) (x2 : Int) (x3 : Int) (x4 : Int) (w5 : Int) (w7 : Int) (x9 : Int) (w10 : Int) (x12 : Int) (x13 : Int) (σ : St) (g0a : -2147483648 ≤ (x12 + 1)) (g0b : (x12 + 1) < 2147483648) : Rx k_X5_draught 182 [.inr (.inl (16, 0)), .inl x1, .inl x2, .inl x3, .inl x4, .inr (.inr w5), uns, .inr (.inr w7), uns, .inl x9, .inr (.inr w10), uns, .inl x12, .inl x13] [] σ = Rx k_X5_draught 122 [.inr (.inl (16, 0)), .inl x1, .inl x2, .inl x3, .inl x4, .inr (.inr w5), uns, .inr (.inr w7), uns, .inl x9, .inr (.inr w10), uns, .inl (x12 + 1), .inl x13] [] σ := by
  have e0 := wr_id (x := (x12 + 1)) g0a g0b
  have raw := r_X5_draught_182 x1 x2 x3 x4 w5 w7 x9 w10 x12 x13 σ 
  simp only [e0] at raw
  exact raw
theorem b_X5_draught_188 (x1 : Int) (x2 : Int) (x3 : Int) (x4 : Int) (w5 : Int) (w7 : Int) (x9 : Int) (w10 : Int) (x12 : Int) (u13 : AV) (σ : St) : Rx k_X5_draught 188 [.inr (.inl (16, 0)), .inl x1, .inl x2, .inl x3, .inl x4, .inr (.inr w5), uns, .inr (.inr w7), uns, .inl x9, .inr (.inr w10), uns, .inl x12, u13] [] σ = (Rx k_X5_isUp 0 [.inr (.inl (17, 1)), .inl x1] [] σ).bind fun q => Rx k_X5_draught 198 [.inr (.inl (16, 0)), .inl x1, .inl x2, .inl x3, .inl x4, .inr (.inr w5), uns, .inr (.inr w7), uns, .inl x9, .inr (.inr w10), uns, .inl x12, u13] (q.1.toList ++ [.inr (.inr w5)]) q.2 := by
  refine (Rx_N (k := 4) (pc' := 195) (ls' := [.inr (.inl (16, 0)), .inl x1, .inl x2, .inl x3, .inl x4, .inr (.inr w5), uns, .inr (.inr w7), uns, .inl x9, .inr (.inr w10), uns, .inl x12, u13]) (st' := [.inl x1, .inr (.inl (17, 1)), .inr (.inr w5)]) (σ' := σ) rfl).trans ?_
  exact Rx_call (n := 3) (y' := k_X5_isUp) (as := [.inr (.inl (17, 1)), .inl x1]) (rest := [.inr (.inr w5)]) rfl rfl rfl
theorem b_X5_draught_198 (x1 : Int) (x2 : Int) (x3 : Int) (x4 : Int) (w5 : Int) (w7 : Int) (x9 : Int) (w10 : Int) (x12 : Int) (u13 : AV) (s1 : Int) (t0 : Int) (σ : St) : Rx k_X5_draught 198 [.inr (.inl (16, 0)), .inl x1, .inl x2, .inl x3, .inl x4, .inr (.inr w5), uns, .inr (.inr w7), uns, .inl x9, .inr (.inr w10), uns, .inl x12, u13] [.inl s1, .inr (.inr t0)] σ = if s1 = 0 then Rx k_X5_draught 206 [.inr (.inl (16, 0)), .inl x1, .inl x2, .inl x3, .inl x4, .inr (.inr w5), uns, .inr (.inr w7), uns, .inl x9, .inr (.inr w10), uns, .inl x12, u13] [.inr (.inr t0)] σ else Rx k_X5_draught 201 [.inr (.inl (16, 0)), .inl x1, .inl x2, .inl x3, .inl x4, .inr (.inr w5), uns, .inr (.inr w7), uns, .inl x9, .inr (.inr w10), uns, .inl x12, u13] [.inr (.inr t0)] σ := by
  exact Rx_eq0 (k := 1) rfl
theorem r_X5_draught_201 (x1 : Int) (x2 : Int) (x3 : Int) (x4 : Int) (w5 : Int) (w7 : Int) (x9 : Int) (w10 : Int) (x12 : Int) (u13 : AV) (t0 : Int) (σ : St) : Rx k_X5_draught 201 [.inr (.inl (16, 0)), .inl x1, .inl x2, .inl x3, .inl x4, .inr (.inr w5), uns, .inr (.inr w7), uns, .inl x9, .inr (.inr w10), uns, .inl x12, u13] [.inr (.inr t0)] σ = Rx k_X5_draught 97 [.inr (.inl (16, 0)), .inl x1, .inl x2, .inl x3, .inl x4, .inr (.inr (wl (t0 + w10))), uns, .inr (.inr w7), uns, .inl (wr (x9 + 1)), .inr (.inr w10), uns, .inl x12, u13] [] σ := by
  refine (Rx_N (k := 6) (pc' := 97) (ls' := [.inr (.inl (16, 0)), .inl x1, .inl x2, .inl x3, .inl x4, .inr (.inr (wl (t0 + w10))), uns, .inr (.inr w7), uns, .inl (wr (x9 + 1)), .inr (.inr w10), uns, .inl x12, u13]) (st' := []) (σ' := σ) rfl).trans ?_
  rfl
theorem b_X5_draught_201 (x1 : Int) (x2 : Int) (x3 : Int) (x4 : Int) (w5 : Int) (w7 : Int) (x9 : Int) (w10 : Int) (x12 : Int) (u13 : AV) (t0 : Int) (σ : St) (g0a : -2147483648 ≤ (x9 + 1)) (g0b : (x9 + 1) < 2147483648) (g1a : -9223372036854775808 ≤ (t0 + w10)) (g1b : (t0 + w10) < 9223372036854775808) : Rx k_X5_draught 201 [.inr (.inl (16, 0)), .inl x1, .inl x2, .inl x3, .inl x4, .inr (.inr w5), uns, .inr (.inr w7), uns, .inl x9, .inr (.inr w10), uns, .inl x12, u13] [.inr (.inr t0)] σ = Rx k_X5_draught 97 [.inr (.inl (16, 0)), .inl x1, .inl x2, .inl x3, .inl x4, .inr (.inr (t0 + w10)), uns, .inr (.inr w7), uns, .inl (x9 + 1), .inr (.inr w10), uns, .inl x12, u13] [] σ := by
  have e0 := wr_id (x := (x9 + 1)) g0a g0b
  have e1 := wl_id (x := (t0 + w10)) g1a g1b
  have raw := r_X5_draught_201 x1 x2 x3 x4 w5 w7 x9 w10 x12 u13 t0 σ 
  simp only [e0, e1] at raw
  exact raw
theorem r_X5_draught_206 (x1 : Int) (x2 : Int) (x3 : Int) (x4 : Int) (w5 : Int) (w7 : Int) (x9 : Int) (w10 : Int) (x12 : Int) (u13 : AV) (t0 : Int) (σ : St) : Rx k_X5_draught 206 [.inr (.inl (16, 0)), .inl x1, .inl x2, .inl x3, .inl x4, .inr (.inr w5), uns, .inr (.inr w7), uns, .inl x9, .inr (.inr w10), uns, .inl x12, u13] [.inr (.inr t0)] σ = Rx k_X5_draught 97 [.inr (.inl (16, 0)), .inl x1, .inl x2, .inl x3, .inl x4, .inr (.inr (wl (t0 + 0))), uns, .inr (.inr w7), uns, .inl (wr (x9 + 1)), .inr (.inr w10), uns, .inl x12, u13] [] σ := by
  refine (Rx_N (k := 5) (pc' := 97) (ls' := [.inr (.inl (16, 0)), .inl x1, .inl x2, .inl x3, .inl x4, .inr (.inr (wl (t0 + 0))), uns, .inr (.inr w7), uns, .inl (wr (x9 + 1)), .inr (.inr w10), uns, .inl x12, u13]) (st' := []) (σ' := σ) rfl).trans ?_
  rfl
theorem b_X5_draught_206 (x1 : Int) (x2 : Int) (x3 : Int) (x4 : Int) (w5 : Int) (w7 : Int) (x9 : Int) (w10 : Int) (x12 : Int) (u13 : AV) (t0 : Int) (σ : St) (g0a : -9223372036854775808 ≤ (t0 + 0)) (g0b : (t0 + 0) < 9223372036854775808) (g1a : -2147483648 ≤ (x9 + 1)) (g1b : (x9 + 1) < 2147483648) : Rx k_X5_draught 206 [.inr (.inl (16, 0)), .inl x1, .inl x2, .inl x3, .inl x4, .inr (.inr w5), uns, .inr (.inr w7), uns, .inl x9, .inr (.inr w10), uns, .inl x12, u13] [.inr (.inr t0)] σ = Rx k_X5_draught 97 [.inr (.inl (16, 0)), .inl x1, .inl x2, .inl x3, .inl x4, .inr (.inr (t0 + 0)), uns, .inr (.inr w7), uns, .inl (x9 + 1), .inr (.inr w10), uns, .inl x12, u13] [] σ := by
  have e0 := wl_id (x := (t0 + 0)) g0a g0b
  have e1 := wr_id (x := (x9 + 1)) g1a g1b
  have raw := r_X5_draught_206 x1 x2 x3 x4 w5 w7 x9 w10 x12 u13 t0 σ 
  simp only [e0, e1] at raw
  exact raw
theorem b_X5_draught_216 (x1 : Int) (x2 : Int) (x3 : Int) (x4 : Int) (w5 : Int) (w7 : Int) (x9 : Int) (u10 : AV) (u11 : AV) (u12 : AV) (u13 : AV) (σ : St) : Rx k_X5_draught 216 [.inr (.inl (16, 0)), .inl x1, .inl x2, .inl x3, .inl x4, .inr (.inr w5), uns, .inr (.inr w7), uns, .inl x9, u10, u11, u12, u13] [] σ = (Rx k_X5_partOf 0 [.inr (.inr w5), uns, .inr (.inr w7), uns, .inl x4] [] σ).bind fun q => Rx k_X5_draught 225 [.inr (.inl (16, 0)), .inl x1, .inl x2, .inl x3, .inl x4, .inr (.inr w5), uns, .inr (.inr w7), uns, .inl x9, u10, u11, u12, u13] (q.1.toList ++ []) q.2 := by
  refine (Rx_N (k := 3) (pc' := 222) (ls' := [.inr (.inl (16, 0)), .inl x1, .inl x2, .inl x3, .inl x4, .inr (.inr w5), uns, .inr (.inr w7), uns, .inl x9, u10, u11, u12, u13]) (st' := [.inl x4, .inr (.inr w7), .inr (.inr w5)]) (σ' := σ) rfl).trans ?_
  exact Rx_call (n := 3) (y' := k_X5_partOf) (as := [.inr (.inr w5), .inr (.inr w7), .inl x4]) (rest := []) rfl rfl rfl
theorem b_X5_draught_225 (x1 : Int) (x2 : Int) (x3 : Int) (x4 : Int) (w5 : Int) (w7 : Int) (x9 : Int) (u10 : AV) (u11 : AV) (u12 : AV) (u13 : AV) (t0 : Int) (σ : St) : Rx k_X5_draught 225 [.inr (.inl (16, 0)), .inl x1, .inl x2, .inl x3, .inl x4, .inr (.inr w5), uns, .inr (.inr w7), uns, .inl x9, u10, u11, u12, u13] [.inr (.inr t0)] σ = some (some (.inr (.inr t0)), σ) := by
  exact Rx_ret rfl rfl
theorem b_X5_upPushed_0 (x1 : Int) (x2 : Int) (x3 : Int) (x4 : Int) (x5 : Int) (u6 : AV) (u7 : AV) (σ : St) : Rx k_X5_upPushed 0 [.inr (.inl (16, 0)), .inl x1, .inl x2, .inl x3, .inl x4, .inl x5, u6, u7] [] σ = (Rx k_X5_copies 0 [.inr (.inl (17, 0)), .inr (.inl (17, 1)), uns] [] σ).bind fun q => Rx k_X5_upPushed 11 [.inr (.inl (16, 0)), .inl x1, .inl x2, .inl x3, .inl x4, .inl x5, u6, u7] (q.1.toList ++ []) q.2 := by
  refine (Rx_N (k := 4) (pc' := 8) (ls' := [.inr (.inl (16, 0)), .inl x1, .inl x2, .inl x3, .inl x4, .inl x5, u6, u7]) (st' := [.inr (.inl (17, 1)), .inr (.inl (17, 0))]) (σ' := σ) rfl).trans ?_
  exact Rx_call (n := 3) (y' := k_X5_copies) (as := [.inr (.inl (17, 0)), .inr (.inl (17, 1))]) (rest := []) rfl rfl rfl
theorem b_X5_upPushed_11 (x1 : Int) (x2 : Int) (x3 : Int) (x4 : Int) (x5 : Int) (u6 : AV) (u7 : AV) (σ : St) : Rx k_X5_upPushed 11 [.inr (.inl (16, 0)), .inl x1, .inl x2, .inl x3, .inl x4, .inl x5, u6, u7] [] σ = if x2 = 1 then Rx k_X5_upPushed 16 [.inr (.inl (16, 0)), .inl x1, .inl x2, .inl x3, .inl x4, .inl x5, u6, u7] [] σ else Rx k_X5_upPushed 38 [.inr (.inl (16, 0)), .inl x1, .inl x2, .inl x3, .inl x4, .inl x5, u6, u7] [] σ := by
  exact Rx_ne0 (k := 3) rfl
theorem b_X5_upPushed_16 (x1 : Int) (x2 : Int) (x3 : Int) (x4 : Int) (x5 : Int) (u6 : AV) (u7 : AV) (σ : St) : Rx k_X5_upPushed 16 [.inr (.inl (16, 0)), .inl x1, .inl x2, .inl x3, .inl x4, .inl x5, u6, u7] [] σ = (Rx k_X5_isUp 0 [.inr (.inl (17, 1)), .inl x1] [] σ).bind fun q => Rx k_X5_upPushed 24 [.inr (.inl (16, 0)), .inl x1, .inl x2, .inl x3, .inl x4, .inl x5, u6, u7] (q.1.toList ++ []) q.2 := by
  refine (Rx_N (k := 3) (pc' := 21) (ls' := [.inr (.inl (16, 0)), .inl x1, .inl x2, .inl x3, .inl x4, .inl x5, u6, u7]) (st' := [.inl x1, .inr (.inl (17, 1))]) (σ' := σ) rfl).trans ?_
  exact Rx_call (n := 3) (y' := k_X5_isUp) (as := [.inr (.inl (17, 1)), .inl x1]) (rest := []) rfl rfl rfl
theorem b_X5_upPushed_24 (x1 : Int) (x2 : Int) (x3 : Int) (x4 : Int) (x5 : Int) (u6 : AV) (u7 : AV) (s0 : Int) (σ : St) : Rx k_X5_upPushed 24 [.inr (.inl (16, 0)), .inl x1, .inl x2, .inl x3, .inl x4, .inl x5, u6, u7] [.inl s0] σ = if s0 = 0 then Rx k_X5_upPushed 38 [.inr (.inl (16, 0)), .inl x1, .inl x2, .inl x3, .inl x4, .inl x5, u6, u7] [] σ else Rx k_X5_upPushed 27 [.inr (.inl (16, 0)), .inl x1, .inl x2, .inl x3, .inl x4, .inl x5, u6, u7] [] σ := by
  exact Rx_eq0 (k := 1) rfl
theorem b_X5_upPushed_27 (x1 : Int) (x2 : Int) (x3 : Int) (x4 : Int) (x5 : Int) (u6 : AV) (u7 : AV) (σ : St) : Rx k_X5_upPushed 27 [.inr (.inl (16, 0)), .inl x1, .inl x2, .inl x3, .inl x4, .inl x5, u6, u7] [] σ = (Rx k_X5_fells 0 [.inr (.inl (17, 1)), .inl x1, uns, uns, uns] [] σ).bind fun q => Rx k_X5_upPushed 35 [.inr (.inl (16, 0)), .inl x1, .inl x2, .inl x3, .inl x4, .inl x5, u6, u7] (q.1.toList ++ []) q.2 := by
  refine (Rx_N (k := 3) (pc' := 32) (ls' := [.inr (.inl (16, 0)), .inl x1, .inl x2, .inl x3, .inl x4, .inl x5, u6, u7]) (st' := [.inl x1, .inr (.inl (17, 1))]) (σ' := σ) rfl).trans ?_
  exact Rx_call (n := 3) (y' := k_X5_fells) (as := [.inr (.inl (17, 1)), .inl x1]) (rest := []) rfl rfl rfl
theorem b_X5_upPushed_35 (x1 : Int) (x2 : Int) (x3 : Int) (x4 : Int) (x5 : Int) (u6 : AV) (u7 : AV) (s0 : Int) (σ : St) : Rx k_X5_upPushed 35 [.inr (.inl (16, 0)), .inl x1, .inl x2, .inl x3, .inl x4, .inl x5, u6, u7] [.inl s0] σ = if x4 = 1 then Rx k_X5_upPushed 47 [.inr (.inl (16, 0)), .inl x1, .inl x2, .inl x3, .inl x4, .inl x5, .inl s0, u7] [] σ else Rx k_X5_upPushed 69 [.inr (.inl (16, 0)), .inl x1, .inl x2, .inl x3, .inl x4, .inl x5, .inl s0, u7] [] σ := by
  exact Rx_ne0 (k := 5) rfl
theorem b_X5_upPushed_38 (x1 : Int) (x2 : Int) (x3 : Int) (x4 : Int) (x5 : Int) (u6 : AV) (u7 : AV) (σ : St) : Rx k_X5_upPushed 38 [.inr (.inl (16, 0)), .inl x1, .inl x2, .inl x3, .inl x4, .inl x5, u6, u7] [] σ = if x4 = 1 then Rx k_X5_upPushed 47 [.inr (.inl (16, 0)), .inl x1, .inl x2, .inl x3, .inl x4, .inl x5, .inl 0, u7] [] σ else Rx k_X5_upPushed 69 [.inr (.inl (16, 0)), .inl x1, .inl x2, .inl x3, .inl x4, .inl x5, .inl 0, u7] [] σ := by
  exact Rx_ne0 (k := 5) rfl
theorem b_X5_upPushed_47 (x1 : Int) (x2 : Int) (x3 : Int) (x4 : Int) (x5 : Int) (x6 : Int) (u7 : AV) (σ : St) : Rx k_X5_upPushed 47 [.inr (.inl (16, 0)), .inl x1, .inl x2, .inl x3, .inl x4, .inl x5, .inl x6, u7] [] σ = (Rx k_X5_isUp 0 [.inr (.inl (17, 1)), .inl x3] [] σ).bind fun q => Rx k_X5_upPushed 55 [.inr (.inl (16, 0)), .inl x1, .inl x2, .inl x3, .inl x4, .inl x5, .inl x6, u7] (q.1.toList ++ []) q.2 := by
  refine (Rx_N (k := 3) (pc' := 52) (ls' := [.inr (.inl (16, 0)), .inl x1, .inl x2, .inl x3, .inl x4, .inl x5, .inl x6, u7]) (st' := [.inl x3, .inr (.inl (17, 1))]) (σ' := σ) rfl).trans ?_
  exact Rx_call (n := 3) (y' := k_X5_isUp) (as := [.inr (.inl (17, 1)), .inl x3]) (rest := []) rfl rfl rfl
theorem b_X5_upPushed_55 (x1 : Int) (x2 : Int) (x3 : Int) (x4 : Int) (x5 : Int) (x6 : Int) (u7 : AV) (s0 : Int) (σ : St) : Rx k_X5_upPushed 55 [.inr (.inl (16, 0)), .inl x1, .inl x2, .inl x3, .inl x4, .inl x5, .inl x6, u7] [.inl s0] σ = if s0 = 0 then Rx k_X5_upPushed 69 [.inr (.inl (16, 0)), .inl x1, .inl x2, .inl x3, .inl x4, .inl x5, .inl x6, u7] [] σ else Rx k_X5_upPushed 58 [.inr (.inl (16, 0)), .inl x1, .inl x2, .inl x3, .inl x4, .inl x5, .inl x6, u7] [] σ := by
  exact Rx_eq0 (k := 1) rfl
theorem b_X5_upPushed_58 (x1 : Int) (x2 : Int) (x3 : Int) (x4 : Int) (x5 : Int) (x6 : Int) (u7 : AV) (σ : St) : Rx k_X5_upPushed 58 [.inr (.inl (16, 0)), .inl x1, .inl x2, .inl x3, .inl x4, .inl x5, .inl x6, u7] [] σ = (Rx k_X5_fells 0 [.inr (.inl (17, 1)), .inl x3, uns, uns, uns] [] σ).bind fun q => Rx k_X5_upPushed 66 [.inr (.inl (16, 0)), .inl x1, .inl x2, .inl x3, .inl x4, .inl x5, .inl x6, u7] (q.1.toList ++ []) q.2 := by
  refine (Rx_N (k := 3) (pc' := 63) (ls' := [.inr (.inl (16, 0)), .inl x1, .inl x2, .inl x3, .inl x4, .inl x5, .inl x6, u7]) (st' := [.inl x3, .inr (.inl (17, 1))]) (σ' := σ) rfl).trans ?_
  exact Rx_call (n := 3) (y' := k_X5_fells) (as := [.inr (.inl (17, 1)), .inl x3]) (rest := []) rfl rfl rfl
theorem b_X5_upPushed_66 (x1 : Int) (x2 : Int) (x3 : Int) (x4 : Int) (x5 : Int) (x6 : Int) (u7 : AV) (s0 : Int) (σ : St) : Rx k_X5_upPushed 66 [.inr (.inl (16, 0)), .inl x1, .inl x2, .inl x3, .inl x4, .inl x5, .inl x6, u7] [.inl s0] σ = (Rx k_X5_upIn 0 [.inr (.inl (16, 0)), .inl x5] [] σ).bind fun q => Rx k_X5_upPushed 78 [.inr (.inl (16, 0)), .inl x1, .inl x2, .inl x3, .inl x4, .inl x5, .inl x6, .inl s0] (q.1.toList ++ []) q.2 := by
  refine (Rx_N (k := 4) (pc' := 75) (ls' := [.inr (.inl (16, 0)), .inl x1, .inl x2, .inl x3, .inl x4, .inl x5, .inl x6, .inl s0]) (st' := [.inl x5, .inr (.inl (16, 0))]) (σ' := σ) rfl).trans ?_
  exact Rx_call (n := 3) (y' := k_X5_upIn) (as := [.inr (.inl (16, 0)), .inl x5]) (rest := []) rfl rfl rfl
theorem b_X5_upPushed_69 (x1 : Int) (x2 : Int) (x3 : Int) (x4 : Int) (x5 : Int) (x6 : Int) (u7 : AV) (σ : St) : Rx k_X5_upPushed 69 [.inr (.inl (16, 0)), .inl x1, .inl x2, .inl x3, .inl x4, .inl x5, .inl x6, u7] [] σ = (Rx k_X5_upIn 0 [.inr (.inl (16, 0)), .inl x5] [] σ).bind fun q => Rx k_X5_upPushed 78 [.inr (.inl (16, 0)), .inl x1, .inl x2, .inl x3, .inl x4, .inl x5, .inl x6, .inl 0] (q.1.toList ++ []) q.2 := by
  refine (Rx_N (k := 4) (pc' := 75) (ls' := [.inr (.inl (16, 0)), .inl x1, .inl x2, .inl x3, .inl x4, .inl x5, .inl x6, .inl 0]) (st' := [.inl x5, .inr (.inl (16, 0))]) (σ' := σ) rfl).trans ?_
  exact Rx_call (n := 3) (y' := k_X5_upIn) (as := [.inr (.inl (16, 0)), .inl x5]) (rest := []) rfl rfl rfl
theorem b_X5_upPushed_78 (x1 : Int) (x2 : Int) (x3 : Int) (x4 : Int) (x5 : Int) (x6 : Int) (x7 : Int) (s0 : Int) (σ : St) : Rx k_X5_upPushed 78 [.inr (.inl (16, 0)), .inl x1, .inl x2, .inl x3, .inl x4, .inl x5, .inl x6, .inl x7] [.inl s0] σ = some (some (.inl s0), σ) := by
  exact Rx_ret rfl rfl
theorem b_X5_two_0 (x1 : Int) (x2 : Int) (x3 : Int) (u4 : AV) (u5 : AV) (u6 : AV) (u7 : AV) (u8 : AV) (σ : St) : Rx k_X5_two 0 [.inr (.inl (16, 0)), .inl x1, .inl x2, .inl x3, u4, u5, u6, u7, u8] [] σ = (Rx k_X5_isThing 0 [.inr (.inl (16, 0)), .inl x1] [] σ).bind fun q => Rx k_X5_two 5 [.inr (.inl (16, 0)), .inl x1, .inl x2, .inl x3, u4, u5, u6, u7, u8] (q.1.toList ++ []) q.2 := by
  refine (Rx_N (k := 2) (pc' := 2) (ls' := [.inr (.inl (16, 0)), .inl x1, .inl x2, .inl x3, u4, u5, u6, u7, u8]) (st' := [.inl x1, .inr (.inl (16, 0))]) (σ' := σ) rfl).trans ?_
  exact Rx_call (n := 3) (y' := k_X5_isThing) (as := [.inr (.inl (16, 0)), .inl x1]) (rest := []) rfl rfl rfl
theorem b_X5_two_5 (x1 : Int) (x2 : Int) (x3 : Int) (u4 : AV) (u5 : AV) (u6 : AV) (u7 : AV) (u8 : AV) (s0 : Int) (σ : St) : Rx k_X5_two 5 [.inr (.inl (16, 0)), .inl x1, .inl x2, .inl x3, u4, u5, u6, u7, u8] [.inl s0] σ = if s0 = 0 then Rx k_X5_two 21 [.inr (.inl (16, 0)), .inl x1, .inl x2, .inl x3, u4, u5, u6, u7, u8] [] σ else Rx k_X5_two 8 [.inr (.inl (16, 0)), .inl x1, .inl x2, .inl x3, u4, u5, u6, u7, u8] [] σ := by
  exact Rx_eq0 (k := 1) rfl
theorem b_X5_two_8 (x1 : Int) (x2 : Int) (x3 : Int) (u4 : AV) (u5 : AV) (u6 : AV) (u7 : AV) (u8 : AV) (σ : St) : Rx k_X5_two 8 [.inr (.inl (16, 0)), .inl x1, .inl x2, .inl x3, u4, u5, u6, u7, u8] [] σ = (Rx k_X5_isThing 0 [.inr (.inl (16, 0)), .inl x2] [] σ).bind fun q => Rx k_X5_two 13 [.inr (.inl (16, 0)), .inl x1, .inl x2, .inl x3, u4, u5, u6, u7, u8] (q.1.toList ++ []) q.2 := by
  refine (Rx_N (k := 2) (pc' := 10) (ls' := [.inr (.inl (16, 0)), .inl x1, .inl x2, .inl x3, u4, u5, u6, u7, u8]) (st' := [.inl x2, .inr (.inl (16, 0))]) (σ' := σ) rfl).trans ?_
  exact Rx_call (n := 3) (y' := k_X5_isThing) (as := [.inr (.inl (16, 0)), .inl x2]) (rest := []) rfl rfl rfl
theorem b_X5_two_13 (x1 : Int) (x2 : Int) (x3 : Int) (u4 : AV) (u5 : AV) (u6 : AV) (u7 : AV) (u8 : AV) (s0 : Int) (σ : St) : Rx k_X5_two 13 [.inr (.inl (16, 0)), .inl x1, .inl x2, .inl x3, u4, u5, u6, u7, u8] [.inl s0] σ = if s0 = 0 then Rx k_X5_two 21 [.inr (.inl (16, 0)), .inl x1, .inl x2, .inl x3, u4, u5, u6, u7, u8] [] σ else Rx k_X5_two 16 [.inr (.inl (16, 0)), .inl x1, .inl x2, .inl x3, u4, u5, u6, u7, u8] [] σ := by
  exact Rx_eq0 (k := 1) rfl
theorem b_X5_two_16 (x1 : Int) (x2 : Int) (x3 : Int) (u4 : AV) (u5 : AV) (u6 : AV) (u7 : AV) (u8 : AV) (σ : St) : Rx k_X5_two 16 [.inr (.inl (16, 0)), .inl x1, .inl x2, .inl x3, u4, u5, u6, u7, u8] [] σ = if x1 = x2 then Rx k_X5_two 21 [.inr (.inl (16, 0)), .inl x1, .inl x2, .inl x3, u4, u5, u6, u7, u8] [] σ else Rx k_X5_two 25 [.inr (.inl (16, 0)), .inl x1, .inl x2, .inl x3, u4, u5, u6, u7, u8] [] σ := by
  exact Rx_ne0 (k := 3) rfl
theorem b_X5_two_21 (x1 : Int) (x2 : Int) (x3 : Int) (u4 : AV) (u5 : AV) (u6 : AV) (u7 : AV) (u8 : AV) (σ : St) : Rx k_X5_two 21 [.inr (.inl (16, 0)), .inl x1, .inl x2, .inl x3, u4, u5, u6, u7, u8] [] σ = if ((-1) : Int) = (0 : Int) then Rx k_X5_two 45 [.inr (.inl (16, 0)), .inl x1, .inl x2, .inl x3, .inl (-1), u5, u6, u7, u8] [] σ else Rx k_X5_two 38 [.inr (.inl (16, 0)), .inl x1, .inl x2, .inl x3, .inl (-1), u5, u6, u7, u8] [] σ := by
  exact Rx_eq0 (k := 5) rfl
theorem b_X5_two_25 (x1 : Int) (x2 : Int) (x3 : Int) (u4 : AV) (u5 : AV) (u6 : AV) (u7 : AV) (u8 : AV) (σ : St) : Rx k_X5_two 25 [.inr (.inl (16, 0)), .inl x1, .inl x2, .inl x3, u4, u5, u6, u7, u8] [] σ = (Rx k_X5_wrongBy 0 [.inl x3, .inl 99] [] σ).bind fun q => Rx k_X5_two 31 [.inr (.inl (16, 0)), .inl x1, .inl x2, .inl x3, u4, u5, u6, u7, u8] (q.1.toList ++ []) q.2 := by
  refine (Rx_N (k := 2) (pc' := 28) (ls' := [.inr (.inl (16, 0)), .inl x1, .inl x2, .inl x3, u4, u5, u6, u7, u8]) (st' := [.inl 99, .inl x3]) (σ' := σ) rfl).trans ?_
  exact Rx_call (n := 3) (y' := k_X5_wrongBy) (as := [.inl x3, .inl 99]) (rest := []) rfl rfl rfl
theorem b_X5_two_31 (x1 : Int) (x2 : Int) (x3 : Int) (u4 : AV) (u5 : AV) (u6 : AV) (u7 : AV) (u8 : AV) (s0 : Int) (σ : St) : Rx k_X5_two 31 [.inr (.inl (16, 0)), .inl x1, .inl x2, .inl x3, u4, u5, u6, u7, u8] [.inl s0] σ = if s0 = 0 then Rx k_X5_two 45 [.inr (.inl (16, 0)), .inl x1, .inl x2, .inl x3, .inl s0, u5, u6, u7, u8] [] σ else Rx k_X5_two 38 [.inr (.inl (16, 0)), .inl x1, .inl x2, .inl x3, .inl s0, u5, u6, u7, u8] [] σ := by
  exact Rx_eq0 (k := 3) rfl
theorem b_X5_two_38 (x1 : Int) (x2 : Int) (x3 : Int) (x4 : Int) (u5 : AV) (u6 : AV) (u7 : AV) (u8 : AV) (σ : St) : Rx k_X5_two 38 [.inr (.inl (16, 0)), .inl x1, .inl x2, .inl x3, .inl x4, u5, u6, u7, u8] [] σ = (Rx k_X5_no 0 [.inr (.inl (16, 0)), .inl x4] [] σ).bind fun q => Rx k_X5_two 44 [.inr (.inl (16, 0)), .inl x1, .inl x2, .inl x3, .inl x4, u5, u6, u7, u8] (q.1.toList ++ []) q.2 := by
  refine (Rx_N (k := 2) (pc' := 41) (ls' := [.inr (.inl (16, 0)), .inl x1, .inl x2, .inl x3, .inl x4, u5, u6, u7, u8]) (st' := [.inl x4, .inr (.inl (16, 0))]) (σ' := σ) rfl).trans ?_
  exact Rx_call (n := 3) (y' := k_X5_no) (as := [.inr (.inl (16, 0)), .inl x4]) (rest := []) rfl rfl rfl
theorem b_X5_two_44 (x1 : Int) (x2 : Int) (x3 : Int) (x4 : Int) (u5 : AV) (u6 : AV) (u7 : AV) (u8 : AV) (s0 : Int) (σ : St) : Rx k_X5_two 44 [.inr (.inl (16, 0)), .inl x1, .inl x2, .inl x3, .inl x4, u5, u6, u7, u8] [.inl s0] σ = some (some (.inl s0), σ) := by
  exact Rx_ret rfl rfl
theorem b_X5_two_45 (x1 : Int) (x2 : Int) (x3 : Int) (x4 : Int) (u5 : AV) (u6 : AV) (u7 : AV) (u8 : AV) (σ : St) : Rx k_X5_two 45 [.inr (.inl (16, 0)), .inl x1, .inl x2, .inl x3, .inl x4, u5, u6, u7, u8] [] σ = Rx k_X5_two 48 [.inr (.inl (16, 0)), .inl x1, .inl x2, .inl x3, .inl x4, .inl 0, u6, u7, u8] [] σ := by
  refine (Rx_N (k := 2) (pc' := 48) (ls' := [.inr (.inl (16, 0)), .inl x1, .inl x2, .inl x3, .inl x4, .inl 0, u6, u7, u8]) (st' := []) (σ' := σ) rfl).trans ?_
  rfl
theorem b_X5_two_48 (x1 : Int) (x2 : Int) (x3 : Int) (x4 : Int) (x5 : Int) (u6 : AV) (u7 : AV) (u8 : AV) (σ : St) : Rx k_X5_two 48 [.inr (.inl (16, 0)), .inl x1, .inl x2, .inl x3, .inl x4, .inl x5, u6, u7, u8] [] σ = if x5 < 4 then Rx k_X5_two 54 [.inr (.inl (16, 0)), .inl x1, .inl x2, .inl x3, .inl x4, .inl x5, u6, u7, u8] [] σ else Rx k_X5_two 130 [.inr (.inl (16, 0)), .inl x1, .inl x2, .inl x3, .inl x4, .inl x5, u6, u7, u8] [] σ := by
  exact Rx_ge0 (k := 3) rfl
theorem r_X5_two_54 (x1 : Int) (x2 : Int) (x3 : Int) (x4 : Int) (x5 : Int) (u6 : AV) (u7 : AV) (u8 : AV) (σ : St) : Rx k_X5_two 54 [.inr (.inl (16, 0)), .inl x1, .inl x2, .inl x3, .inl x4, .inl x5, u6, u7, u8] [] σ = (Rx k_X5_upPushed 0 [.inr (.inl (16, 0)), .inl x1, .inl (wr (x5.tdiv 2)), .inl x2, .inl (x5.tmod 2), .inl x3, uns, uns] [] σ).bind fun q => Rx k_X5_two 77 [.inr (.inl (16, 0)), .inl x1, .inl x2, .inl x3, .inl x4, .inl x5, .inl (wr (x5.tdiv 2)), .inl (x5.tmod 2), u8] (q.1.toList ++ []) q.2 := by
  refine (Rx_N (k := 14) (pc' := 74) (ls' := [.inr (.inl (16, 0)), .inl x1, .inl x2, .inl x3, .inl x4, .inl x5, .inl (wr (x5.tdiv 2)), .inl (x5.tmod 2), u8]) (st' := [.inl x3, .inl (x5.tmod 2), .inl x2, .inl (wr (x5.tdiv 2)), .inl x1, .inr (.inl (16, 0))]) (σ' := σ) rfl).trans ?_
  exact Rx_call (n := 3) (y' := k_X5_upPushed) (as := [.inr (.inl (16, 0)), .inl x1, .inl (wr (x5.tdiv 2)), .inl x2, .inl (x5.tmod 2), .inl x3]) (rest := []) rfl rfl rfl
theorem b_X5_two_54 (x1 : Int) (x2 : Int) (x3 : Int) (x4 : Int) (x5 : Int) (u6 : AV) (u7 : AV) (u8 : AV) (σ : St) (g0a : -2147483648 ≤ (x5.tdiv 2)) (g0b : (x5.tdiv 2) < 2147483648) : Rx k_X5_two 54 [.inr (.inl (16, 0)), .inl x1, .inl x2, .inl x3, .inl x4, .inl x5, u6, u7, u8] [] σ = (Rx k_X5_upPushed 0 [.inr (.inl (16, 0)), .inl x1, .inl (x5.tdiv 2), .inl x2, .inl (x5.tmod 2), .inl x3, uns, uns] [] σ).bind fun q => Rx k_X5_two 77 [.inr (.inl (16, 0)), .inl x1, .inl x2, .inl x3, .inl x4, .inl x5, .inl (x5.tdiv 2), .inl (x5.tmod 2), u8] (q.1.toList ++ []) q.2 := by
  have e0 := wr_id (x := (x5.tdiv 2)) g0a g0b
  have raw := r_X5_two_54 x1 x2 x3 x4 x5 u6 u7 u8 σ 
  simp only [e0] at raw
  exact raw
theorem r_X5_two_77 (x1 : Int) (x2 : Int) (x3 : Int) (x4 : Int) (x5 : Int) (x6 : Int) (x7 : Int) (u8 : AV) (s0 : Int) (σ : St) : Rx k_X5_two 77 [.inr (.inl (16, 0)), .inl x1, .inl x2, .inl x3, .inl x4, .inl x5, .inl x6, .inl x7, u8] [.inl s0] σ = (Rx k_X5_upPushed 0 [.inr (.inl (16, 0)), .inl x1, .inl (wr (1 - x6)), .inl x2, .inl x7, .inl x3, uns, uns] [] σ).bind fun q => Rx k_X5_two 92 [.inr (.inl (16, 0)), .inl x1, .inl x2, .inl x3, .inl x4, .inl x5, .inl x6, .inl x7, .inl s0] (q.1.toList ++ []) q.2 := by
  refine (Rx_N (k := 9) (pc' := 89) (ls' := [.inr (.inl (16, 0)), .inl x1, .inl x2, .inl x3, .inl x4, .inl x5, .inl x6, .inl x7, .inl s0]) (st' := [.inl x3, .inl x7, .inl x2, .inl (wr (1 - x6)), .inl x1, .inr (.inl (16, 0))]) (σ' := σ) rfl).trans ?_
  exact Rx_call (n := 3) (y' := k_X5_upPushed) (as := [.inr (.inl (16, 0)), .inl x1, .inl (wr (1 - x6)), .inl x2, .inl x7, .inl x3]) (rest := []) rfl rfl rfl
theorem b_X5_two_77 (x1 : Int) (x2 : Int) (x3 : Int) (x4 : Int) (x5 : Int) (x6 : Int) (x7 : Int) (u8 : AV) (s0 : Int) (σ : St) (g0a : -2147483648 ≤ (1 - x6)) (g0b : (1 - x6) < 2147483648) : Rx k_X5_two 77 [.inr (.inl (16, 0)), .inl x1, .inl x2, .inl x3, .inl x4, .inl x5, .inl x6, .inl x7, u8] [.inl s0] σ = (Rx k_X5_upPushed 0 [.inr (.inl (16, 0)), .inl x1, .inl (1 - x6), .inl x2, .inl x7, .inl x3, uns, uns] [] σ).bind fun q => Rx k_X5_two 92 [.inr (.inl (16, 0)), .inl x1, .inl x2, .inl x3, .inl x4, .inl x5, .inl x6, .inl x7, .inl s0] (q.1.toList ++ []) q.2 := by
  have e0 := wr_id (x := (1 - x6)) g0a g0b
  have raw := r_X5_two_77 x1 x2 x3 x4 x5 x6 x7 u8 s0 σ 
  simp only [e0] at raw
  exact raw
theorem b_X5_two_92 (x1 : Int) (x2 : Int) (x3 : Int) (x4 : Int) (x5 : Int) (x6 : Int) (x7 : Int) (x8 : Int) (s0 : Int) (σ : St) : Rx k_X5_two 92 [.inr (.inl (16, 0)), .inl x1, .inl x2, .inl x3, .inl x4, .inl x5, .inl x6, .inl x7, .inl x8] [.inl s0] σ = if x8 < s0 then Rx k_X5_two 124 [.inr (.inl (16, 0)), .inl x1, .inl x2, .inl x3, .inl x4, .inl x5, .inl x6, .inl x7, .inl x8] [] σ else Rx k_X5_two 97 [.inr (.inl (16, 0)), .inl x1, .inl x2, .inl x3, .inl x4, .inl x5, .inl x6, .inl x7, .inl x8] [] σ := by
  exact Rx_gt0 (k := 2) rfl
theorem r_X5_two_97 (x1 : Int) (x2 : Int) (x3 : Int) (x4 : Int) (x5 : Int) (x6 : Int) (x7 : Int) (x8 : Int) (σ : St) : Rx k_X5_two 97 [.inr (.inl (16, 0)), .inl x1, .inl x2, .inl x3, .inl x4, .inl x5, .inl x6, .inl x7, .inl x8] [] σ = (Rx k_X5_upPushed 0 [.inr (.inl (16, 0)), .inl x1, .inl x6, .inl x2, .inl (wr (1 - x7)), .inl x3, uns, uns] [] σ).bind fun q => Rx k_X5_two 110 [.inr (.inl (16, 0)), .inl x1, .inl x2, .inl x3, .inl x4, .inl x5, .inl x6, .inl x7, .inl x8] (q.1.toList ++ []) q.2 := by
  refine (Rx_N (k := 8) (pc' := 107) (ls' := [.inr (.inl (16, 0)), .inl x1, .inl x2, .inl x3, .inl x4, .inl x5, .inl x6, .inl x7, .inl x8]) (st' := [.inl x3, .inl (wr (1 - x7)), .inl x2, .inl x6, .inl x1, .inr (.inl (16, 0))]) (σ' := σ) rfl).trans ?_
  exact Rx_call (n := 3) (y' := k_X5_upPushed) (as := [.inr (.inl (16, 0)), .inl x1, .inl x6, .inl x2, .inl (wr (1 - x7)), .inl x3]) (rest := []) rfl rfl rfl
theorem b_X5_two_97 (x1 : Int) (x2 : Int) (x3 : Int) (x4 : Int) (x5 : Int) (x6 : Int) (x7 : Int) (x8 : Int) (σ : St) (g0a : -2147483648 ≤ (1 - x7)) (g0b : (1 - x7) < 2147483648) : Rx k_X5_two 97 [.inr (.inl (16, 0)), .inl x1, .inl x2, .inl x3, .inl x4, .inl x5, .inl x6, .inl x7, .inl x8] [] σ = (Rx k_X5_upPushed 0 [.inr (.inl (16, 0)), .inl x1, .inl x6, .inl x2, .inl (1 - x7), .inl x3, uns, uns] [] σ).bind fun q => Rx k_X5_two 110 [.inr (.inl (16, 0)), .inl x1, .inl x2, .inl x3, .inl x4, .inl x5, .inl x6, .inl x7, .inl x8] (q.1.toList ++ []) q.2 := by
  have e0 := wr_id (x := (1 - x7)) g0a g0b
  have raw := r_X5_two_97 x1 x2 x3 x4 x5 x6 x7 x8 σ 
  simp only [e0] at raw
  exact raw
theorem b_X5_two_110 (x1 : Int) (x2 : Int) (x3 : Int) (x4 : Int) (x5 : Int) (x6 : Int) (x7 : Int) (x8 : Int) (s0 : Int) (σ : St) : Rx k_X5_two 110 [.inr (.inl (16, 0)), .inl x1, .inl x2, .inl x3, .inl x4, .inl x5, .inl x6, .inl x7, .inl x8] [.inl s0] σ = if s0 < x8 then Rx k_X5_two 124 [.inr (.inl (16, 0)), .inl x1, .inl x2, .inl x3, .inl x4, .inl x5, .inl x6, .inl x7, .inl x8] [] σ else Rx k_X5_two 115 [.inr (.inl (16, 0)), .inl x1, .inl x2, .inl x3, .inl x4, .inl x5, .inl x6, .inl x7, .inl x8] [] σ := by
  exact Rx_lt0 (k := 2) rfl
theorem r_X5_two_115 (x1 : Int) (x2 : Int) (x3 : Int) (x4 : Int) (x5 : Int) (x6 : Int) (x7 : Int) (x8 : Int) (σ : St) : Rx k_X5_two 115 [.inr (.inl (16, 0)), .inl x1, .inl x2, .inl x3, .inl x4, .inl x5, .inl x6, .inl x7, .inl x8] [] σ = some (some (.inl (wr ((wr (10 * x6)) + x7))), σ) := by
  refine (Rx_N (k := 5) (pc' := 123) (ls' := [.inr (.inl (16, 0)), .inl x1, .inl x2, .inl x3, .inl x4, .inl x5, .inl x6, .inl x7, .inl x8]) (st' := [.inl (wr ((wr (10 * x6)) + x7))]) (σ' := σ) rfl).trans ?_
  exact Rx_ret rfl rfl
theorem b_X5_two_115 (x1 : Int) (x2 : Int) (x3 : Int) (x4 : Int) (x5 : Int) (x6 : Int) (x7 : Int) (x8 : Int) (σ : St) (g0a : -2147483648 ≤ (10 * x6)) (g0b : (10 * x6) < 2147483648) (g1a : -2147483648 ≤ (((10 * x6)) + x7)) (g1b : (((10 * x6)) + x7) < 2147483648) : Rx k_X5_two 115 [.inr (.inl (16, 0)), .inl x1, .inl x2, .inl x3, .inl x4, .inl x5, .inl x6, .inl x7, .inl x8] [] σ = some (some (.inl (((10 * x6)) + x7)), σ) := by
  have e0 := wr_id (x := (10 * x6)) g0a g0b
  have e1 := wr_id (x := (((10 * x6)) + x7)) g1a g1b
  have raw := r_X5_two_115 x1 x2 x3 x4 x5 x6 x7 x8 σ 
  simp only [e0, e1] at raw
  exact raw
theorem r_X5_two_124 (x1 : Int) (x2 : Int) (x3 : Int) (x4 : Int) (x5 : Int) (x6 : Int) (x7 : Int) (x8 : Int) (σ : St) : Rx k_X5_two 124 [.inr (.inl (16, 0)), .inl x1, .inl x2, .inl x3, .inl x4, .inl x5, .inl x6, .inl x7, .inl x8] [] σ = Rx k_X5_two 48 [.inr (.inl (16, 0)), .inl x1, .inl x2, .inl x3, .inl x4, .inl (wr (x5 + 1)), .inl x6, .inl x7, .inl x8] [] σ := by
  refine (Rx_N (k := 2) (pc' := 48) (ls' := [.inr (.inl (16, 0)), .inl x1, .inl x2, .inl x3, .inl x4, .inl (wr (x5 + 1)), .inl x6, .inl x7, .inl x8]) (st' := []) (σ' := σ) rfl).trans ?_
  rfl
theorem b_X5_two_124 (x1 : Int) (x2 : Int) (x3 : Int) (x4 : Int) (x5 : Int) (x6 : Int) (x7 : Int) (x8 : Int) (σ : St) (g0a : -2147483648 ≤ (x5 + 1)) (g0b : (x5 + 1) < 2147483648) : Rx k_X5_two 124 [.inr (.inl (16, 0)), .inl x1, .inl x2, .inl x3, .inl x4, .inl x5, .inl x6, .inl x7, .inl x8] [] σ = Rx k_X5_two 48 [.inr (.inl (16, 0)), .inl x1, .inl x2, .inl x3, .inl x4, .inl (x5 + 1), .inl x6, .inl x7, .inl x8] [] σ := by
  have e0 := wr_id (x := (x5 + 1)) g0a g0b
  have raw := r_X5_two_124 x1 x2 x3 x4 x5 x6 x7 x8 σ 
  simp only [e0] at raw
  exact raw
theorem b_X5_two_130 (x1 : Int) (x2 : Int) (x3 : Int) (x4 : Int) (x5 : Int) (u6 : AV) (u7 : AV) (u8 : AV) (σ : St) : Rx k_X5_two 130 [.inr (.inl (16, 0)), .inl x1, .inl x2, .inl x3, .inl x4, .inl x5, u6, u7, u8] [] σ = some (some (.inl (-9)), σ) := by
  refine (Rx_N (k := 1) (pc' := 132) (ls' := [.inr (.inl (16, 0)), .inl x1, .inl x2, .inl x3, .inl x4, .inl x5, u6, u7, u8]) (st' := [.inl (-9)]) (σ' := σ) rfl).trans ?_
  exact Rx_ret rfl rfl
theorem b_X5_whatWas_0 (x1 : Int) (x2 : Int) (u3 : AV) (u4 : AV) (u5 : AV) (u6 : AV) (σ : St) : Rx k_X5_whatWas 0 [.inr (.inl (16, 0)), .inl x1, .inl x2, u3, u4, u5, u6] [] σ = (Rx k_X5_isPurpose 0 [.inr (.inl (16, 0)), .inl x1] [] σ).bind fun q => Rx k_X5_whatWas 5 [.inr (.inl (16, 0)), .inl x1, .inl x2, u3, u4, u5, u6] (q.1.toList ++ []) q.2 := by
  refine (Rx_N (k := 2) (pc' := 2) (ls' := [.inr (.inl (16, 0)), .inl x1, .inl x2, u3, u4, u5, u6]) (st' := [.inl x1, .inr (.inl (16, 0))]) (σ' := σ) rfl).trans ?_
  exact Rx_call (n := 3) (y' := k_X5_isPurpose) (as := [.inr (.inl (16, 0)), .inl x1]) (rest := []) rfl rfl rfl
theorem b_X5_whatWas_5 (x1 : Int) (x2 : Int) (u3 : AV) (u4 : AV) (u5 : AV) (u6 : AV) (s0 : Int) (σ : St) : Rx k_X5_whatWas 5 [.inr (.inl (16, 0)), .inl x1, .inl x2, u3, u4, u5, u6] [.inl s0] σ = if s0 = 0 then Rx k_X5_whatWas 8 [.inr (.inl (16, 0)), .inl x1, .inl x2, u3, u4, u5, u6] [] σ else Rx k_X5_whatWas 14 [.inr (.inl (16, 0)), .inl x1, .inl x2, u3, u4, u5, u6] [] σ := by
  exact Rx_ne0 (k := 1) rfl
theorem b_X5_whatWas_8 (x1 : Int) (x2 : Int) (u3 : AV) (u4 : AV) (u5 : AV) (u6 : AV) (σ : St) : Rx k_X5_whatWas 8 [.inr (.inl (16, 0)), .inl x1, .inl x2, u3, u4, u5, u6] [] σ = (Rx k_X5_no 0 [.inr (.inl (16, 0)), .inl (-1)] [] σ).bind fun q => Rx k_X5_whatWas 13 [.inr (.inl (16, 0)), .inl x1, .inl x2, u3, u4, u5, u6] (q.1.toList ++ []) q.2 := by
  refine (Rx_N (k := 2) (pc' := 10) (ls' := [.inr (.inl (16, 0)), .inl x1, .inl x2, u3, u4, u5, u6]) (st' := [.inl (-1), .inr (.inl (16, 0))]) (σ' := σ) rfl).trans ?_
  exact Rx_call (n := 3) (y' := k_X5_no) (as := [.inr (.inl (16, 0)), .inl (-1)]) (rest := []) rfl rfl rfl
theorem b_X5_whatWas_13 (x1 : Int) (x2 : Int) (u3 : AV) (u4 : AV) (u5 : AV) (u6 : AV) (s0 : Int) (σ : St) : Rx k_X5_whatWas 13 [.inr (.inl (16, 0)), .inl x1, .inl x2, u3, u4, u5, u6] [.inl s0] σ = some (some (.inl s0), σ) := by
  exact Rx_ret rfl rfl
theorem b_X5_whatWas_14 (x1 : Int) (x2 : Int) (u3 : AV) (u4 : AV) (u5 : AV) (u6 : AV) (σ : St) : Rx k_X5_whatWas 14 [.inr (.inl (16, 0)), .inl x1, .inl x2, u3, u4, u5, u6] [] σ = (Rx k_X5_isIn 0 [.inl x2, .inl 0, .inl 1] [] σ).bind fun q => Rx k_X5_whatWas 20 [.inr (.inl (16, 0)), .inl x1, .inl x2, u3, u4, u5, u6] (q.1.toList ++ []) q.2 := by
  refine (Rx_N (k := 3) (pc' := 17) (ls' := [.inr (.inl (16, 0)), .inl x1, .inl x2, u3, u4, u5, u6]) (st' := [.inl 1, .inl 0, .inl x2]) (σ' := σ) rfl).trans ?_
  exact Rx_call (n := 3) (y' := k_X5_isIn) (as := [.inl x2, .inl 0, .inl 1]) (rest := []) rfl rfl rfl
theorem b_X5_whatWas_20 (x1 : Int) (x2 : Int) (u3 : AV) (u4 : AV) (u5 : AV) (u6 : AV) (s0 : Int) (σ : St) : Rx k_X5_whatWas 20 [.inr (.inl (16, 0)), .inl x1, .inl x2, u3, u4, u5, u6] [.inl s0] σ = if s0 = 0 then Rx k_X5_whatWas 23 [.inr (.inl (16, 0)), .inl x1, .inl x2, u3, u4, u5, u6] [] σ else Rx k_X5_whatWas 30 [.inr (.inl (16, 0)), .inl x1, .inl x2, u3, u4, u5, u6] [] σ := by
  exact Rx_ne0 (k := 1) rfl
theorem b_X5_whatWas_23 (x1 : Int) (x2 : Int) (u3 : AV) (u4 : AV) (u5 : AV) (u6 : AV) (σ : St) : Rx k_X5_whatWas 23 [.inr (.inl (16, 0)), .inl x1, .inl x2, u3, u4, u5, u6] [] σ = (Rx k_X5_no 0 [.inr (.inl (16, 0)), .inl (-2)] [] σ).bind fun q => Rx k_X5_whatWas 29 [.inr (.inl (16, 0)), .inl x1, .inl x2, u3, u4, u5, u6] (q.1.toList ++ []) q.2 := by
  refine (Rx_N (k := 2) (pc' := 26) (ls' := [.inr (.inl (16, 0)), .inl x1, .inl x2, u3, u4, u5, u6]) (st' := [.inl (-2), .inr (.inl (16, 0))]) (σ' := σ) rfl).trans ?_
  exact Rx_call (n := 3) (y' := k_X5_no) (as := [.inr (.inl (16, 0)), .inl (-2)]) (rest := []) rfl rfl rfl
theorem b_X5_whatWas_29 (x1 : Int) (x2 : Int) (u3 : AV) (u4 : AV) (u5 : AV) (u6 : AV) (s0 : Int) (σ : St) : Rx k_X5_whatWas 29 [.inr (.inl (16, 0)), .inl x1, .inl x2, u3, u4, u5, u6] [.inl s0] σ = some (some (.inl s0), σ) := by
  exact Rx_ret rfl rfl
theorem b_X5_whatWas_30 (x1 : Int) (x2 : Int) (u3 : AV) (u4 : AV) (u5 : AV) (u6 : AV) (σ : St) : Rx k_X5_whatWas 30 [.inr (.inl (16, 0)), .inl x1, .inl x2, u3, u4, u5, u6] [] σ = Rx k_X5_whatWas 35 [.inr (.inl (16, 0)), .inl x1, .inl x2, .inl 0, .inl 0, u5, u6] [] σ := by
  refine (Rx_N (k := 4) (pc' := 35) (ls' := [.inr (.inl (16, 0)), .inl x1, .inl x2, .inl 0, .inl 0, u5, u6]) (st' := []) (σ' := σ) rfl).trans ?_
  rfl
theorem b_X5_whatWas_35 (x1 : Int) (x2 : Int) (x3 : Int) (x4 : Int) (u5 : AV) (u6 : AV) (σ : St) : Rx k_X5_whatWas 35 [.inr (.inl (16, 0)), .inl x1, .inl x2, .inl x3, .inl x4, u5, u6] [] σ = if x2 = 0 then Rx k_X5_whatWas 41 [.inr (.inl (16, 0)), .inl x1, .inl x2, .inl x3, .inl x4, u5, u6] [.inl x4] σ else Rx k_X5_whatWas 46 [.inr (.inl (16, 0)), .inl x1, .inl x2, .inl x3, .inl x4, u5, u6] [.inl x4] σ := by
  exact Rx_ne0 (k := 3) rfl
theorem b_X5_whatWas_41 (x1 : Int) (x2 : Int) (x3 : Int) (x4 : Int) (u5 : AV) (u6 : AV) (s0 : Int) (σ : St) : Rx k_X5_whatWas 41 [.inr (.inl (16, 0)), .inl x1, .inl x2, .inl x3, .inl x4, u5, u6] [.inl s0] σ = if s0 < 6 then Rx k_X5_whatWas 51 [.inr (.inl (16, 0)), .inl x1, .inl x2, .inl x3, .inl x4, u5, u6] [] σ else Rx k_X5_whatWas 157 [.inr (.inl (16, 0)), .inl x1, .inl x2, .inl x3, .inl x4, u5, u6] [] σ := by
  exact Rx_ge0 (k := 3) rfl
theorem b_X5_whatWas_46 (x1 : Int) (x2 : Int) (x3 : Int) (x4 : Int) (u5 : AV) (u6 : AV) (s0 : Int) (σ : St) : Rx k_X5_whatWas 46 [.inr (.inl (16, 0)), .inl x1, .inl x2, .inl x3, .inl x4, u5, u6] [.inl s0] σ = if s0 < 10 then Rx k_X5_whatWas 51 [.inr (.inl (16, 0)), .inl x1, .inl x2, .inl x3, .inl x4, u5, u6] [] σ else Rx k_X5_whatWas 157 [.inr (.inl (16, 0)), .inl x1, .inl x2, .inl x3, .inl x4, u5, u6] [] σ := by
  exact Rx_ge0 (k := 2) rfl
theorem b_X5_whatWas_51 (x1 : Int) (x2 : Int) (x3 : Int) (x4 : Int) (u5 : AV) (u6 : AV) (σ : St) : Rx k_X5_whatWas 51 [.inr (.inl (16, 0)), .inl x1, .inl x2, .inl x3, .inl x4, u5, u6] [] σ = (Rx k_X5_copies 0 [.inr (.inl (17, 0)), .inr (.inl (17, 1)), uns] [] σ).bind fun q => Rx k_X5_whatWas 65 [.inr (.inl (16, 0)), .inl x1, .inl x2, .inl x3, .inl x4, .inl 1, u6] (q.1.toList ++ []) q.2 := by
  refine (Rx_N (k := 6) (pc' := 62) (ls' := [.inr (.inl (16, 0)), .inl x1, .inl x2, .inl x3, .inl x4, .inl 1, u6]) (st' := [.inr (.inl (17, 1)), .inr (.inl (17, 0))]) (σ' := σ) rfl).trans ?_
  exact Rx_call (n := 3) (y' := k_X5_copies) (as := [.inr (.inl (17, 0)), .inr (.inl (17, 1))]) (rest := []) rfl rfl rfl
theorem b_X5_whatWas_65 (x1 : Int) (x2 : Int) (x3 : Int) (x4 : Int) (x5 : Int) (u6 : AV) (σ : St) : Rx k_X5_whatWas 65 [.inr (.inl (16, 0)), .inl x1, .inl x2, .inl x3, .inl x4, .inl x5, u6] [] σ = (Rx k_X5_ofP 0 [.inl x1] [] σ).bind fun q => Rx k_X5_whatWas 73 [.inr (.inl (16, 0)), .inl x1, .inl x2, .inl x3, .inl x4, .inl x5, u6] (q.1.toList ++ [.inr (.inl (17, 1))]) q.2 := by
  refine (Rx_N (k := 3) (pc' := 70) (ls' := [.inr (.inl (16, 0)), .inl x1, .inl x2, .inl x3, .inl x4, .inl x5, u6]) (st' := [.inl x1, .inr (.inl (17, 1))]) (σ' := σ) rfl).trans ?_
  exact Rx_call (n := 3) (y' := k_X5_ofP) (as := [.inl x1]) (rest := [.inr (.inl (17, 1))]) rfl rfl rfl
theorem r_X5_whatWas_73 (x1 : Int) (x2 : Int) (x3 : Int) (x4 : Int) (x5 : Int) (u6 : AV) (s1 : Int) (σ : St) (h0 : 0 ≤ (wr (s1 + x2))) (h1 : (wr (s1 + x2)) < 58) : Rx k_X5_whatWas 73 [.inr (.inl (16, 0)), .inl x1, .inl x2, .inl x3, .inl x4, .inl x5, u6] [.inl s1, .inr (.inl (17, 1))] σ = Rx k_X5_whatWas 81 [.inr (.inl (16, 0)), .inl x1, .inl x2, .inl x3, .inl x4, .inl x5, .inl 0] [] (up σ 17 1 ((wr (s1 + x2)).toNat) x4) := by
  refine (Rx_N (k := 3) (pc' := 77) (ls' := [.inr (.inl (16, 0)), .inl x1, .inl x2, .inl x3, .inl x4, .inl x5, u6]) (st' := [.inl x4, .inl (wr (s1 + x2)), .inr (.inl (17, 1))]) (σ' := σ) rfl).trans ?_
  refine (Rx_ist 58 rfl rfl h0 h1).trans ?_
  refine (Rx_N (k := 2) (pc' := 81) (ls' := [.inr (.inl (16, 0)), .inl x1, .inl x2, .inl x3, .inl x4, .inl x5, .inl 0]) (st' := []) (σ' := (up σ 17 1 ((wr (s1 + x2)).toNat) x4)) rfl).trans ?_
  rfl
theorem b_X5_whatWas_73 (x1 : Int) (x2 : Int) (x3 : Int) (x4 : Int) (x5 : Int) (u6 : AV) (s1 : Int) (σ : St) (h0 : 0 ≤ (s1 + x2)) (h1 : (s1 + x2) < 58) (g0a : -2147483648 ≤ (s1 + x2)) (g0b : (s1 + x2) < 2147483648) : Rx k_X5_whatWas 73 [.inr (.inl (16, 0)), .inl x1, .inl x2, .inl x3, .inl x4, .inl x5, u6] [.inl s1, .inr (.inl (17, 1))] σ = Rx k_X5_whatWas 81 [.inr (.inl (16, 0)), .inl x1, .inl x2, .inl x3, .inl x4, .inl x5, .inl 0] [] (up σ 17 1 (((s1 + x2)).toNat) x4) := by
  have e0 := wr_id (x := (s1 + x2)) g0a g0b
  have raw := r_X5_whatWas_73 x1 x2 x3 x4 x5 u6 s1 σ (by simp only [e0]; exact h0) (by simp only [e0]; exact h1)
  simp only [e0] at raw
  exact raw
theorem b_X5_whatWas_81 (x1 : Int) (x2 : Int) (x3 : Int) (x4 : Int) (x5 : Int) (x6 : Int) (σ : St) : Rx k_X5_whatWas 81 [.inr (.inl (16, 0)), .inl x1, .inl x2, .inl x3, .inl x4, .inl x5, .inl x6] [] σ = if x6 < (σ 16 0 10) then Rx k_X5_whatWas 90 [.inr (.inl (16, 0)), .inl x1, .inl x2, .inl x3, .inl x4, .inl x5, .inl x6] [] σ else Rx k_X5_whatWas 135 [.inr (.inl (16, 0)), .inl x1, .inl x2, .inl x3, .inl x4, .inl x5, .inl x6] [] σ := by
  exact Rx_ge0 (k := 4) rfl
theorem b_X5_whatWas_90 (x1 : Int) (x2 : Int) (x3 : Int) (x4 : Int) (x5 : Int) (x6 : Int) (σ : St) : Rx k_X5_whatWas 90 [.inr (.inl (16, 0)), .inl x1, .inl x2, .inl x3, .inl x4, .inl x5, .inl x6] [] σ = (Rx k_X5_ofP 0 [.inl x1] [] σ).bind fun q => Rx k_X5_whatWas 100 [.inr (.inl (16, 0)), .inl x1, .inl x2, .inl x3, .inl x4, .inl x5, .inl x6] (q.1.toList ++ [.inr (.inl (17, 1)), .inl x5]) q.2 := by
  refine (Rx_N (k := 4) (pc' := 97) (ls' := [.inr (.inl (16, 0)), .inl x1, .inl x2, .inl x3, .inl x4, .inl x5, .inl x6]) (st' := [.inl x1, .inr (.inl (17, 1)), .inl x5]) (σ' := σ) rfl).trans ?_
  exact Rx_call (n := 3) (y' := k_X5_ofP) (as := [.inl x1]) (rest := [.inr (.inl (17, 1)), .inl x5]) rfl rfl rfl
theorem r_X5_whatWas_100 (x1 : Int) (x2 : Int) (x3 : Int) (x4 : Int) (x5 : Int) (x6 : Int) (s2 : Int) (s0 : Int) (σ : St) (h0 : 0 ≤ (wr (s2 + 2))) (h1 : (wr (s2 + 2)) < 58) (h2 : 0 ≤ x6) (h3 : x6 < 16) : Rx k_X5_whatWas 100 [.inr (.inl (16, 0)), .inl x1, .inl x2, .inl x3, .inl x4, .inl x5, .inl x6] [.inl s2, .inr (.inl (17, 1)), .inl s0] σ = if (σ 17 1 (wr (s2 + 2)).toNat) = (σ 20 0 x6.toNat) then Rx k_X5_whatWas 113 [.inr (.inl (16, 0)), .inl x1, .inl x2, .inl x3, .inl x4, .inl x5, .inl x6] [.inl s0] σ else Rx k_X5_whatWas 117 [.inr (.inl (16, 0)), .inl x1, .inl x2, .inl x3, .inl x4, .inl x5, .inl x6] [.inl s0] σ := by
  refine (Rx_N (k := 2) (pc' := 102) (ls' := [.inr (.inl (16, 0)), .inl x1, .inl x2, .inl x3, .inl x4, .inl x5, .inl x6]) (st' := [.inl (wr (s2 + 2)), .inr (.inl (17, 1)), .inl s0]) (σ' := σ) rfl).trans ?_
  refine (Rx_ild 58 rfl rfl rfl h0 h1).trans ?_
  refine (Rx_N (k := 3) (pc' := 109) (ls' := [.inr (.inl (16, 0)), .inl x1, .inl x2, .inl x3, .inl x4, .inl x5, .inl x6]) (st' := [.inl x6, .inr (.inl (20, 0)), .inl (σ 17 1 (wr (s2 + 2)).toNat), .inl s0]) (σ' := σ) rfl).trans ?_
  refine (Rx_ild 16 rfl rfl rfl h2 h3).trans ?_
  exact Rx_ne0 (k := 1) rfl
theorem b_X5_whatWas_100 (x1 : Int) (x2 : Int) (x3 : Int) (x4 : Int) (x5 : Int) (x6 : Int) (s2 : Int) (s0 : Int) (σ : St) (h0 : 0 ≤ (s2 + 2)) (h1 : (s2 + 2) < 58) (h2 : 0 ≤ x6) (h3 : x6 < 16) (g0a : -2147483648 ≤ (s2 + 2)) (g0b : (s2 + 2) < 2147483648) : Rx k_X5_whatWas 100 [.inr (.inl (16, 0)), .inl x1, .inl x2, .inl x3, .inl x4, .inl x5, .inl x6] [.inl s2, .inr (.inl (17, 1)), .inl s0] σ = if (σ 17 1 (s2 + 2).toNat) = (σ 20 0 x6.toNat) then Rx k_X5_whatWas 113 [.inr (.inl (16, 0)), .inl x1, .inl x2, .inl x3, .inl x4, .inl x5, .inl x6] [.inl s0] σ else Rx k_X5_whatWas 117 [.inr (.inl (16, 0)), .inl x1, .inl x2, .inl x3, .inl x4, .inl x5, .inl x6] [.inl s0] σ := by
  have e0 := wr_id (x := (s2 + 2)) g0a g0b
  have raw := r_X5_whatWas_100 x1 x2 x3 x4 x5 x6 s2 s0 σ (by simp only [e0]; exact h0) (by simp only [e0]; exact h1) h2 h3
  simp only [e0] at raw
  exact raw
theorem b_X5_whatWas_113 (x1 : Int) (x2 : Int) (x3 : Int) (x4 : Int) (x5 : Int) (x6 : Int) (s0 : Int) (σ : St) : Rx k_X5_whatWas 113 [.inr (.inl (16, 0)), .inl x1, .inl x2, .inl x3, .inl x4, .inl x5, .inl x6] [.inl s0] σ = (Rx k_X5_day 0 [.inr (.inl (16, 0)), .inr (.inl (17, 1)), uns, uns, uns] [] σ).bind fun q => Rx k_X5_whatWas 129 [.inr (.inl (16, 0)), .inl x1, .inl x2, .inl x3, .inl x4, .inl (bAnd s0 1), .inl x6] (q.1.toList ++ []) q.2 := by
  refine (Rx_N (k := 7) (pc' := 126) (ls' := [.inr (.inl (16, 0)), .inl x1, .inl x2, .inl x3, .inl x4, .inl (bAnd s0 1), .inl x6]) (st' := [.inr (.inl (17, 1)), .inr (.inl (16, 0))]) (σ' := σ) rfl).trans ?_
  exact Rx_call (n := 3) (y' := k_X5_day) (as := [.inr (.inl (16, 0)), .inr (.inl (17, 1))]) (rest := []) rfl rfl rfl
theorem b_X5_whatWas_117 (x1 : Int) (x2 : Int) (x3 : Int) (x4 : Int) (x5 : Int) (x6 : Int) (s0 : Int) (σ : St) : Rx k_X5_whatWas 117 [.inr (.inl (16, 0)), .inl x1, .inl x2, .inl x3, .inl x4, .inl x5, .inl x6] [.inl s0] σ = (Rx k_X5_day 0 [.inr (.inl (16, 0)), .inr (.inl (17, 1)), uns, uns, uns] [] σ).bind fun q => Rx k_X5_whatWas 129 [.inr (.inl (16, 0)), .inl x1, .inl x2, .inl x3, .inl x4, .inl (bAnd s0 0), .inl x6] (q.1.toList ++ []) q.2 := by
  refine (Rx_N (k := 6) (pc' := 126) (ls' := [.inr (.inl (16, 0)), .inl x1, .inl x2, .inl x3, .inl x4, .inl (bAnd s0 0), .inl x6]) (st' := [.inr (.inl (17, 1)), .inr (.inl (16, 0))]) (σ' := σ) rfl).trans ?_
  exact Rx_call (n := 3) (y' := k_X5_day) (as := [.inr (.inl (16, 0)), .inr (.inl (17, 1))]) (rest := []) rfl rfl rfl
theorem r_X5_whatWas_129 (x1 : Int) (x2 : Int) (x3 : Int) (x4 : Int) (x5 : Int) (x6 : Int) (σ : St) : Rx k_X5_whatWas 129 [.inr (.inl (16, 0)), .inl x1, .inl x2, .inl x3, .inl x4, .inl x5, .inl x6] [] σ = Rx k_X5_whatWas 81 [.inr (.inl (16, 0)), .inl x1, .inl x2, .inl x3, .inl x4, .inl x5, .inl (wr (x6 + 1))] [] σ := by
  refine (Rx_N (k := 2) (pc' := 81) (ls' := [.inr (.inl (16, 0)), .inl x1, .inl x2, .inl x3, .inl x4, .inl x5, .inl (wr (x6 + 1))]) (st' := []) (σ' := σ) rfl).trans ?_
  rfl
theorem b_X5_whatWas_129 (x1 : Int) (x2 : Int) (x3 : Int) (x4 : Int) (x5 : Int) (x6 : Int) (σ : St) (g0a : -2147483648 ≤ (x6 + 1)) (g0b : (x6 + 1) < 2147483648) : Rx k_X5_whatWas 129 [.inr (.inl (16, 0)), .inl x1, .inl x2, .inl x3, .inl x4, .inl x5, .inl x6] [] σ = Rx k_X5_whatWas 81 [.inr (.inl (16, 0)), .inl x1, .inl x2, .inl x3, .inl x4, .inl x5, .inl (x6 + 1)] [] σ := by
  have e0 := wr_id (x := (x6 + 1)) g0a g0b
  have raw := r_X5_whatWas_129 x1 x2 x3 x4 x5 x6 σ 
  simp only [e0] at raw
  exact raw
theorem b_X5_whatWas_135 (x1 : Int) (x2 : Int) (x3 : Int) (x4 : Int) (x5 : Int) (x6 : Int) (σ : St) : Rx k_X5_whatWas 135 [.inr (.inl (16, 0)), .inl x1, .inl x2, .inl x3, .inl x4, .inl x5, .inl x6] [] σ = if x5 = 0 then Rx k_X5_whatWas 148 [.inr (.inl (16, 0)), .inl x1, .inl x2, .inl x3, .inl x4, .inl x5, .inl x6] [.inl x3] σ else Rx k_X5_whatWas 141 [.inr (.inl (16, 0)), .inl x1, .inl x2, .inl x3, .inl x4, .inl x5, .inl x6] [.inl x3] σ := by
  exact Rx_eq0 (k := 3) rfl
theorem r_X5_whatWas_141 (x1 : Int) (x2 : Int) (x3 : Int) (x4 : Int) (x5 : Int) (x6 : Int) (s0 : Int) (σ : St) : Rx k_X5_whatWas 141 [.inr (.inl (16, 0)), .inl x1, .inl x2, .inl x3, .inl x4, .inl x5, .inl x6] [.inl s0] σ = Rx k_X5_whatWas 35 [.inr (.inl (16, 0)), .inl x1, .inl x2, .inl (bOr s0 (bShl 1 x4)), .inl (wr (x4 + 1)), .inl x5, .inl x6] [] σ := by
  refine (Rx_N (k := 8) (pc' := 35) (ls' := [.inr (.inl (16, 0)), .inl x1, .inl x2, .inl (bOr s0 (bShl 1 x4)), .inl (wr (x4 + 1)), .inl x5, .inl x6]) (st' := []) (σ' := σ) rfl).trans ?_
  rfl
theorem b_X5_whatWas_141 (x1 : Int) (x2 : Int) (x3 : Int) (x4 : Int) (x5 : Int) (x6 : Int) (s0 : Int) (σ : St) (g0a : -2147483648 ≤ (x4 + 1)) (g0b : (x4 + 1) < 2147483648) : Rx k_X5_whatWas 141 [.inr (.inl (16, 0)), .inl x1, .inl x2, .inl x3, .inl x4, .inl x5, .inl x6] [.inl s0] σ = Rx k_X5_whatWas 35 [.inr (.inl (16, 0)), .inl x1, .inl x2, .inl (bOr s0 (bShl 1 x4)), .inl (x4 + 1), .inl x5, .inl x6] [] σ := by
  have e0 := wr_id (x := (x4 + 1)) g0a g0b
  have raw := r_X5_whatWas_141 x1 x2 x3 x4 x5 x6 s0 σ 
  simp only [e0] at raw
  exact raw
theorem r_X5_whatWas_148 (x1 : Int) (x2 : Int) (x3 : Int) (x4 : Int) (x5 : Int) (x6 : Int) (s0 : Int) (σ : St) : Rx k_X5_whatWas 148 [.inr (.inl (16, 0)), .inl x1, .inl x2, .inl x3, .inl x4, .inl x5, .inl x6] [.inl s0] σ = Rx k_X5_whatWas 35 [.inr (.inl (16, 0)), .inl x1, .inl x2, .inl (bOr s0 0), .inl (wr (x4 + 1)), .inl x5, .inl x6] [] σ := by
  refine (Rx_N (k := 5) (pc' := 35) (ls' := [.inr (.inl (16, 0)), .inl x1, .inl x2, .inl (bOr s0 0), .inl (wr (x4 + 1)), .inl x5, .inl x6]) (st' := []) (σ' := σ) rfl).trans ?_
  rfl
theorem b_X5_whatWas_148 (x1 : Int) (x2 : Int) (x3 : Int) (x4 : Int) (x5 : Int) (x6 : Int) (s0 : Int) (σ : St) (g0a : -2147483648 ≤ (x4 + 1)) (g0b : (x4 + 1) < 2147483648) : Rx k_X5_whatWas 148 [.inr (.inl (16, 0)), .inl x1, .inl x2, .inl x3, .inl x4, .inl x5, .inl x6] [.inl s0] σ = Rx k_X5_whatWas 35 [.inr (.inl (16, 0)), .inl x1, .inl x2, .inl (bOr s0 0), .inl (x4 + 1), .inl x5, .inl x6] [] σ := by
  have e0 := wr_id (x := (x4 + 1)) g0a g0b
  have raw := r_X5_whatWas_148 x1 x2 x3 x4 x5 x6 s0 σ 
  simp only [e0] at raw
  exact raw
theorem b_X5_whatWas_157 (x1 : Int) (x2 : Int) (x3 : Int) (x4 : Int) (u5 : AV) (u6 : AV) (σ : St) : Rx k_X5_whatWas 157 [.inr (.inl (16, 0)), .inl x1, .inl x2, .inl x3, .inl x4, u5, u6] [] σ = some (some (.inl x3), σ) := by
  refine (Rx_N (k := 1) (pc' := 158) (ls' := [.inr (.inl (16, 0)), .inl x1, .inl x2, .inl x3, .inl x4, u5, u6]) (st' := [.inl x3]) (σ' := σ) rfl).trans ?_
  exact Rx_ret rfl rfl
theorem b_X5_row_0 (x1 : Int) (u2 : AV) (σ : St) : Rx k_X5_row 0 [.inr (.inl (16, 0)), .inl x1, u2] [] σ = (Rx k_X5_wrongBy 0 [.inl x1, .inl 99] [] σ).bind fun q => Rx k_X5_row 6 [.inr (.inl (16, 0)), .inl x1, u2] (q.1.toList ++ []) q.2 := by
  refine (Rx_N (k := 2) (pc' := 3) (ls' := [.inr (.inl (16, 0)), .inl x1, u2]) (st' := [.inl 99, .inl x1]) (σ' := σ) rfl).trans ?_
  exact Rx_call (n := 3) (y' := k_X5_wrongBy) (as := [.inl x1, .inl 99]) (rest := []) rfl rfl rfl
theorem b_X5_row_6 (x1 : Int) (u2 : AV) (s0 : Int) (σ : St) : Rx k_X5_row 6 [.inr (.inl (16, 0)), .inl x1, u2] [.inl s0] σ = if s0 = 0 then Rx k_X5_row 11 [.inr (.inl (16, 0)), .inl x1, .inl s0] [] σ else Rx k_X5_row 23 [.inr (.inl (16, 0)), .inl x1, .inl s0] [] σ := by
  exact Rx_ne0 (k := 3) rfl
theorem b_X5_row_11 (x1 : Int) (x2 : Int) (σ : St) : Rx k_X5_row 11 [.inr (.inl (16, 0)), .inl x1, .inl x2] [] σ = if (σ 16 0 10) = 16 then Rx k_X5_row 20 [.inr (.inl (16, 0)), .inl x1, .inl x2] [] σ else Rx k_X5_row 23 [.inr (.inl (16, 0)), .inl x1, .inl x2] [] σ := by
  exact Rx_ne0 (k := 4) rfl
theorem b_X5_row_20 (x1 : Int) (x2 : Int) (σ : St) : Rx k_X5_row 20 [.inr (.inl (16, 0)), .inl x1, .inl x2] [] σ = if ((-6) : Int) = (0 : Int) then Rx k_X5_row 33 [.inr (.inl (16, 0)), .inl x1, .inl (-6)] [] σ else Rx k_X5_row 27 [.inr (.inl (16, 0)), .inl x1, .inl (-6)] [] σ := by
  exact Rx_eq0 (k := 4) rfl
theorem b_X5_row_23 (x1 : Int) (x2 : Int) (σ : St) : Rx k_X5_row 23 [.inr (.inl (16, 0)), .inl x1, .inl x2] [] σ = if x2 = 0 then Rx k_X5_row 33 [.inr (.inl (16, 0)), .inl x1, .inl x2] [] σ else Rx k_X5_row 27 [.inr (.inl (16, 0)), .inl x1, .inl x2] [] σ := by
  exact Rx_eq0 (k := 2) rfl
theorem b_X5_row_27 (x1 : Int) (x2 : Int) (σ : St) : Rx k_X5_row 27 [.inr (.inl (16, 0)), .inl x1, .inl x2] [] σ = (Rx k_X5_no 0 [.inr (.inl (16, 0)), .inl x2] [] σ).bind fun q => Rx k_X5_row 32 [.inr (.inl (16, 0)), .inl x1, .inl x2] (q.1.toList ++ []) q.2 := by
  refine (Rx_N (k := 2) (pc' := 29) (ls' := [.inr (.inl (16, 0)), .inl x1, .inl x2]) (st' := [.inl x2, .inr (.inl (16, 0))]) (σ' := σ) rfl).trans ?_
  exact Rx_call (n := 3) (y' := k_X5_no) (as := [.inr (.inl (16, 0)), .inl x2]) (rest := []) rfl rfl rfl
theorem b_X5_row_32 (x1 : Int) (x2 : Int) (s0 : Int) (σ : St) : Rx k_X5_row 32 [.inr (.inl (16, 0)), .inl x1, .inl x2] [.inl s0] σ = some (some (.inl s0), σ) := by
  exact Rx_ret rfl rfl
theorem r_X5_row_33 (x1 : Int) (x2 : Int) (σ : St) (h0 : 0 ≤ (σ 16 0 10)) (h1 : (σ 16 0 10) < 16) : Rx k_X5_row 33 [.inr (.inl (16, 0)), .inl x1, .inl x2] [] σ = some (some (.inl ((up (up σ 20 0 ((σ 16 0 10).toNat) x1) 16 0 10 (wr (((up σ 20 0 ((σ 16 0 10).toNat) x1) 16 0 10) + 1))) 16 0 10)), (up (up σ 20 0 ((σ 16 0 10).toNat) x1) 16 0 10 (wr (((up σ 20 0 ((σ 16 0 10).toNat) x1) 16 0 10) + 1)))) := by
  refine (Rx_N (k := 5) (pc' := 42) (ls' := [.inr (.inl (16, 0)), .inl x1, .inl x2]) (st' := [.inl x1, .inl (σ 16 0 10), .inr (.inl (20, 0))]) (σ' := σ) rfl).trans ?_
  refine (Rx_ist 16 rfl rfl h0 h1).trans ?_
  refine (Rx_N (k := 8) (pc' := 57) (ls' := [.inr (.inl (16, 0)), .inl x1, .inl x2]) (st' := [.inl ((up (up σ 20 0 ((σ 16 0 10).toNat) x1) 16 0 10 (wr (((up σ 20 0 ((σ 16 0 10).toNat) x1) 16 0 10) + 1))) 16 0 10)]) (σ' := (up (up σ 20 0 ((σ 16 0 10).toNat) x1) 16 0 10 (wr (((up σ 20 0 ((σ 16 0 10).toNat) x1) 16 0 10) + 1)))) rfl).trans ?_
  exact Rx_ret rfl rfl
theorem b_X5_row_33 (x1 : Int) (x2 : Int) (σ : St) (h0 : 0 ≤ (σ 16 0 10)) (h1 : (σ 16 0 10) < 16) (g0a : -2147483648 ≤ (((up σ 20 0 ((σ 16 0 10).toNat) x1) 16 0 10) + 1)) (g0b : (((up σ 20 0 ((σ 16 0 10).toNat) x1) 16 0 10) + 1) < 2147483648) : Rx k_X5_row 33 [.inr (.inl (16, 0)), .inl x1, .inl x2] [] σ = some (some (.inl ((up (up σ 20 0 ((σ 16 0 10).toNat) x1) 16 0 10 (((up σ 20 0 ((σ 16 0 10).toNat) x1) 16 0 10) + 1)) 16 0 10)), (up (up σ 20 0 ((σ 16 0 10).toNat) x1) 16 0 10 (((up σ 20 0 ((σ 16 0 10).toNat) x1) 16 0 10) + 1))) := by
  have e0 := wr_id (x := (((up σ 20 0 ((σ 16 0 10).toNat) x1) 16 0 10) + 1)) g0a g0b
  have raw := r_X5_row_33 x1 x2 σ h0 h1
  simp only [e0] at raw
  exact raw
theorem b_X5_judge_0 (u1 : AV) (u2 : AV) (σ : St) : Rx k_X5_judge 0 [.inr (.inl (16, 0)), u1, u2] [] σ = (Rx k_X5_copies 0 [.inr (.inl (17, 0)), .inr (.inl (17, 1)), uns] [] (up σ 16 0 10 0)).bind fun q => Rx k_X5_judge 21 [.inr (.inl (16, 0)), .inl (σ 16 0 10), u2] (q.1.toList ++ []) q.2 := by
  refine (Rx_N (k := 10) (pc' := 18) (ls' := [.inr (.inl (16, 0)), .inl (σ 16 0 10), u2]) (st' := [.inr (.inl (17, 1)), .inr (.inl (17, 0))]) (σ' := (up σ 16 0 10 0)) rfl).trans ?_
  exact Rx_call (n := 3) (y' := k_X5_copies) (as := [.inr (.inl (17, 0)), .inr (.inl (17, 1))]) (rest := []) rfl rfl rfl
theorem b_X5_judge_21 (x1 : Int) (u2 : AV) (σ : St) : Rx k_X5_judge 21 [.inr (.inl (16, 0)), .inl x1, u2] [] σ = Rx k_X5_judge 23 [.inr (.inl (16, 0)), .inl x1, .inl 0] [] σ := by
  refine (Rx_N (k := 2) (pc' := 23) (ls' := [.inr (.inl (16, 0)), .inl x1, .inl 0]) (st' := []) (σ' := σ) rfl).trans ?_
  rfl
theorem b_X5_judge_23 (x1 : Int) (x2 : Int) (σ : St) : Rx k_X5_judge 23 [.inr (.inl (16, 0)), .inl x1, .inl x2] [] σ = if x2 < x1 then Rx k_X5_judge 28 [.inr (.inl (16, 0)), .inl x1, .inl x2] [] σ else Rx k_X5_judge 63 [.inr (.inl (16, 0)), .inl x1, .inl x2] [] σ := by
  exact Rx_ge0 (k := 3) rfl
theorem b_X5_judge_28 (x1 : Int) (x2 : Int) (σ : St) : Rx k_X5_judge 28 [.inr (.inl (16, 0)), .inl x1, .inl x2] [] σ = (Rx k_X5_upSet 0 [.inr (.inl (17, 1)), uns, uns] [] σ).bind fun q => Rx k_X5_judge 35 [.inr (.inl (16, 0)), .inl x1, .inl x2] (q.1.toList ++ []) q.2 := by
  refine (Rx_N (k := 2) (pc' := 32) (ls' := [.inr (.inl (16, 0)), .inl x1, .inl x2]) (st' := [.inr (.inl (17, 1))]) (σ' := σ) rfl).trans ?_
  exact Rx_call (n := 3) (y' := k_X5_upSet) (as := [.inr (.inl (17, 1))]) (rest := []) rfl rfl rfl
theorem b_X5_judge_35 (x1 : Int) (x2 : Int) (s0 : Int) (σ : St) : Rx k_X5_judge 35 [.inr (.inl (16, 0)), .inl x1, .inl x2] [.inl s0] σ = (Rx k_X5_bits 0 [.inl s0, uns, uns] [] σ).bind fun q => Rx k_X5_judge 38 [.inr (.inl (16, 0)), .inl x1, .inl x2] (q.1.toList ++ []) q.2 := by
  exact Rx_call (n := 3) (y' := k_X5_bits) (as := [.inl s0]) (rest := []) rfl rfl rfl
theorem b_X5_judge_38 (x1 : Int) (x2 : Int) (s0 : Int) (σ : St) (h0 : 0 ≤ x2) (h1 : x2 < 16) : Rx k_X5_judge 38 [.inr (.inl (16, 0)), .inl x1, .inl x2] [.inl s0] σ = if s0 = (σ 20 0 x2.toNat) then Rx k_X5_judge 49 [.inr (.inl (16, 0)), .inl x1, .inl x2] [] σ else Rx k_X5_judge 47 [.inr (.inl (16, 0)), .inl x1, .inl x2] [] σ := by
  refine (Rx_N (k := 3) (pc' := 43) (ls' := [.inr (.inl (16, 0)), .inl x1, .inl x2]) (st' := [.inl x2, .inr (.inl (20, 0)), .inl s0]) (σ' := σ) rfl).trans ?_
  refine (Rx_ild 16 rfl rfl rfl h0 h1).trans ?_
  exact Rx_eq0 (k := 1) rfl
theorem b_X5_judge_47 (x1 : Int) (x2 : Int) (σ : St) : Rx k_X5_judge 47 [.inr (.inl (16, 0)), .inl x1, .inl x2] [] σ = some (some (.inl x2), σ) := by
  refine (Rx_N (k := 1) (pc' := 48) (ls' := [.inr (.inl (16, 0)), .inl x1, .inl x2]) (st' := [.inl x2]) (σ' := σ) rfl).trans ?_
  exact Rx_ret rfl rfl
theorem b_X5_judge_49 (x1 : Int) (x2 : Int) (σ : St) : Rx k_X5_judge 49 [.inr (.inl (16, 0)), .inl x1, .inl x2] [] σ = (Rx k_X5_day 0 [.inr (.inl (16, 0)), .inr (.inl (17, 1)), uns, uns, uns] [] σ).bind fun q => Rx k_X5_judge 57 [.inr (.inl (16, 0)), .inl x1, .inl x2] (q.1.toList ++ []) q.2 := by
  refine (Rx_N (k := 3) (pc' := 54) (ls' := [.inr (.inl (16, 0)), .inl x1, .inl x2]) (st' := [.inr (.inl (17, 1)), .inr (.inl (16, 0))]) (σ' := σ) rfl).trans ?_
  exact Rx_call (n := 3) (y' := k_X5_day) (as := [.inr (.inl (16, 0)), .inr (.inl (17, 1))]) (rest := []) rfl rfl rfl
theorem r_X5_judge_57 (x1 : Int) (x2 : Int) (σ : St) : Rx k_X5_judge 57 [.inr (.inl (16, 0)), .inl x1, .inl x2] [] σ = Rx k_X5_judge 23 [.inr (.inl (16, 0)), .inl x1, .inl (wr (x2 + 1))] [] σ := by
  refine (Rx_N (k := 2) (pc' := 23) (ls' := [.inr (.inl (16, 0)), .inl x1, .inl (wr (x2 + 1))]) (st' := []) (σ' := σ) rfl).trans ?_
  rfl
theorem b_X5_judge_57 (x1 : Int) (x2 : Int) (σ : St) (g0a : -2147483648 ≤ (x2 + 1)) (g0b : (x2 + 1) < 2147483648) : Rx k_X5_judge 57 [.inr (.inl (16, 0)), .inl x1, .inl x2] [] σ = Rx k_X5_judge 23 [.inr (.inl (16, 0)), .inl x1, .inl (x2 + 1)] [] σ := by
  have e0 := wr_id (x := (x2 + 1)) g0a g0b
  have raw := r_X5_judge_57 x1 x2 σ 
  simp only [e0] at raw
  exact raw
theorem b_X5_judge_63 (x1 : Int) (x2 : Int) (σ : St) : Rx k_X5_judge 63 [.inr (.inl (16, 0)), .inl x1, .inl x2] [] σ = some (some (.inl (-9)), σ) := by
  refine (Rx_N (k := 1) (pc' := 65) (ls' := [.inr (.inl (16, 0)), .inl x1, .inl x2]) (st' := [.inl (-9)]) (σ' := σ) rfl).trans ?_
  exact Rx_ret rfl rfl
theorem b_X5_clear_0 (u1 : AV) (σ : St) : Rx k_X5_clear 0 [.inr (.inl (16, 0)), u1] [] σ = some (some (.inl (σ 16 0 10)), (up σ 16 0 10 0)) := by
  refine (Rx_N (k := 7) (pc' := 11) (ls' := [.inr (.inl (16, 0)), .inl (σ 16 0 10)]) (st' := [.inl (σ 16 0 10)]) (σ' := (up σ 16 0 10 0)) rfl).trans ?_
  exact Rx_ret rfl rfl
theorem b_X5_drawn_0 (x1 : Int) (σ : St) (h0 : x1 ≠ 0) : Rx k_X5_drawn 0 [.inr (.inl (16, 0)), .inl x1] [] σ = some (some (.inl ((wr ((bAnd ((up σ 16 0 13 (wr ((wr ((σ 16 0 13) * 1664525)) + 1013904223))) 16 0 13) 2147483647).tdiv 256)).tmod x1)), (up σ 16 0 13 (wr ((wr ((σ 16 0 13) * 1664525)) + 1013904223)))) := by
  refine (Rx_N (k := 15) (pc' := 26) (ls' := [.inr (.inl (16, 0)), .inl x1]) (st' := [.inl x1, .inl (wr ((bAnd ((up σ 16 0 13 (wr ((wr ((σ 16 0 13) * 1664525)) + 1013904223))) 16 0 13) 2147483647).tdiv 256))]) (σ' := (up σ 16 0 13 (wr ((wr ((σ 16 0 13) * 1664525)) + 1013904223)))) rfl).trans ?_
  refine (Rx_irem rfl h0).trans ?_
  exact Rx_ret rfl rfl
theorem b_X5_strengthAll_0 (r0 : Nat) (u1 : AV) (u2 : AV) (σ : St) : Rx k_X5_strengthAll 0 [.inr (.inl (17, r0)), u1, u2] [] σ = Rx k_X5_strengthAll 4 [.inr (.inl (17, r0)), .inl 0, .inl 0] [] σ := by
  refine (Rx_N (k := 4) (pc' := 4) (ls' := [.inr (.inl (17, r0)), .inl 0, .inl 0]) (st' := []) (σ' := σ) rfl).trans ?_
  rfl
theorem b_X5_strengthAll_4 (r0 : Nat) (x1 : Int) (x2 : Int) (σ : St) : Rx k_X5_strengthAll 4 [.inr (.inl (17, r0)), .inl x1, .inl x2] [] σ = if x2 < (σ 17 r0 0) then Rx k_X5_strengthAll 11 [.inr (.inl (17, r0)), .inl x1, .inl x2] [] σ else Rx k_X5_strengthAll 28 [.inr (.inl (17, r0)), .inl x1, .inl x2] [] σ := by
  exact Rx_ge0 (k := 5) rfl
theorem b_X5_strengthAll_11 (r0 : Nat) (x1 : Int) (x2 : Int) (σ : St) : Rx k_X5_strengthAll 11 [.inr (.inl (17, r0)), .inl x1, .inl x2] [] σ = (Rx k_X5_ofP 0 [.inl x2] [] σ).bind fun q => Rx k_X5_strengthAll 17 [.inr (.inl (17, r0)), .inl x1, .inl x2] (q.1.toList ++ [.inr (.inl (17, r0)), .inl x1]) q.2 := by
  refine (Rx_N (k := 3) (pc' := 14) (ls' := [.inr (.inl (17, r0)), .inl x1, .inl x2]) (st' := [.inl x2, .inr (.inl (17, r0)), .inl x1]) (σ' := σ) rfl).trans ?_
  exact Rx_call (n := 3) (y' := k_X5_ofP) (as := [.inl x2]) (rest := [.inr (.inl (17, r0)), .inl x1]) rfl rfl rfl
theorem r_X5_strengthAll_17 (r0 : Nat) (x1 : Int) (x2 : Int) (s2 : Int) (q1 : Nat) (s0 : Int) (σ : St) (h0 : 0 ≤ (wr (s2 + 2))) (h1 : (wr (s2 + 2)) < 58) : Rx k_X5_strengthAll 17 [.inr (.inl (17, r0)), .inl x1, .inl x2] [.inl s2, .inr (.inl (17, q1)), .inl s0] σ = Rx k_X5_strengthAll 4 [.inr (.inl (17, r0)), .inl (wr (s0 + (σ 17 q1 (wr (s2 + 2)).toNat))), .inl (wr (x2 + 1))] [] σ := by
  refine (Rx_N (k := 2) (pc' := 19) (ls' := [.inr (.inl (17, r0)), .inl x1, .inl x2]) (st' := [.inl (wr (s2 + 2)), .inr (.inl (17, q1)), .inl s0]) (σ' := σ) rfl).trans ?_
  refine (Rx_ild 58 rfl rfl rfl h0 h1).trans ?_
  refine (Rx_N (k := 4) (pc' := 4) (ls' := [.inr (.inl (17, r0)), .inl (wr (s0 + (σ 17 q1 (wr (s2 + 2)).toNat))), .inl (wr (x2 + 1))]) (st' := []) (σ' := σ) rfl).trans ?_
  rfl
theorem b_X5_strengthAll_17 (r0 : Nat) (x1 : Int) (x2 : Int) (s2 : Int) (q1 : Nat) (s0 : Int) (σ : St) (h0 : 0 ≤ (s2 + 2)) (h1 : (s2 + 2) < 58) (g0a : -2147483648 ≤ (s2 + 2)) (g0b : (s2 + 2) < 2147483648) (g1a : -2147483648 ≤ (x2 + 1)) (g1b : (x2 + 1) < 2147483648) (g2a : -2147483648 ≤ (s0 + (σ 17 q1 (s2 + 2).toNat))) (g2b : (s0 + (σ 17 q1 (s2 + 2).toNat)) < 2147483648) : Rx k_X5_strengthAll 17 [.inr (.inl (17, r0)), .inl x1, .inl x2] [.inl s2, .inr (.inl (17, q1)), .inl s0] σ = Rx k_X5_strengthAll 4 [.inr (.inl (17, r0)), .inl (s0 + (σ 17 q1 (s2 + 2).toNat)), .inl (x2 + 1)] [] σ := by
  have e0 := wr_id (x := (s2 + 2)) g0a g0b
  have e1 := wr_id (x := (x2 + 1)) g1a g1b
  have e2 := wr_id (x := (s0 + (σ 17 q1 (s2 + 2).toNat))) g2a g2b
  have raw := r_X5_strengthAll_17 r0 x1 x2 s2 q1 s0 σ (by simp only [e0, e1, e2]; exact h0) (by simp only [e0, e1, e2]; exact h1)
  simp only [e0, e1, e2] at raw
  exact raw
theorem b_X5_strengthAll_28 (r0 : Nat) (x1 : Int) (x2 : Int) (σ : St) : Rx k_X5_strengthAll 28 [.inr (.inl (17, r0)), .inl x1, .inl x2] [] σ = some (some (.inl x1), σ) := by
  refine (Rx_N (k := 1) (pc' := 29) (ls' := [.inr (.inl (17, r0)), .inl x1, .inl x2]) (st' := [.inl x1]) (σ' := σ) rfl).trans ?_
  exact Rx_ret rfl rfl
theorem b_X5_lots_0 (x1 : Int) (x2 : Int) (x3 : Int) (u4 : AV) (u5 : AV) (u6 : AV) (σ : St) : Rx k_X5_lots 0 [.inr (.inl (16, 0)), .inl x1, .inl x2, .inl x3, u4, u5, u6] [] σ = if x1 < 1 then Rx k_X5_lots 5 [.inr (.inl (16, 0)), .inl x1, .inl x2, .inl x3, u4, u5, u6] [] σ else Rx k_X5_lots 12 [.inr (.inl (16, 0)), .inl x1, .inl x2, .inl x3, u4, u5, u6] [] σ := by
  exact Rx_ge0 (k := 3) rfl
theorem b_X5_lots_5 (x1 : Int) (x2 : Int) (x3 : Int) (u4 : AV) (u5 : AV) (u6 : AV) (σ : St) : Rx k_X5_lots 5 [.inr (.inl (16, 0)), .inl x1, .inl x2, .inl x3, u4, u5, u6] [] σ = (Rx k_X5_no 0 [.inr (.inl (16, 0)), .inl (-4)] [] σ).bind fun q => Rx k_X5_lots 11 [.inr (.inl (16, 0)), .inl x1, .inl x2, .inl x3, u4, u5, u6] (q.1.toList ++ []) q.2 := by
  refine (Rx_N (k := 2) (pc' := 8) (ls' := [.inr (.inl (16, 0)), .inl x1, .inl x2, .inl x3, u4, u5, u6]) (st' := [.inl (-4), .inr (.inl (16, 0))]) (σ' := σ) rfl).trans ?_
  exact Rx_call (n := 3) (y' := k_X5_no) (as := [.inr (.inl (16, 0)), .inl (-4)]) (rest := []) rfl rfl rfl
theorem b_X5_lots_11 (x1 : Int) (x2 : Int) (x3 : Int) (u4 : AV) (u5 : AV) (u6 : AV) (s0 : Int) (σ : St) : Rx k_X5_lots 11 [.inr (.inl (16, 0)), .inl x1, .inl x2, .inl x3, u4, u5, u6] [.inl s0] σ = some (some (.inl s0), σ) := by
  exact Rx_ret rfl rfl
theorem b_X5_lots_12 (x1 : Int) (x2 : Int) (x3 : Int) (u4 : AV) (u5 : AV) (u6 : AV) (σ : St) : Rx k_X5_lots 12 [.inr (.inl (16, 0)), .inl x1, .inl x2, .inl x3, u4, u5, u6] [] σ = if 20 < x1 then Rx k_X5_lots 18 [.inr (.inl (16, 0)), .inl x1, .inl x2, .inl x3, u4, u5, u6] [] σ else Rx k_X5_lots 25 [.inr (.inl (16, 0)), .inl x1, .inl x2, .inl x3, u4, u5, u6] [] σ := by
  exact Rx_le0 (k := 3) rfl
theorem b_X5_lots_18 (x1 : Int) (x2 : Int) (x3 : Int) (u4 : AV) (u5 : AV) (u6 : AV) (σ : St) : Rx k_X5_lots 18 [.inr (.inl (16, 0)), .inl x1, .inl x2, .inl x3, u4, u5, u6] [] σ = (Rx k_X5_no 0 [.inr (.inl (16, 0)), .inl (-6)] [] σ).bind fun q => Rx k_X5_lots 24 [.inr (.inl (16, 0)), .inl x1, .inl x2, .inl x3, u4, u5, u6] (q.1.toList ++ []) q.2 := by
  refine (Rx_N (k := 2) (pc' := 21) (ls' := [.inr (.inl (16, 0)), .inl x1, .inl x2, .inl x3, u4, u5, u6]) (st' := [.inl (-6), .inr (.inl (16, 0))]) (σ' := σ) rfl).trans ?_
  exact Rx_call (n := 3) (y' := k_X5_no) (as := [.inr (.inl (16, 0)), .inl (-6)]) (rest := []) rfl rfl rfl
theorem b_X5_lots_24 (x1 : Int) (x2 : Int) (x3 : Int) (u4 : AV) (u5 : AV) (u6 : AV) (s0 : Int) (σ : St) : Rx k_X5_lots 24 [.inr (.inl (16, 0)), .inl x1, .inl x2, .inl x3, u4, u5, u6] [.inl s0] σ = some (some (.inl s0), σ) := by
  exact Rx_ret rfl rfl
theorem b_X5_lots_25 (x1 : Int) (x2 : Int) (x3 : Int) (u4 : AV) (u5 : AV) (u6 : AV) (σ : St) : Rx k_X5_lots 25 [.inr (.inl (16, 0)), .inl x1, .inl x2, .inl x3, u4, u5, u6] [] σ = (Rx k_X5_isIn 0 [.inl x3, .inl 0, .inl 1] [] σ).bind fun q => Rx k_X5_lots 31 [.inr (.inl (16, 0)), .inl x1, .inl x2, .inl x3, u4, u5, u6] (q.1.toList ++ []) q.2 := by
  refine (Rx_N (k := 3) (pc' := 28) (ls' := [.inr (.inl (16, 0)), .inl x1, .inl x2, .inl x3, u4, u5, u6]) (st' := [.inl 1, .inl 0, .inl x3]) (σ' := σ) rfl).trans ?_
  exact Rx_call (n := 3) (y' := k_X5_isIn) (as := [.inl x3, .inl 0, .inl 1]) (rest := []) rfl rfl rfl
theorem b_X5_lots_31 (x1 : Int) (x2 : Int) (x3 : Int) (u4 : AV) (u5 : AV) (u6 : AV) (s0 : Int) (σ : St) : Rx k_X5_lots 31 [.inr (.inl (16, 0)), .inl x1, .inl x2, .inl x3, u4, u5, u6] [.inl s0] σ = if s0 = 0 then Rx k_X5_lots 34 [.inr (.inl (16, 0)), .inl x1, .inl x2, .inl x3, u4, u5, u6] [] σ else Rx k_X5_lots 41 [.inr (.inl (16, 0)), .inl x1, .inl x2, .inl x3, u4, u5, u6] [] σ := by
  exact Rx_ne0 (k := 1) rfl
theorem b_X5_lots_34 (x1 : Int) (x2 : Int) (x3 : Int) (u4 : AV) (u5 : AV) (u6 : AV) (σ : St) : Rx k_X5_lots 34 [.inr (.inl (16, 0)), .inl x1, .inl x2, .inl x3, u4, u5, u6] [] σ = (Rx k_X5_no 0 [.inr (.inl (16, 0)), .inl (-2)] [] σ).bind fun q => Rx k_X5_lots 40 [.inr (.inl (16, 0)), .inl x1, .inl x2, .inl x3, u4, u5, u6] (q.1.toList ++ []) q.2 := by
  refine (Rx_N (k := 2) (pc' := 37) (ls' := [.inr (.inl (16, 0)), .inl x1, .inl x2, .inl x3, u4, u5, u6]) (st' := [.inl (-2), .inr (.inl (16, 0))]) (σ' := σ) rfl).trans ?_
  exact Rx_call (n := 3) (y' := k_X5_no) (as := [.inr (.inl (16, 0)), .inl (-2)]) (rest := []) rfl rfl rfl
theorem b_X5_lots_40 (x1 : Int) (x2 : Int) (x3 : Int) (u4 : AV) (u5 : AV) (u6 : AV) (s0 : Int) (σ : St) : Rx k_X5_lots 40 [.inr (.inl (16, 0)), .inl x1, .inl x2, .inl x3, u4, u5, u6] [.inl s0] σ = some (some (.inl s0), σ) := by
  exact Rx_ret rfl rfl
theorem b_X5_lots_41 (x1 : Int) (x2 : Int) (x3 : Int) (u4 : AV) (u5 : AV) (u6 : AV) (σ : St) : Rx k_X5_lots 41 [.inr (.inl (16, 0)), .inl x1, .inl x2, .inl x3, u4, u5, u6] [] σ = if (σ 17 0 0) = 0 then Rx k_X5_lots 50 [.inr (.inl (16, 0)), .inl x1, .inl x2, .inl x3, u4, u5, u6] [] σ else Rx k_X5_lots 57 [.inr (.inl (16, 0)), .inl x1, .inl x2, .inl x3, u4, u5, u6] [] σ := by
  exact Rx_ne0 (k := 5) rfl
theorem b_X5_lots_50 (x1 : Int) (x2 : Int) (x3 : Int) (u4 : AV) (u5 : AV) (u6 : AV) (σ : St) : Rx k_X5_lots 50 [.inr (.inl (16, 0)), .inl x1, .inl x2, .inl x3, u4, u5, u6] [] σ = (Rx k_X5_no 0 [.inr (.inl (16, 0)), .inl (-3)] [] σ).bind fun q => Rx k_X5_lots 56 [.inr (.inl (16, 0)), .inl x1, .inl x2, .inl x3, u4, u5, u6] (q.1.toList ++ []) q.2 := by
  refine (Rx_N (k := 2) (pc' := 53) (ls' := [.inr (.inl (16, 0)), .inl x1, .inl x2, .inl x3, u4, u5, u6]) (st' := [.inl (-3), .inr (.inl (16, 0))]) (σ' := σ) rfl).trans ?_
  exact Rx_call (n := 3) (y' := k_X5_no) (as := [.inr (.inl (16, 0)), .inl (-3)]) (rest := []) rfl rfl rfl
theorem b_X5_lots_56 (x1 : Int) (x2 : Int) (x3 : Int) (u4 : AV) (u5 : AV) (u6 : AV) (s0 : Int) (σ : St) : Rx k_X5_lots 56 [.inr (.inl (16, 0)), .inl x1, .inl x2, .inl x3, u4, u5, u6] [.inl s0] σ = some (some (.inl s0), σ) := by
  exact Rx_ret rfl rfl
theorem b_X5_lots_57 (x1 : Int) (x2 : Int) (x3 : Int) (u4 : AV) (u5 : AV) (u6 : AV) (σ : St) : Rx k_X5_lots 57 [.inr (.inl (16, 0)), .inl x1, .inl x2, .inl x3, u4, u5, u6] [] σ = Rx k_X5_lots 68 [.inr (.inl (16, 0)), .inl x1, .inl x2, .inl x3, .inl 0, .inl 0, u6] [] (up σ 16 0 13 x2) := by
  refine (Rx_N (k := 7) (pc' := 68) (ls' := [.inr (.inl (16, 0)), .inl x1, .inl x2, .inl x3, .inl 0, .inl 0, u6]) (st' := []) (σ' := (up σ 16 0 13 x2)) rfl).trans ?_
  rfl
theorem b_X5_lots_68 (x1 : Int) (x2 : Int) (x3 : Int) (x4 : Int) (x5 : Int) (u6 : AV) (σ : St) : Rx k_X5_lots 68 [.inr (.inl (16, 0)), .inl x1, .inl x2, .inl x3, .inl x4, .inl x5, u6] [] σ = if x5 < x1 then Rx k_X5_lots 74 [.inr (.inl (16, 0)), .inl x1, .inl x2, .inl x3, .inl x4, .inl x5, u6] [] σ else Rx k_X5_lots 162 [.inr (.inl (16, 0)), .inl x1, .inl x2, .inl x3, .inl x4, .inl x5, u6] [] σ := by
  exact Rx_ge0 (k := 3) rfl
theorem b_X5_lots_74 (x1 : Int) (x2 : Int) (x3 : Int) (x4 : Int) (x5 : Int) (u6 : AV) (σ : St) : Rx k_X5_lots 74 [.inr (.inl (16, 0)), .inl x1, .inl x2, .inl x3, .inl x4, .inl x5, u6] [] σ = (Rx k_X5_copies 0 [.inr (.inl (17, 0)), .inr (.inl (17, 1)), uns] [] σ).bind fun q => Rx k_X5_lots 85 [.inr (.inl (16, 0)), .inl x1, .inl x2, .inl x3, .inl x4, .inl x5, u6] (q.1.toList ++ []) q.2 := by
  refine (Rx_N (k := 4) (pc' := 82) (ls' := [.inr (.inl (16, 0)), .inl x1, .inl x2, .inl x3, .inl x4, .inl x5, u6]) (st' := [.inr (.inl (17, 1)), .inr (.inl (17, 0))]) (σ' := σ) rfl).trans ?_
  exact Rx_call (n := 3) (y' := k_X5_copies) (as := [.inr (.inl (17, 0)), .inr (.inl (17, 1))]) (rest := []) rfl rfl rfl
theorem b_X5_lots_85 (x1 : Int) (x2 : Int) (x3 : Int) (x4 : Int) (x5 : Int) (u6 : AV) (σ : St) : Rx k_X5_lots 85 [.inr (.inl (16, 0)), .inl x1, .inl x2, .inl x3, .inl x4, .inl x5, u6] [] σ = Rx k_X5_lots 88 [.inr (.inl (16, 0)), .inl x1, .inl x2, .inl x3, .inl x4, .inl x5, .inl 0] [] σ := by
  refine (Rx_N (k := 2) (pc' := 88) (ls' := [.inr (.inl (16, 0)), .inl x1, .inl x2, .inl x3, .inl x4, .inl x5, .inl 0]) (st' := []) (σ' := σ) rfl).trans ?_
  rfl
theorem b_X5_lots_88 (x1 : Int) (x2 : Int) (x3 : Int) (x4 : Int) (x5 : Int) (x6 : Int) (σ : St) : Rx k_X5_lots 88 [.inr (.inl (16, 0)), .inl x1, .inl x2, .inl x3, .inl x4, .inl x5, .inl x6] [] σ = if x6 < (σ 17 0 1) then Rx k_X5_lots 99 [.inr (.inl (16, 0)), .inl x1, .inl x2, .inl x3, .inl x4, .inl x5, .inl x6] [] σ else Rx k_X5_lots 127 [.inr (.inl (16, 0)), .inl x1, .inl x2, .inl x3, .inl x4, .inl x5, .inl x6] [] σ := by
  exact Rx_ge0 (k := 6) rfl
theorem b_X5_lots_99 (x1 : Int) (x2 : Int) (x3 : Int) (x4 : Int) (x5 : Int) (x6 : Int) (σ : St) : Rx k_X5_lots 99 [.inr (.inl (16, 0)), .inl x1, .inl x2, .inl x3, .inl x4, .inl x5, .inl x6] [] σ = (Rx k_X5_ofT 0 [.inl x6] [] σ).bind fun q => Rx k_X5_lots 108 [.inr (.inl (16, 0)), .inl x1, .inl x2, .inl x3, .inl x4, .inl x5, .inl x6] (q.1.toList ++ [.inr (.inl (17, 1))]) q.2 := by
  refine (Rx_N (k := 3) (pc' := 105) (ls' := [.inr (.inl (16, 0)), .inl x1, .inl x2, .inl x3, .inl x4, .inl x5, .inl x6]) (st' := [.inl x6, .inr (.inl (17, 1))]) (σ' := σ) rfl).trans ?_
  exact Rx_call (n := 3) (y' := k_X5_ofT) (as := [.inl x6]) (rest := [.inr (.inl (17, 1))]) rfl rfl rfl
theorem r_X5_lots_108 (x1 : Int) (x2 : Int) (x3 : Int) (x4 : Int) (x5 : Int) (x6 : Int) (s1 : Int) (σ : St) : Rx k_X5_lots 108 [.inr (.inl (16, 0)), .inl x1, .inl x2, .inl x3, .inl x4, .inl x5, .inl x6] [.inl s1, .inr (.inl (17, 1))] σ = (Rx k_X5_drawn 0 [.inr (.inl (16, 0)), .inl (σ 17 0 0)] [] σ).bind fun q => Rx k_X5_lots 120 [.inr (.inl (16, 0)), .inl x1, .inl x2, .inl x3, .inl x4, .inl x5, .inl x6] (q.1.toList ++ [.inl (wr (s1 + 2)), .inr (.inl (17, 1))]) q.2 := by
  refine (Rx_N (k := 7) (pc' := 117) (ls' := [.inr (.inl (16, 0)), .inl x1, .inl x2, .inl x3, .inl x4, .inl x5, .inl x6]) (st' := [.inl (σ 17 0 0), .inr (.inl (16, 0)), .inl (wr (s1 + 2)), .inr (.inl (17, 1))]) (σ' := σ) rfl).trans ?_
  exact Rx_call (n := 3) (y' := k_X5_drawn) (as := [.inr (.inl (16, 0)), .inl (σ 17 0 0)]) (rest := [.inl (wr (s1 + 2)), .inr (.inl (17, 1))]) rfl rfl rfl
theorem b_X5_lots_108 (x1 : Int) (x2 : Int) (x3 : Int) (x4 : Int) (x5 : Int) (x6 : Int) (s1 : Int) (σ : St) (g0a : -2147483648 ≤ (s1 + 2)) (g0b : (s1 + 2) < 2147483648) : Rx k_X5_lots 108 [.inr (.inl (16, 0)), .inl x1, .inl x2, .inl x3, .inl x4, .inl x5, .inl x6] [.inl s1, .inr (.inl (17, 1))] σ = (Rx k_X5_drawn 0 [.inr (.inl (16, 0)), .inl (σ 17 0 0)] [] σ).bind fun q => Rx k_X5_lots 120 [.inr (.inl (16, 0)), .inl x1, .inl x2, .inl x3, .inl x4, .inl x5, .inl x6] (q.1.toList ++ [.inl (s1 + 2), .inr (.inl (17, 1))]) q.2 := by
  have e0 := wr_id (x := (s1 + 2)) g0a g0b
  have raw := r_X5_lots_108 x1 x2 x3 x4 x5 x6 s1 σ 
  simp only [e0] at raw
  exact raw
theorem r_X5_lots_120 (x1 : Int) (x2 : Int) (x3 : Int) (x4 : Int) (x5 : Int) (x6 : Int) (s2 : Int) (s1 : Int) (σ : St) (h0 : 0 ≤ s1) (h1 : s1 < 58) : Rx k_X5_lots 120 [.inr (.inl (16, 0)), .inl x1, .inl x2, .inl x3, .inl x4, .inl x5, .inl x6] [.inl s2, .inl s1, .inr (.inl (17, 1))] σ = Rx k_X5_lots 88 [.inr (.inl (16, 0)), .inl x1, .inl x2, .inl x3, .inl x4, .inl x5, .inl (wr (x6 + 1))] [] (up σ 17 1 s1.toNat s2) := by
  refine (Rx_ist 58 rfl rfl h0 h1).trans ?_
  refine (Rx_N (k := 2) (pc' := 88) (ls' := [.inr (.inl (16, 0)), .inl x1, .inl x2, .inl x3, .inl x4, .inl x5, .inl (wr (x6 + 1))]) (st' := []) (σ' := (up σ 17 1 s1.toNat s2)) rfl).trans ?_
  rfl
theorem b_X5_lots_120 (x1 : Int) (x2 : Int) (x3 : Int) (x4 : Int) (x5 : Int) (x6 : Int) (s2 : Int) (s1 : Int) (σ : St) (h0 : 0 ≤ s1) (h1 : s1 < 58) (g0a : -2147483648 ≤ (x6 + 1)) (g0b : (x6 + 1) < 2147483648) : Rx k_X5_lots 120 [.inr (.inl (16, 0)), .inl x1, .inl x2, .inl x3, .inl x4, .inl x5, .inl x6] [.inl s2, .inl s1, .inr (.inl (17, 1))] σ = Rx k_X5_lots 88 [.inr (.inl (16, 0)), .inl x1, .inl x2, .inl x3, .inl x4, .inl x5, .inl (x6 + 1)] [] (up σ 17 1 s1.toNat s2) := by
  have e0 := wr_id (x := (x6 + 1)) g0a g0b
  have raw := r_X5_lots_120 x1 x2 x3 x4 x5 x6 s2 s1 σ h0 h1
  simp only [e0] at raw
  exact raw
theorem b_X5_lots_127 (x1 : Int) (x2 : Int) (x3 : Int) (x4 : Int) (x5 : Int) (x6 : Int) (σ : St) : Rx k_X5_lots 127 [.inr (.inl (16, 0)), .inl x1, .inl x2, .inl x3, .inl x4, .inl x5, .inl x6] [] σ = (Rx k_X5_upIn 0 [.inr (.inl (16, 0)), .inl 20] [] σ).bind fun q => Rx k_X5_lots 133 [.inr (.inl (16, 0)), .inl x1, .inl x2, .inl x3, .inl x4, .inl x5, .inl x6] (q.1.toList ++ []) q.2 := by
  refine (Rx_N (k := 2) (pc' := 130) (ls' := [.inr (.inl (16, 0)), .inl x1, .inl x2, .inl x3, .inl x4, .inl x5, .inl x6]) (st' := [.inl 20, .inr (.inl (16, 0))]) (σ' := σ) rfl).trans ?_
  exact Rx_call (n := 3) (y' := k_X5_upIn) (as := [.inr (.inl (16, 0)), .inl 20]) (rest := []) rfl rfl rfl
theorem b_X5_lots_133 (x1 : Int) (x2 : Int) (x3 : Int) (x4 : Int) (x5 : Int) (x6 : Int) (s0 : Int) (σ : St) : Rx k_X5_lots 133 [.inr (.inl (16, 0)), .inl x1, .inl x2, .inl x3, .inl x4, .inl x5, .inl x6] [.inl s0] σ = if x3 = 0 then Rx k_X5_lots 141 [.inr (.inl (16, 0)), .inl x1, .inl x2, .inl x3, .inl x4, .inl x5, .inl s0] [.inl x4] σ else Rx k_X5_lots 146 [.inr (.inl (16, 0)), .inl x1, .inl x2, .inl x3, .inl x4, .inl x5, .inl s0] [.inl x4] σ := by
  exact Rx_ne0 (k := 4) rfl
theorem r_X5_lots_141 (x1 : Int) (x2 : Int) (x3 : Int) (x4 : Int) (x5 : Int) (x6 : Int) (s0 : Int) (σ : St) : Rx k_X5_lots 141 [.inr (.inl (16, 0)), .inl x1, .inl x2, .inl x3, .inl x4, .inl x5, .inl x6] [.inl s0] σ = Rx k_X5_lots 68 [.inr (.inl (16, 0)), .inl x1, .inl x2, .inl x3, .inl (wr (s0 + x6)), .inl (wr (x5 + 1)), .inl x6] [] σ := by
  refine (Rx_N (k := 6) (pc' := 68) (ls' := [.inr (.inl (16, 0)), .inl x1, .inl x2, .inl x3, .inl (wr (s0 + x6)), .inl (wr (x5 + 1)), .inl x6]) (st' := []) (σ' := σ) rfl).trans ?_
  rfl
theorem b_X5_lots_141 (x1 : Int) (x2 : Int) (x3 : Int) (x4 : Int) (x5 : Int) (x6 : Int) (s0 : Int) (σ : St) (g0a : -2147483648 ≤ (x5 + 1)) (g0b : (x5 + 1) < 2147483648) (g1a : -2147483648 ≤ (s0 + x6)) (g1b : (s0 + x6) < 2147483648) : Rx k_X5_lots 141 [.inr (.inl (16, 0)), .inl x1, .inl x2, .inl x3, .inl x4, .inl x5, .inl x6] [.inl s0] σ = Rx k_X5_lots 68 [.inr (.inl (16, 0)), .inl x1, .inl x2, .inl x3, .inl (s0 + x6), .inl (x5 + 1), .inl x6] [] σ := by
  have e0 := wr_id (x := (x5 + 1)) g0a g0b
  have e1 := wr_id (x := (s0 + x6)) g1a g1b
  have raw := r_X5_lots_141 x1 x2 x3 x4 x5 x6 s0 σ 
  simp only [e0, e1] at raw
  exact raw
theorem b_X5_lots_146 (x1 : Int) (x2 : Int) (x3 : Int) (x4 : Int) (x5 : Int) (x6 : Int) (s0 : Int) (σ : St) : Rx k_X5_lots 146 [.inr (.inl (16, 0)), .inl x1, .inl x2, .inl x3, .inl x4, .inl x5, .inl x6] [.inl s0] σ = (Rx k_X5_strengthAll 0 [.inr (.inl (17, 1)), uns, uns] [] σ).bind fun q => Rx k_X5_lots 153 [.inr (.inl (16, 0)), .inl x1, .inl x2, .inl x3, .inl x4, .inl x5, .inl x6] (q.1.toList ++ [.inl s0]) q.2 := by
  refine (Rx_N (k := 2) (pc' := 150) (ls' := [.inr (.inl (16, 0)), .inl x1, .inl x2, .inl x3, .inl x4, .inl x5, .inl x6]) (st' := [.inr (.inl (17, 1)), .inl s0]) (σ' := σ) rfl).trans ?_
  exact Rx_call (n := 3) (y' := k_X5_strengthAll) (as := [.inr (.inl (17, 1))]) (rest := [.inl s0]) rfl rfl rfl
theorem r_X5_lots_153 (x1 : Int) (x2 : Int) (x3 : Int) (x4 : Int) (x5 : Int) (x6 : Int) (s1 : Int) (s0 : Int) (σ : St) : Rx k_X5_lots 153 [.inr (.inl (16, 0)), .inl x1, .inl x2, .inl x3, .inl x4, .inl x5, .inl x6] [.inl s1, .inl s0] σ = Rx k_X5_lots 68 [.inr (.inl (16, 0)), .inl x1, .inl x2, .inl x3, .inl (wr (s0 + s1)), .inl (wr (x5 + 1)), .inl x6] [] σ := by
  refine (Rx_N (k := 4) (pc' := 68) (ls' := [.inr (.inl (16, 0)), .inl x1, .inl x2, .inl x3, .inl (wr (s0 + s1)), .inl (wr (x5 + 1)), .inl x6]) (st' := []) (σ' := σ) rfl).trans ?_
  rfl
theorem b_X5_lots_153 (x1 : Int) (x2 : Int) (x3 : Int) (x4 : Int) (x5 : Int) (x6 : Int) (s1 : Int) (s0 : Int) (σ : St) (g0a : -2147483648 ≤ (x5 + 1)) (g0b : (x5 + 1) < 2147483648) (g1a : -2147483648 ≤ (s0 + s1)) (g1b : (s0 + s1) < 2147483648) : Rx k_X5_lots 153 [.inr (.inl (16, 0)), .inl x1, .inl x2, .inl x3, .inl x4, .inl x5, .inl x6] [.inl s1, .inl s0] σ = Rx k_X5_lots 68 [.inr (.inl (16, 0)), .inl x1, .inl x2, .inl x3, .inl (s0 + s1), .inl (x5 + 1), .inl x6] [] σ := by
  have e0 := wr_id (x := (x5 + 1)) g0a g0b
  have e1 := wr_id (x := (s0 + s1)) g1a g1b
  have raw := r_X5_lots_153 x1 x2 x3 x4 x5 x6 s1 s0 σ 
  simp only [e0, e1] at raw
  exact raw
theorem b_X5_lots_162 (x1 : Int) (x2 : Int) (x3 : Int) (x4 : Int) (x5 : Int) (u6 : AV) (σ : St) : Rx k_X5_lots 162 [.inr (.inl (16, 0)), .inl x1, .inl x2, .inl x3, .inl x4, .inl x5, u6] [] σ = some (some (.inl x4), σ) := by
  refine (Rx_N (k := 1) (pc' := 164) (ls' := [.inr (.inl (16, 0)), .inl x1, .inl x2, .inl x3, .inl x4, .inl x5, u6]) (st' := [.inl x4]) (σ' := σ) rfl).trans ?_
  exact Rx_ret rfl rfl
theorem b_X5_image_0  (σ : St) : Rx k_X5_image 0 [.inr (.inl (16, 0))] [] σ = (Rx k_X5_copies 0 [.inr (.inl (17, 0)), .inr (.inl (17, 2)), uns] [] σ).bind fun q => Rx k_X5_image 11 [.inr (.inl (16, 0))] (q.1.toList ++ []) q.2 := by
  refine (Rx_N (k := 4) (pc' := 8) (ls' := [.inr (.inl (16, 0))]) (st' := [.inr (.inl (17, 2)), .inr (.inl (17, 0))]) (σ' := σ) rfl).trans ?_
  exact Rx_call (n := 3) (y' := k_X5_copies) (as := [.inr (.inl (17, 0)), .inr (.inl (17, 2))]) (rest := []) rfl rfl rfl
theorem b_X5_image_11  (σ : St) : Rx k_X5_image 11 [.inr (.inl (16, 0))] [] σ = some (some (.inl ((up σ 16 0 5 1) 17 0 2)), (up σ 16 0 5 1)) := by
  refine (Rx_N (k := 7) (pc' := 22) (ls' := [.inr (.inl (16, 0))]) (st' := [.inl ((up σ 16 0 5 1) 17 0 2)]) (σ' := (up σ 16 0 5 1)) rfl).trans ?_
  exact Rx_ret rfl rfl
theorem b_X5_on_0  (σ : St) : Rx k_X5_on 0 [.inr (.inl (16, 0))] [] σ = if (σ 16 0 5) = 0 then Rx k_X5_on 7 [.inr (.inl (16, 0))] [] σ else Rx k_X5_on 14 [.inr (.inl (16, 0))] [] σ := by
  exact Rx_ne0 (k := 3) rfl
theorem b_X5_on_7  (σ : St) : Rx k_X5_on 7 [.inr (.inl (16, 0))] [] σ = (Rx k_X5_no 0 [.inr (.inl (16, 0)), .inl (-3)] [] σ).bind fun q => Rx k_X5_on 13 [.inr (.inl (16, 0))] (q.1.toList ++ []) q.2 := by
  refine (Rx_N (k := 2) (pc' := 10) (ls' := [.inr (.inl (16, 0))]) (st' := [.inl (-3), .inr (.inl (16, 0))]) (σ' := σ) rfl).trans ?_
  exact Rx_call (n := 3) (y' := k_X5_no) (as := [.inr (.inl (16, 0)), .inl (-3)]) (rest := []) rfl rfl rfl
theorem b_X5_on_13 (s0 : Int) (σ : St) : Rx k_X5_on 13 [.inr (.inl (16, 0))] [.inl s0] σ = some (some (.inl s0), σ) := by
  exact Rx_ret rfl rfl
theorem b_X5_on_14  (σ : St) : Rx k_X5_on 14 [.inr (.inl (16, 0))] [] σ = (Rx k_X5_copies 0 [.inr (.inl (17, 2)), .inr (.inl (17, 0)), uns] [] σ).bind fun q => Rx k_X5_on 25 [.inr (.inl (16, 0))] (q.1.toList ++ []) q.2 := by
  refine (Rx_N (k := 4) (pc' := 22) (ls' := [.inr (.inl (16, 0))]) (st' := [.inr (.inl (17, 0)), .inr (.inl (17, 2))]) (σ' := σ) rfl).trans ?_
  exact Rx_call (n := 3) (y' := k_X5_copies) (as := [.inr (.inl (17, 2)), .inr (.inl (17, 0))]) (rest := []) rfl rfl rfl
theorem b_X5_on_25  (σ : St) : Rx k_X5_on 25 [.inr (.inl (16, 0))] [] σ = some (some (.inl (σ 17 0 2)), σ) := by
  refine (Rx_N (k := 4) (pc' := 31) (ls' := [.inr (.inl (16, 0))]) (st' := [.inl (σ 17 0 2)]) (σ' := σ) rfl).trans ?_
  exact Rx_ret rfl rfl
theorem b_X5_count_0 (x1 : Int) (u2 : AV) (u3 : AV) (σ : St) : Rx k_X5_count 0 [.inr (.inl (16, 0)), .inl x1, u2, u3] [] σ = (Rx k_X5_isIn 0 [.inl x1, .inl 11, .inl 16] [] σ).bind fun q => Rx k_X5_count 8 [.inr (.inl (16, 0)), .inl x1, u2, u3] (q.1.toList ++ []) q.2 := by
  refine (Rx_N (k := 3) (pc' := 5) (ls' := [.inr (.inl (16, 0)), .inl x1, u2, u3]) (st' := [.inl 16, .inl 11, .inl x1]) (σ' := σ) rfl).trans ?_
  exact Rx_call (n := 3) (y' := k_X5_isIn) (as := [.inl x1, .inl 11, .inl 16]) (rest := []) rfl rfl rfl
theorem b_X5_count_8 (x1 : Int) (u2 : AV) (u3 : AV) (s0 : Int) (σ : St) : Rx k_X5_count 8 [.inr (.inl (16, 0)), .inl x1, u2, u3] [.inl s0] σ = if s0 = 0 then Rx k_X5_count 21 [.inr (.inl (16, 0)), .inl x1, u2, u3] [] σ else Rx k_X5_count 11 [.inr (.inl (16, 0)), .inl x1, u2, u3] [] σ := by
  exact Rx_eq0 (k := 1) rfl
theorem r_X5_count_11 (x1 : Int) (u2 : AV) (u3 : AV) (σ : St) (h0 : 0 ≤ (wr (x1 - 10))) (h1 : (wr (x1 - 10)) < 7) : Rx k_X5_count 11 [.inr (.inl (16, 0)), .inl x1, u2, u3] [] σ = some (some (.inl (σ 21 0 (wr (x1 - 10)).toNat)), σ) := by
  refine (Rx_N (k := 5) (pc' := 19) (ls' := [.inr (.inl (16, 0)), .inl x1, u2, u3]) (st' := [.inl (wr (x1 - 10)), .inr (.inl (21, 0))]) (σ' := σ) rfl).trans ?_
  refine (Rx_ild 7 rfl rfl rfl h0 h1).trans ?_
  exact Rx_ret rfl rfl
theorem b_X5_count_11 (x1 : Int) (u2 : AV) (u3 : AV) (σ : St) (h0 : 0 ≤ (x1 - 10)) (h1 : (x1 - 10) < 7) (g0a : -2147483648 ≤ (x1 - 10)) (g0b : (x1 - 10) < 2147483648) : Rx k_X5_count 11 [.inr (.inl (16, 0)), .inl x1, u2, u3] [] σ = some (some (.inl (σ 21 0 (x1 - 10).toNat)), σ) := by
  have e0 := wr_id (x := (x1 - 10)) g0a g0b
  have raw := r_X5_count_11 x1 u2 u3 σ (by simp only [e0]; exact h0) (by simp only [e0]; exact h1)
  simp only [e0] at raw
  exact raw
theorem b_X5_count_21 (x1 : Int) (u2 : AV) (u3 : AV) (σ : St) : Rx k_X5_count 21 [.inr (.inl (16, 0)), .inl x1, u2, u3] [] σ = (Rx k_X5_isIn 0 [.inl x1, .inl 0, .inl 2] [] σ).bind fun q => Rx k_X5_count 27 [.inr (.inl (16, 0)), .inl x1, u2, u3] (q.1.toList ++ []) q.2 := by
  refine (Rx_N (k := 3) (pc' := 24) (ls' := [.inr (.inl (16, 0)), .inl x1, u2, u3]) (st' := [.inl 2, .inl 0, .inl x1]) (σ' := σ) rfl).trans ?_
  exact Rx_call (n := 3) (y' := k_X5_isIn) (as := [.inl x1, .inl 0, .inl 2]) (rest := []) rfl rfl rfl
theorem b_X5_count_27 (x1 : Int) (u2 : AV) (u3 : AV) (s0 : Int) (σ : St) : Rx k_X5_count 27 [.inr (.inl (16, 0)), .inl x1, u2, u3] [.inl s0] σ = if s0 = 0 then Rx k_X5_count 37 [.inr (.inl (16, 0)), .inl x1, u2, u3] [] σ else Rx k_X5_count 30 [.inr (.inl (16, 0)), .inl x1, u2, u3] [] σ := by
  exact Rx_eq0 (k := 1) rfl
theorem b_X5_count_30 (x1 : Int) (u2 : AV) (u3 : AV) (σ : St) (h0 : 0 ≤ x1) (h1 : x1 < 58) : Rx k_X5_count 30 [.inr (.inl (16, 0)), .inl x1, u2, u3] [] σ = some (some (.inl (σ 17 0 x1.toNat)), σ) := by
  refine (Rx_N (k := 3) (pc' := 35) (ls' := [.inr (.inl (16, 0)), .inl x1, u2, u3]) (st' := [.inl x1, .inr (.inl (17, 0))]) (σ' := σ) rfl).trans ?_
  refine (Rx_ild 58 rfl rfl rfl h0 h1).trans ?_
  exact Rx_ret rfl rfl
theorem b_X5_count_37 (x1 : Int) (u2 : AV) (u3 : AV) (σ : St) : Rx k_X5_count 37 [.inr (.inl (16, 0)), .inl x1, u2, u3] [] σ = if x1 = 3 then Rx k_X5_count 76 [.inr (.inl (16, 0)), .inl x1, .inl 0, u3] [] σ else if x1 = 4 then Rx k_X5_count 84 [.inr (.inl (16, 0)), .inl x1, .inl 0, u3] [] σ else if x1 = 5 then Rx k_X5_count 92 [.inr (.inl (16, 0)), .inl x1, .inl 0, u3] [] σ else if x1 = 6 then Rx k_X5_count 123 [.inr (.inl (16, 0)), .inl x1, .inl 0, u3] [] σ else if x1 = 7 then Rx k_X5_count 128 [.inr (.inl (16, 0)), .inl x1, .inl 0, u3] [] σ else Rx k_X5_count 133 [.inr (.inl (16, 0)), .inl x1, .inl 0, u3] [] σ := by
  refine (Rx_N (k := 3) (pc' := 40) (ls' := [.inr (.inl (16, 0)), .inl x1, .inl 0, u3]) (st' := [.inl x1]) (σ' := σ) rfl).trans ?_
  generalize x1 = z9
  by_cases e9 : z9 = 3
  · subst e9; exact Rx_N (k := 1) rfl
  by_cases e9 : z9 = 4
  · subst e9; exact Rx_N (k := 1) rfl
  by_cases e9 : z9 = 5
  · subst e9; exact Rx_N (k := 1) rfl
  by_cases e9 : z9 = 6
  · subst e9; exact Rx_N (k := 1) rfl
  by_cases e9 : z9 = 7
  · subst e9; exact Rx_N (k := 1) rfl
  rw [if_neg (by omega)]; rw [if_neg (by omega)]; rw [if_neg (by omega)]; rw [if_neg (by omega)]; rw [if_neg (by omega)]; exact Rx_tout rfl (by omega) rfl
theorem b_X5_count_76 (x1 : Int) (x2 : Int) (u3 : AV) (σ : St) : Rx k_X5_count 76 [.inr (.inl (16, 0)), .inl x1, .inl x2, u3] [] σ = (Rx k_X5_upSet 0 [.inr (.inl (17, 0)), uns, uns] [] σ).bind fun q => Rx k_X5_count 83 [.inr (.inl (16, 0)), .inl x1, .inl x2, u3] (q.1.toList ++ []) q.2 := by
  refine (Rx_N (k := 2) (pc' := 80) (ls' := [.inr (.inl (16, 0)), .inl x1, .inl x2, u3]) (st' := [.inr (.inl (17, 0))]) (σ' := σ) rfl).trans ?_
  exact Rx_call (n := 3) (y' := k_X5_upSet) (as := [.inr (.inl (17, 0))]) (rest := []) rfl rfl rfl
theorem b_X5_count_83 (x1 : Int) (x2 : Int) (u3 : AV) (s0 : Int) (σ : St) : Rx k_X5_count 83 [.inr (.inl (16, 0)), .inl x1, .inl x2, u3] [.inl s0] σ = some (some (.inl s0), σ) := by
  exact Rx_ret rfl rfl
theorem b_X5_count_84 (x1 : Int) (x2 : Int) (u3 : AV) (σ : St) : Rx k_X5_count 84 [.inr (.inl (16, 0)), .inl x1, .inl x2, u3] [] σ = (Rx k_X5_strengthAll 0 [.inr (.inl (17, 0)), uns, uns] [] σ).bind fun q => Rx k_X5_count 91 [.inr (.inl (16, 0)), .inl x1, .inl x2, u3] (q.1.toList ++ []) q.2 := by
  refine (Rx_N (k := 2) (pc' := 88) (ls' := [.inr (.inl (16, 0)), .inl x1, .inl x2, u3]) (st' := [.inr (.inl (17, 0))]) (σ' := σ) rfl).trans ?_
  exact Rx_call (n := 3) (y' := k_X5_strengthAll) (as := [.inr (.inl (17, 0))]) (rest := []) rfl rfl rfl
theorem b_X5_count_91 (x1 : Int) (x2 : Int) (u3 : AV) (s0 : Int) (σ : St) : Rx k_X5_count 91 [.inr (.inl (16, 0)), .inl x1, .inl x2, u3] [.inl s0] σ = some (some (.inl s0), σ) := by
  exact Rx_ret rfl rfl
theorem b_X5_count_92 (x1 : Int) (x2 : Int) (u3 : AV) (σ : St) : Rx k_X5_count 92 [.inr (.inl (16, 0)), .inl x1, .inl x2, u3] [] σ = Rx k_X5_count 94 [.inr (.inl (16, 0)), .inl x1, .inl x2, .inl 0] [] σ := by
  refine (Rx_N (k := 2) (pc' := 94) (ls' := [.inr (.inl (16, 0)), .inl x1, .inl x2, .inl 0]) (st' := []) (σ' := σ) rfl).trans ?_
  rfl
theorem b_X5_count_94 (x1 : Int) (x2 : Int) (x3 : Int) (σ : St) : Rx k_X5_count 94 [.inr (.inl (16, 0)), .inl x1, .inl x2, .inl x3] [] σ = if x3 < (σ 17 0 0) then Rx k_X5_count 104 [.inr (.inl (16, 0)), .inl x1, .inl x2, .inl x3] [] σ else Rx k_X5_count 121 [.inr (.inl (16, 0)), .inl x1, .inl x2, .inl x3] [] σ := by
  exact Rx_ge0 (k := 6) rfl
theorem b_X5_count_104 (x1 : Int) (x2 : Int) (x3 : Int) (σ : St) : Rx k_X5_count 104 [.inr (.inl (16, 0)), .inl x1, .inl x2, .inl x3] [] σ = (Rx k_X5_loadOf 0 [.inr (.inl (17, 0)), .inl x3, uns, uns] [] σ).bind fun q => Rx k_X5_count 113 [.inr (.inl (16, 0)), .inl x1, .inl x2, .inl x3] (q.1.toList ++ [.inl x2]) q.2 := by
  refine (Rx_N (k := 4) (pc' := 110) (ls' := [.inr (.inl (16, 0)), .inl x1, .inl x2, .inl x3]) (st' := [.inl x3, .inr (.inl (17, 0)), .inl x2]) (σ' := σ) rfl).trans ?_
  exact Rx_call (n := 3) (y' := k_X5_loadOf) (as := [.inr (.inl (17, 0)), .inl x3]) (rest := [.inl x2]) rfl rfl rfl
theorem r_X5_count_113 (x1 : Int) (x2 : Int) (x3 : Int) (s1 : Int) (s0 : Int) (σ : St) : Rx k_X5_count 113 [.inr (.inl (16, 0)), .inl x1, .inl x2, .inl x3] [.inl s1, .inl s0] σ = Rx k_X5_count 94 [.inr (.inl (16, 0)), .inl x1, .inl (wr (s0 + s1)), .inl (wr (x3 + 1))] [] σ := by
  refine (Rx_N (k := 4) (pc' := 94) (ls' := [.inr (.inl (16, 0)), .inl x1, .inl (wr (s0 + s1)), .inl (wr (x3 + 1))]) (st' := []) (σ' := σ) rfl).trans ?_
  rfl
theorem b_X5_count_113 (x1 : Int) (x2 : Int) (x3 : Int) (s1 : Int) (s0 : Int) (σ : St) (g0a : -2147483648 ≤ (x3 + 1)) (g0b : (x3 + 1) < 2147483648) (g1a : -2147483648 ≤ (s0 + s1)) (g1b : (s0 + s1) < 2147483648) : Rx k_X5_count 113 [.inr (.inl (16, 0)), .inl x1, .inl x2, .inl x3] [.inl s1, .inl s0] σ = Rx k_X5_count 94 [.inr (.inl (16, 0)), .inl x1, .inl (s0 + s1), .inl (x3 + 1)] [] σ := by
  have e0 := wr_id (x := (x3 + 1)) g0a g0b
  have e1 := wr_id (x := (s0 + s1)) g1a g1b
  have raw := r_X5_count_113 x1 x2 x3 s1 s0 σ 
  simp only [e0, e1] at raw
  exact raw
theorem b_X5_count_121 (x1 : Int) (x2 : Int) (x3 : Int) (σ : St) : Rx k_X5_count 121 [.inr (.inl (16, 0)), .inl x1, .inl x2, .inl x3] [] σ = some (some (.inl x2), σ) := by
  refine (Rx_N (k := 1) (pc' := 122) (ls' := [.inr (.inl (16, 0)), .inl x1, .inl x2, .inl x3]) (st' := [.inl x2]) (σ' := σ) rfl).trans ?_
  exact Rx_ret rfl rfl
theorem b_X5_count_123 (x1 : Int) (x2 : Int) (u3 : AV) (σ : St) : Rx k_X5_count 123 [.inr (.inl (16, 0)), .inl x1, .inl x2, u3] [] σ = some (some (.inl (σ 16 0 10)), σ) := by
  refine (Rx_N (k := 2) (pc' := 127) (ls' := [.inr (.inl (16, 0)), .inl x1, .inl x2, u3]) (st' := [.inl (σ 16 0 10)]) (σ' := σ) rfl).trans ?_
  exact Rx_ret rfl rfl
theorem b_X5_count_128 (x1 : Int) (x2 : Int) (u3 : AV) (σ : St) : Rx k_X5_count 128 [.inr (.inl (16, 0)), .inl x1, .inl x2, u3] [] σ = some (some (.inl (σ 16 0 9)), σ) := by
  refine (Rx_N (k := 2) (pc' := 132) (ls' := [.inr (.inl (16, 0)), .inl x1, .inl x2, u3]) (st' := [.inl (σ 16 0 9)]) (σ' := σ) rfl).trans ?_
  exact Rx_ret rfl rfl
theorem b_X5_count_133 (x1 : Int) (x2 : Int) (u3 : AV) (σ : St) : Rx k_X5_count 133 [.inr (.inl (16, 0)), .inl x1, .inl x2, u3] [] σ = some (some (.inl (-9)), σ) := by
  refine (Rx_N (k := 1) (pc' := 135) (ls' := [.inr (.inl (16, 0)), .inl x1, .inl x2, u3]) (st' := [.inl (-9)]) (σ' := σ) rfl).trans ?_
  exact Rx_ret rfl rfl
