theorem b_X5_isIn_0 (x0 : Int) (x1 : Int) (x2 : Int) (σ : St) : Rx k_X5_isIn 0 [.inl x0, .inl x1, .inl x2] [] σ = if x0 < x1 then Rx k_X5_isIn 14 [.inl x0, .inl x1, .inl x2] [] σ else Rx k_X5_isIn 5 [.inl x0, .inl x1, .inl x2] [] σ := by
  exact Rx_lt0 (k := 3) rfl
theorem b_X5_isIn_5 (x0 : Int) (x1 : Int) (x2 : Int) (σ : St) : Rx k_X5_isIn 5 [.inl x0, .inl x1, .inl x2] [] σ = if x2 < x0 then Rx k_X5_isIn 14 [.inl x0, .inl x1, .inl x2] [] σ else Rx k_X5_isIn 10 [.inl x0, .inl x1, .inl x2] [] σ := by
  exact Rx_gt0 (k := 3) rfl
theorem b_X5_isIn_10 (x0 : Int) (x1 : Int) (x2 : Int) (σ : St) : Rx k_X5_isIn 10 [.inl x0, .inl x1, .inl x2] [] σ = some (some (.inl 1), σ) := by
  refine (Rx_N (k := 2) (pc' := 15) (ls' := [.inl x0, .inl x1, .inl x2]) (st' := [.inl 1]) (σ' := σ) rfl).trans ?_
  exact Rx_ret rfl rfl
theorem b_X5_isIn_14 (x0 : Int) (x1 : Int) (x2 : Int) (σ : St) : Rx k_X5_isIn 14 [.inl x0, .inl x1, .inl x2] [] σ = some (some (.inl 0), σ) := by
  refine (Rx_N (k := 1) (pc' := 15) (ls' := [.inl x0, .inl x1, .inl x2]) (st' := [.inl 0]) (σ' := σ) rfl).trans ?_
  exact Rx_ret rfl rfl
theorem b_X5_most_0 (x0 : Int) (x1 : Int) (σ : St) : Rx k_X5_most 0 [.inl x0, .inl x1] [] σ = if x1 < x0 then Rx k_X5_most 5 [.inl x0, .inl x1] [] σ else Rx k_X5_most 9 [.inl x0, .inl x1] [] σ := by
  exact Rx_le0 (k := 3) rfl
theorem b_X5_most_5 (x0 : Int) (x1 : Int) (σ : St) : Rx k_X5_most 5 [.inl x0, .inl x1] [] σ = some (some (.inl x0), σ) := by
  refine (Rx_N (k := 2) (pc' := 10) (ls' := [.inl x0, .inl x1]) (st' := [.inl x0]) (σ' := σ) rfl).trans ?_
  exact Rx_ret rfl rfl
theorem b_X5_most_9 (x0 : Int) (x1 : Int) (σ : St) : Rx k_X5_most 9 [.inl x0, .inl x1] [] σ = some (some (.inl x1), σ) := by
  refine (Rx_N (k := 1) (pc' := 10) (ls' := [.inl x0, .inl x1]) (st' := [.inl x1]) (σ' := σ) rfl).trans ?_
  exact Rx_ret rfl rfl
theorem b_X5_copies_0 (r0 : Nat) (r1 : Nat) (u2 : AV) (σ : St) : Rx k_X5_copies 0 [.inr (.inl (17, r0)), .inr (.inl (17, r1)), u2] [] σ = Rx k_X5_copies 2 [.inr (.inl (17, r0)), .inr (.inl (17, r1)), .inl 0] [] σ := by
  refine (Rx_N (k := 2) (pc' := 2) (ls' := [.inr (.inl (17, r0)), .inr (.inl (17, r1)), .inl 0]) (st' := []) (σ' := σ) rfl).trans ?_
  rfl
theorem b_X5_copies_2 (r0 : Nat) (r1 : Nat) (x2 : Int) (σ : St) : Rx k_X5_copies 2 [.inr (.inl (17, r0)), .inr (.inl (17, r1)), .inl x2] [] σ = if x2 < 58 then Rx k_X5_copies 8 [.inr (.inl (17, r0)), .inr (.inl (17, r1)), .inl x2] [] σ else Rx k_X5_copies 20 [.inr (.inl (17, r0)), .inr (.inl (17, r1)), .inl x2] [] σ := by
  exact Rx_ge0 (k := 3) rfl
theorem r_X5_copies_8 (r0 : Nat) (r1 : Nat) (x2 : Int) (σ : St) (h0 : 0 ≤ x2) (h1 : x2 < 58) : Rx k_X5_copies 8 [.inr (.inl (17, r0)), .inr (.inl (17, r1)), .inl x2] [] σ = Rx k_X5_copies 2 [.inr (.inl (17, r0)), .inr (.inl (17, r1)), .inl (wr (x2 + 1))] [] (up σ 17 r1 x2.toNat (σ 17 r0 x2.toNat)) := by
  refine (Rx_N (k := 4) (pc' := 12) (ls' := [.inr (.inl (17, r0)), .inr (.inl (17, r1)), .inl x2]) (st' := [.inl x2, .inr (.inl (17, r0)), .inl x2, .inr (.inl (17, r1))]) (σ' := σ) rfl).trans ?_
  refine (Rx_ild 58 rfl rfl rfl h0 h1).trans ?_
  refine (Rx_ist 58 rfl rfl h0 h1).trans ?_
  refine (Rx_N (k := 2) (pc' := 2) (ls' := [.inr (.inl (17, r0)), .inr (.inl (17, r1)), .inl (wr (x2 + 1))]) (st' := []) (σ' := (up σ 17 r1 x2.toNat (σ 17 r0 x2.toNat))) rfl).trans ?_
  rfl
theorem b_X5_copies_8 (r0 : Nat) (r1 : Nat) (x2 : Int) (σ : St) (h0 : 0 ≤ x2) (h1 : x2 < 58) (g0a : -2147483648 ≤ (x2 + 1)) (g0b : (x2 + 1) < 2147483648) : Rx k_X5_copies 8 [.inr (.inl (17, r0)), .inr (.inl (17, r1)), .inl x2] [] σ = Rx k_X5_copies 2 [.inr (.inl (17, r0)), .inr (.inl (17, r1)), .inl (x2 + 1)] [] (up σ 17 r1 x2.toNat (σ 17 r0 x2.toNat)) := by
  have e0 := wr_id (x := (x2 + 1)) g0a g0b
  have raw := r_X5_copies_8 r0 r1 x2 σ h0 h1
  simp only [e0] at raw
  exact raw
theorem b_X5_copies_20 (r0 : Nat) (r1 : Nat) (x2 : Int) (σ : St) : Rx k_X5_copies 20 [.inr (.inl (17, r0)), .inr (.inl (17, r1)), .inl x2] [] σ = some (none, σ) := by
  exact Rx_ret rfl rfl
theorem r_X5_no_0 (x1 : Int) (σ : St) (h0 : 0 ≤ (wr (-x1))) (h1 : (wr (-x1)) < 7) : Rx k_X5_no 0 [.inr (.inl (16, 0)), .inl x1] [] σ = some (some (.inl x1), (up σ 21 0 ((wr (-x1)).toNat) (wr ((σ 21 0 (wr (-x1)).toNat) + 1)))) := by
  refine (Rx_N (k := 5) (pc' := 7) (ls' := [.inr (.inl (16, 0)), .inl x1]) (st' := [.inl (wr (-x1)), .inr (.inl (21, 0)), .inl (wr (-x1)), .inr (.inl (21, 0))]) (σ' := σ) rfl).trans ?_
  refine (Rx_ild 7 rfl rfl rfl h0 h1).trans ?_
  refine (Rx_N (k := 2) (pc' := 10) (ls' := [.inr (.inl (16, 0)), .inl x1]) (st' := [.inl (wr ((σ 21 0 (wr (-x1)).toNat) + 1)), .inl (wr (-x1)), .inr (.inl (21, 0))]) (σ' := σ) rfl).trans ?_
  refine (Rx_ist 7 rfl rfl h0 h1).trans ?_
  refine (Rx_N (k := 1) (pc' := 12) (ls' := [.inr (.inl (16, 0)), .inl x1]) (st' := [.inl x1]) (σ' := (up σ 21 0 ((wr (-x1)).toNat) (wr ((σ 21 0 (wr (-x1)).toNat) + 1)))) rfl).trans ?_
  exact Rx_ret rfl rfl
theorem b_X5_no_0 (x1 : Int) (σ : St) (h0 : 0 ≤ (-x1)) (h1 : (-x1) < 7) (g0a : -2147483648 ≤ (-x1)) (g0b : (-x1) < 2147483648) (g1a : -2147483648 ≤ ((σ 21 0 (-x1).toNat) + 1)) (g1b : ((σ 21 0 (-x1).toNat) + 1) < 2147483648) : Rx k_X5_no 0 [.inr (.inl (16, 0)), .inl x1] [] σ = some (some (.inl x1), (up σ 21 0 (((-x1)).toNat) ((σ 21 0 (-x1).toNat) + 1))) := by
  have e0 := wr_id (x := (-x1)) g0a g0b
  have e1 := wr_id (x := ((σ 21 0 (-x1).toNat) + 1)) g1a g1b
  have raw := r_X5_no_0 x1 σ (by simp only [e0, e1]; exact h0) (by simp only [e0, e1]; exact h1)
  simp only [e0, e1] at raw
  exact raw
theorem b_X5_noFar_0 (x1 : Int) (σ : St) : Rx k_X5_noFar 0 [.inr (.inl (16, 0)), .inl x1] [] σ = (Rx k_X5_no 0 [.inr (.inl (16, 0)), .inl x1] [] σ).bind fun q => Rx k_X5_noFar 7 [.inr (.inl (16, 0)), .inl x1] (q.1.toList ++ [.inl 1000000000]) q.2 := by
  refine (Rx_N (k := 3) (pc' := 4) (ls' := [.inr (.inl (16, 0)), .inl x1]) (st' := [.inl x1, .inr (.inl (16, 0)), .inl 1000000000]) (σ' := σ) rfl).trans ?_
  exact Rx_call (n := 3) (y' := k_X5_no) (as := [.inr (.inl (16, 0)), .inl x1]) (rest := [.inl 1000000000]) rfl rfl rfl
theorem r_X5_noFar_7 (x1 : Int) (s1 : Int) (s0 : Int) (σ : St) : Rx k_X5_noFar 7 [.inr (.inl (16, 0)), .inl x1] [.inl s1, .inl s0] σ = some (some (.inl (wr (s0 - s1))), σ) := by
  refine (Rx_N (k := 1) (pc' := 8) (ls' := [.inr (.inl (16, 0)), .inl x1]) (st' := [.inl (wr (s0 - s1))]) (σ' := σ) rfl).trans ?_
  exact Rx_ret rfl rfl
theorem b_X5_noFar_7 (x1 : Int) (s1 : Int) (s0 : Int) (σ : St) (g0a : -2147483648 ≤ (s0 - s1)) (g0b : (s0 - s1) < 2147483648) : Rx k_X5_noFar 7 [.inr (.inl (16, 0)), .inl x1] [.inl s1, .inl s0] σ = some (some (.inl (s0 - s1)), σ) := by
  have e0 := wr_id (x := (s0 - s1)) g0a g0b
  have raw := r_X5_noFar_7 x1 s1 s0 σ 
  simp only [e0] at raw
  exact raw
theorem b_X5_noWide_0 (x1 : Int) (σ : St) : Rx k_X5_noWide 0 [.inr (.inl (16, 0)), .inl x1] [] σ = (Rx k_X5_no 0 [.inr (.inl (16, 0)), .inl x1] [] σ).bind fun q => Rx k_X5_noWide 8 [.inr (.inl (16, 0)), .inl x1] (q.1.toList ++ [.inr (.inr 4000000000000000000)]) q.2 := by
  refine (Rx_N (k := 3) (pc' := 5) (ls' := [.inr (.inl (16, 0)), .inl x1]) (st' := [.inl x1, .inr (.inl (16, 0)), .inr (.inr 4000000000000000000)]) (σ' := σ) rfl).trans ?_
  exact Rx_call (n := 3) (y' := k_X5_no) (as := [.inr (.inl (16, 0)), .inl x1]) (rest := [.inr (.inr 4000000000000000000)]) rfl rfl rfl
theorem r_X5_noWide_8 (x1 : Int) (s1 : Int) (t0 : Int) (σ : St) : Rx k_X5_noWide 8 [.inr (.inl (16, 0)), .inl x1] [.inl s1, .inr (.inr t0)] σ = some (some (.inr (.inr (wl (t0 - s1)))), σ) := by
  refine (Rx_N (k := 2) (pc' := 10) (ls' := [.inr (.inl (16, 0)), .inl x1]) (st' := [.inr (.inr (wl (t0 - s1)))]) (σ' := σ) rfl).trans ?_
  exact Rx_ret rfl rfl
theorem b_X5_noWide_8 (x1 : Int) (s1 : Int) (t0 : Int) (σ : St) (g0a : -9223372036854775808 ≤ (t0 - s1)) (g0b : (t0 - s1) < 9223372036854775808) : Rx k_X5_noWide 8 [.inr (.inl (16, 0)), .inl x1] [.inl s1, .inr (.inr t0)] σ = some (some (.inr (.inr (t0 - s1))), σ) := by
  have e0 := wl_id (x := (t0 - s1)) g0a g0b
  have raw := r_X5_noWide_8 x1 s1 t0 σ 
  simp only [e0] at raw
  exact raw
theorem r_X5_ofP_0 (x0 : Int) (σ : St) : Rx k_X5_ofP 0 [.inl x0] [] σ = some (some (.inl (wr (3 + (wr (3 * x0))))), σ) := by
  refine (Rx_N (k := 5) (pc' := 5) (ls' := [.inl x0]) (st' := [.inl (wr (3 + (wr (3 * x0))))]) (σ' := σ) rfl).trans ?_
  exact Rx_ret rfl rfl
theorem b_X5_ofP_0 (x0 : Int) (σ : St) (g0a : -2147483648 ≤ (3 * x0)) (g0b : (3 * x0) < 2147483648) (g1a : -2147483648 ≤ (3 + (3 * x0))) (g1b : (3 + (3 * x0)) < 2147483648) : Rx k_X5_ofP 0 [.inl x0] [] σ = some (some (.inl (3 + (3 * x0))), σ) := by
  have e0 := wr_id (x := (3 * x0)) g0a g0b
  have e1 := wr_id (x := (3 + (3 * x0))) g1a g1b
  have raw := r_X5_ofP_0 x0 σ 
  simp only [e0, e1] at raw
  exact raw
theorem r_X5_ofT_0 (x0 : Int) (σ : St) : Rx k_X5_ofT 0 [.inl x0] [] σ = some (some (.inl (wr (18 + (wr (4 * x0))))), σ) := by
  refine (Rx_N (k := 5) (pc' := 6) (ls' := [.inl x0]) (st' := [.inl (wr (18 + (wr (4 * x0))))]) (σ' := σ) rfl).trans ?_
  exact Rx_ret rfl rfl
theorem b_X5_ofT_0 (x0 : Int) (σ : St) (g0a : -2147483648 ≤ (4 * x0)) (g0b : (4 * x0) < 2147483648) (g1a : -2147483648 ≤ (18 + (4 * x0))) (g1b : (18 + (4 * x0)) < 2147483648) : Rx k_X5_ofT 0 [.inl x0] [] σ = some (some (.inl (18 + (4 * x0))), σ) := by
  have e0 := wr_id (x := (4 * x0)) g0a g0b
  have e1 := wr_id (x := (18 + (4 * x0))) g1a g1b
  have raw := r_X5_ofT_0 x0 σ 
  simp only [e0, e1] at raw
  exact raw
theorem r_X5_isPurpose_0 (x1 : Int) (σ : St) : Rx k_X5_isPurpose 0 [.inr (.inl (16, 0)), .inl x1] [] σ = (Rx k_X5_isIn 0 [.inl x1, .inl 0, .inl (wr ((σ 17 0 0) - 1))] [] σ).bind fun q => Rx k_X5_isPurpose 13 [.inr (.inl (16, 0)), .inl x1] (q.1.toList ++ []) q.2 := by
  refine (Rx_N (k := 8) (pc' := 10) (ls' := [.inr (.inl (16, 0)), .inl x1]) (st' := [.inl (wr ((σ 17 0 0) - 1)), .inl 0, .inl x1]) (σ' := σ) rfl).trans ?_
  exact Rx_call (n := 3) (y' := k_X5_isIn) (as := [.inl x1, .inl 0, .inl (wr ((σ 17 0 0) - 1))]) (rest := []) rfl rfl rfl
theorem b_X5_isPurpose_0 (x1 : Int) (σ : St) (g0a : -2147483648 ≤ ((σ 17 0 0) - 1)) (g0b : ((σ 17 0 0) - 1) < 2147483648) : Rx k_X5_isPurpose 0 [.inr (.inl (16, 0)), .inl x1] [] σ = (Rx k_X5_isIn 0 [.inl x1, .inl 0, .inl ((σ 17 0 0) - 1)] [] σ).bind fun q => Rx k_X5_isPurpose 13 [.inr (.inl (16, 0)), .inl x1] (q.1.toList ++ []) q.2 := by
  have e0 := wr_id (x := ((σ 17 0 0) - 1)) g0a g0b
  have raw := r_X5_isPurpose_0 x1 σ 
  simp only [e0] at raw
  exact raw
theorem b_X5_isPurpose_13 (x1 : Int) (s0 : Int) (σ : St) (h0 : rkOK 2 s0 = true) : Rx k_X5_isPurpose 13 [.inr (.inl (16, 0)), .inl x1] [.inl s0] σ = some (some (.inl s0), σ) := by
  exact Rx_ret rfl (if_pos h0)
theorem r_X5_isThing_0 (x1 : Int) (σ : St) : Rx k_X5_isThing 0 [.inr (.inl (16, 0)), .inl x1] [] σ = (Rx k_X5_isIn 0 [.inl x1, .inl 0, .inl (wr ((σ 17 0 1) - 1))] [] σ).bind fun q => Rx k_X5_isThing 13 [.inr (.inl (16, 0)), .inl x1] (q.1.toList ++ []) q.2 := by
  refine (Rx_N (k := 8) (pc' := 10) (ls' := [.inr (.inl (16, 0)), .inl x1]) (st' := [.inl (wr ((σ 17 0 1) - 1)), .inl 0, .inl x1]) (σ' := σ) rfl).trans ?_
  exact Rx_call (n := 3) (y' := k_X5_isIn) (as := [.inl x1, .inl 0, .inl (wr ((σ 17 0 1) - 1))]) (rest := []) rfl rfl rfl
theorem b_X5_isThing_0 (x1 : Int) (σ : St) (g0a : -2147483648 ≤ ((σ 17 0 1) - 1)) (g0b : ((σ 17 0 1) - 1) < 2147483648) : Rx k_X5_isThing 0 [.inr (.inl (16, 0)), .inl x1] [] σ = (Rx k_X5_isIn 0 [.inl x1, .inl 0, .inl ((σ 17 0 1) - 1)] [] σ).bind fun q => Rx k_X5_isThing 13 [.inr (.inl (16, 0)), .inl x1] (q.1.toList ++ []) q.2 := by
  have e0 := wr_id (x := ((σ 17 0 1) - 1)) g0a g0b
  have raw := r_X5_isThing_0 x1 σ 
  simp only [e0] at raw
  exact raw
theorem b_X5_isThing_13 (x1 : Int) (s0 : Int) (σ : St) (h0 : rkOK 2 s0 = true) : Rx k_X5_isThing 13 [.inr (.inl (16, 0)), .inl x1] [.inl s0] σ = some (some (.inl s0), σ) := by
  exact Rx_ret rfl (if_pos h0)
theorem b_X5_isPlace_0 (x0 : Int) (σ : St) : Rx k_X5_isPlace 0 [.inl x0] [] σ = (Rx k_X5_isIn 0 [.inl x0, .inl 0, .inl 19] [] σ).bind fun q => Rx k_X5_isPlace 7 [.inl x0] (q.1.toList ++ []) q.2 := by
  refine (Rx_N (k := 3) (pc' := 4) (ls' := [.inl x0]) (st' := [.inl 19, .inl 0, .inl x0]) (σ' := σ) rfl).trans ?_
  exact Rx_call (n := 3) (y' := k_X5_isIn) (as := [.inl x0, .inl 0, .inl 19]) (rest := []) rfl rfl rfl
theorem b_X5_isPlace_7 (x0 : Int) (s0 : Int) (σ : St) (h0 : rkOK 2 s0 = true) : Rx k_X5_isPlace 7 [.inl x0] [.inl s0] σ = some (some (.inl s0), σ) := by
  exact Rx_ret rfl (if_pos h0)
theorem b_X5_isUp_0 (r0 : Nat) (x1 : Int) (σ : St) : Rx k_X5_isUp 0 [.inr (.inl (17, r0)), .inl x1] [] σ = (Rx k_X5_ofT 0 [.inl x1] [] σ).bind fun q => Rx k_X5_isUp 5 [.inr (.inl (17, r0)), .inl x1] (q.1.toList ++ [.inr (.inl (17, r0))]) q.2 := by
  refine (Rx_N (k := 2) (pc' := 2) (ls' := [.inr (.inl (17, r0)), .inl x1]) (st' := [.inl x1, .inr (.inl (17, r0))]) (σ' := σ) rfl).trans ?_
  exact Rx_call (n := 3) (y' := k_X5_ofT) (as := [.inl x1]) (rest := [.inr (.inl (17, r0))]) rfl rfl rfl
theorem r_X5_isUp_5 (r0 : Nat) (x1 : Int) (s1 : Int) (q0 : Nat) (σ : St) (h0 : 0 ≤ (wr (s1 + 3))) (h1 : (wr (s1 + 3)) < 58) : Rx k_X5_isUp 5 [.inr (.inl (17, r0)), .inl x1] [.inl s1, .inr (.inl (17, q0))] σ = if (σ 17 q0 (wr (s1 + 3)).toNat) = 1 then Rx k_X5_isUp 12 [.inr (.inl (17, r0)), .inl x1] [] σ else Rx k_X5_isUp 16 [.inr (.inl (17, r0)), .inl x1] [] σ := by
  refine (Rx_N (k := 2) (pc' := 7) (ls' := [.inr (.inl (17, r0)), .inl x1]) (st' := [.inl (wr (s1 + 3)), .inr (.inl (17, q0))]) (σ' := σ) rfl).trans ?_
  refine (Rx_ild 58 rfl rfl rfl h0 h1).trans ?_
  exact Rx_ne0 (k := 2) rfl
theorem b_X5_isUp_5 (r0 : Nat) (x1 : Int) (s1 : Int) (q0 : Nat) (σ : St) (h0 : 0 ≤ (s1 + 3)) (h1 : (s1 + 3) < 58) (g0a : -2147483648 ≤ (s1 + 3)) (g0b : (s1 + 3) < 2147483648) : Rx k_X5_isUp 5 [.inr (.inl (17, r0)), .inl x1] [.inl s1, .inr (.inl (17, q0))] σ = if (σ 17 q0 (s1 + 3).toNat) = 1 then Rx k_X5_isUp 12 [.inr (.inl (17, r0)), .inl x1] [] σ else Rx k_X5_isUp 16 [.inr (.inl (17, r0)), .inl x1] [] σ := by
  have e0 := wr_id (x := (s1 + 3)) g0a g0b
  have raw := r_X5_isUp_5 r0 x1 s1 q0 σ (by simp only [e0]; exact h0) (by simp only [e0]; exact h1)
  simp only [e0] at raw
  exact raw
theorem b_X5_isUp_12 (r0 : Nat) (x1 : Int) (σ : St) : Rx k_X5_isUp 12 [.inr (.inl (17, r0)), .inl x1] [] σ = some (some (.inl 1), σ) := by
  refine (Rx_N (k := 2) (pc' := 17) (ls' := [.inr (.inl (17, r0)), .inl x1]) (st' := [.inl 1]) (σ' := σ) rfl).trans ?_
  exact Rx_ret rfl rfl
theorem b_X5_isUp_16 (r0 : Nat) (x1 : Int) (σ : St) : Rx k_X5_isUp 16 [.inr (.inl (17, r0)), .inl x1] [] σ = some (some (.inl 0), σ) := by
  refine (Rx_N (k := 1) (pc' := 17) (ls' := [.inr (.inl (17, r0)), .inl x1]) (st' := [.inl 0]) (σ' := σ) rfl).trans ?_
  exact Rx_ret rfl rfl
theorem b_X5_bits_0 (x0 : Int) (u1 : AV) (u2 : AV) (σ : St) : Rx k_X5_bits 0 [.inl x0, u1, u2] [] σ = Rx k_X5_bits 4 [.inl x0, .inl 0, .inl 0] [] σ := by
  refine (Rx_N (k := 4) (pc' := 4) (ls' := [.inl x0, .inl 0, .inl 0]) (st' := []) (σ' := σ) rfl).trans ?_
  rfl
theorem b_X5_bits_4 (x0 : Int) (x1 : Int) (x2 : Int) (σ : St) : Rx k_X5_bits 4 [.inl x0, .inl x1, .inl x2] [] σ = if x2 < 10 then Rx k_X5_bits 10 [.inl x0, .inl x1, .inl x2] [] σ else Rx k_X5_bits 24 [.inl x0, .inl x1, .inl x2] [] σ := by
  exact Rx_ge0 (k := 3) rfl
theorem r_X5_bits_10 (x0 : Int) (x1 : Int) (x2 : Int) (σ : St) : Rx k_X5_bits 10 [.inl x0, .inl x1, .inl x2] [] σ = Rx k_X5_bits 4 [.inl x0, .inl (wr (x1 + (bAnd (bShr x0 x2) 1))), .inl (wr (x2 + 1))] [] σ := by
  refine (Rx_N (k := 10) (pc' := 4) (ls' := [.inl x0, .inl (wr (x1 + (bAnd (bShr x0 x2) 1))), .inl (wr (x2 + 1))]) (st' := []) (σ' := σ) rfl).trans ?_
  rfl
theorem b_X5_bits_10 (x0 : Int) (x1 : Int) (x2 : Int) (σ : St) (g0a : -2147483648 ≤ (x2 + 1)) (g0b : (x2 + 1) < 2147483648) (g1a : -2147483648 ≤ (x1 + (bAnd (bShr x0 x2) 1))) (g1b : (x1 + (bAnd (bShr x0 x2) 1)) < 2147483648) : Rx k_X5_bits 10 [.inl x0, .inl x1, .inl x2] [] σ = Rx k_X5_bits 4 [.inl x0, .inl (x1 + (bAnd (bShr x0 x2) 1)), .inl (x2 + 1)] [] σ := by
  have e0 := wr_id (x := (x2 + 1)) g0a g0b
  have e1 := wr_id (x := (x1 + (bAnd (bShr x0 x2) 1))) g1a g1b
  have raw := r_X5_bits_10 x0 x1 x2 σ 
  simp only [e0, e1] at raw
  exact raw
theorem b_X5_bits_24 (x0 : Int) (x1 : Int) (x2 : Int) (σ : St) : Rx k_X5_bits 24 [.inl x0, .inl x1, .inl x2] [] σ = some (some (.inl x1), σ) := by
  refine (Rx_N (k := 1) (pc' := 25) (ls' := [.inl x0, .inl x1, .inl x2]) (st' := [.inl x1]) (σ' := σ) rfl).trans ?_
  exact Rx_ret rfl rfl
theorem b_X5_loadOf_0 (r0 : Nat) (x1 : Int) (u2 : AV) (u3 : AV) (σ : St) : Rx k_X5_loadOf 0 [.inr (.inl (17, r0)), .inl x1, u2, u3] [] σ = Rx k_X5_loadOf 4 [.inr (.inl (17, r0)), .inl x1, .inl 0, .inl 0] [] σ := by
  refine (Rx_N (k := 4) (pc' := 4) (ls' := [.inr (.inl (17, r0)), .inl x1, .inl 0, .inl 0]) (st' := []) (σ' := σ) rfl).trans ?_
  rfl
theorem b_X5_loadOf_4 (r0 : Nat) (x1 : Int) (x2 : Int) (x3 : Int) (σ : St) : Rx k_X5_loadOf 4 [.inr (.inl (17, r0)), .inl x1, .inl x2, .inl x3] [] σ = if x3 < (σ 17 r0 1) then Rx k_X5_loadOf 11 [.inr (.inl (17, r0)), .inl x1, .inl x2, .inl x3] [] σ else Rx k_X5_loadOf 52 [.inr (.inl (17, r0)), .inl x1, .inl x2, .inl x3] [] σ := by
  exact Rx_ge0 (k := 5) rfl
theorem b_X5_loadOf_11 (r0 : Nat) (x1 : Int) (x2 : Int) (x3 : Int) (σ : St) : Rx k_X5_loadOf 11 [.inr (.inl (17, r0)), .inl x1, .inl x2, .inl x3] [] σ = (Rx k_X5_isUp 0 [.inr (.inl (17, r0)), .inl x3] [] σ).bind fun q => Rx k_X5_loadOf 17 [.inr (.inl (17, r0)), .inl x1, .inl x2, .inl x3] (q.1.toList ++ [.inl x2]) q.2 := by
  refine (Rx_N (k := 3) (pc' := 14) (ls' := [.inr (.inl (17, r0)), .inl x1, .inl x2, .inl x3]) (st' := [.inl x3, .inr (.inl (17, r0)), .inl x2]) (σ' := σ) rfl).trans ?_
  exact Rx_call (n := 3) (y' := k_X5_isUp) (as := [.inr (.inl (17, r0)), .inl x3]) (rest := [.inl x2]) rfl rfl rfl
theorem b_X5_loadOf_17 (r0 : Nat) (x1 : Int) (x2 : Int) (x3 : Int) (s1 : Int) (s0 : Int) (σ : St) : Rx k_X5_loadOf 17 [.inr (.inl (17, r0)), .inl x1, .inl x2, .inl x3] [.inl s1, .inl s0] σ = if s1 = 0 then Rx k_X5_loadOf 43 [.inr (.inl (17, r0)), .inl x1, .inl x2, .inl x3] [.inl s0] σ else Rx k_X5_loadOf 20 [.inr (.inl (17, r0)), .inl x1, .inl x2, .inl x3] [.inl s0] σ := by
  exact Rx_eq0 (k := 1) rfl
theorem b_X5_loadOf_20 (r0 : Nat) (x1 : Int) (x2 : Int) (x3 : Int) (s0 : Int) (σ : St) : Rx k_X5_loadOf 20 [.inr (.inl (17, r0)), .inl x1, .inl x2, .inl x3] [.inl s0] σ = (Rx k_X5_ofT 0 [.inl x3] [] σ).bind fun q => Rx k_X5_loadOf 25 [.inr (.inl (17, r0)), .inl x1, .inl x2, .inl x3] (q.1.toList ++ [.inr (.inl (17, r0)), .inl s0]) q.2 := by
  refine (Rx_N (k := 2) (pc' := 22) (ls' := [.inr (.inl (17, r0)), .inl x1, .inl x2, .inl x3]) (st' := [.inl x3, .inr (.inl (17, r0)), .inl s0]) (σ' := σ) rfl).trans ?_
  exact Rx_call (n := 3) (y' := k_X5_ofT) (as := [.inl x3]) (rest := [.inr (.inl (17, r0)), .inl s0]) rfl rfl rfl
theorem r_X5_loadOf_25 (r0 : Nat) (x1 : Int) (x2 : Int) (x3 : Int) (s2 : Int) (q1 : Nat) (s0 : Int) (σ : St) (h0 : 0 ≤ (wr (s2 + 2))) (h1 : (wr (s2 + 2)) < 58) : Rx k_X5_loadOf 25 [.inr (.inl (17, r0)), .inl x1, .inl x2, .inl x3] [.inl s2, .inr (.inl (17, q1)), .inl s0] σ = if (σ 17 q1 (wr (s2 + 2)).toNat) = x1 then Rx k_X5_loadOf 32 [.inr (.inl (17, r0)), .inl x1, .inl x2, .inl x3] [.inl s0] σ else Rx k_X5_loadOf 43 [.inr (.inl (17, r0)), .inl x1, .inl x2, .inl x3] [.inl s0] σ := by
  refine (Rx_N (k := 2) (pc' := 27) (ls' := [.inr (.inl (17, r0)), .inl x1, .inl x2, .inl x3]) (st' := [.inl (wr (s2 + 2)), .inr (.inl (17, q1)), .inl s0]) (σ' := σ) rfl).trans ?_
  refine (Rx_ild 58 rfl rfl rfl h0 h1).trans ?_
  exact Rx_ne0 (k := 2) rfl
theorem b_X5_loadOf_25 (r0 : Nat) (x1 : Int) (x2 : Int) (x3 : Int) (s2 : Int) (q1 : Nat) (s0 : Int) (σ : St) (h0 : 0 ≤ (s2 + 2)) (h1 : (s2 + 2) < 58) (g0a : -2147483648 ≤ (s2 + 2)) (g0b : (s2 + 2) < 2147483648) : Rx k_X5_loadOf 25 [.inr (.inl (17, r0)), .inl x1, .inl x2, .inl x3] [.inl s2, .inr (.inl (17, q1)), .inl s0] σ = if (σ 17 q1 (s2 + 2).toNat) = x1 then Rx k_X5_loadOf 32 [.inr (.inl (17, r0)), .inl x1, .inl x2, .inl x3] [.inl s0] σ else Rx k_X5_loadOf 43 [.inr (.inl (17, r0)), .inl x1, .inl x2, .inl x3] [.inl s0] σ := by
  have e0 := wr_id (x := (s2 + 2)) g0a g0b
  have raw := r_X5_loadOf_25 r0 x1 x2 x3 s2 q1 s0 σ (by simp only [e0]; exact h0) (by simp only [e0]; exact h1)
  simp only [e0] at raw
  exact raw
theorem b_X5_loadOf_32 (r0 : Nat) (x1 : Int) (x2 : Int) (x3 : Int) (s0 : Int) (σ : St) : Rx k_X5_loadOf 32 [.inr (.inl (17, r0)), .inl x1, .inl x2, .inl x3] [.inl s0] σ = (Rx k_X5_ofT 0 [.inl x3] [] σ).bind fun q => Rx k_X5_loadOf 37 [.inr (.inl (17, r0)), .inl x1, .inl x2, .inl x3] (q.1.toList ++ [.inr (.inl (17, r0)), .inl s0]) q.2 := by
  refine (Rx_N (k := 2) (pc' := 34) (ls' := [.inr (.inl (17, r0)), .inl x1, .inl x2, .inl x3]) (st' := [.inl x3, .inr (.inl (17, r0)), .inl s0]) (σ' := σ) rfl).trans ?_
  exact Rx_call (n := 3) (y' := k_X5_ofT) (as := [.inl x3]) (rest := [.inr (.inl (17, r0)), .inl s0]) rfl rfl rfl
theorem r_X5_loadOf_37 (r0 : Nat) (x1 : Int) (x2 : Int) (x3 : Int) (s2 : Int) (q1 : Nat) (s0 : Int) (σ : St) (h0 : 0 ≤ (wr (s2 + 0))) (h1 : (wr (s2 + 0)) < 58) : Rx k_X5_loadOf 37 [.inr (.inl (17, r0)), .inl x1, .inl x2, .inl x3] [.inl s2, .inr (.inl (17, q1)), .inl s0] σ = Rx k_X5_loadOf 4 [.inr (.inl (17, r0)), .inl x1, .inl (wr (s0 + (σ 17 q1 (wr (s2 + 0)).toNat))), .inl (wr (x3 + 1))] [] σ := by
  refine (Rx_N (k := 2) (pc' := 39) (ls' := [.inr (.inl (17, r0)), .inl x1, .inl x2, .inl x3]) (st' := [.inl (wr (s2 + 0)), .inr (.inl (17, q1)), .inl s0]) (σ' := σ) rfl).trans ?_
  refine (Rx_ild 58 rfl rfl rfl h0 h1).trans ?_
  refine (Rx_N (k := 5) (pc' := 4) (ls' := [.inr (.inl (17, r0)), .inl x1, .inl (wr (s0 + (σ 17 q1 (wr (s2 + 0)).toNat))), .inl (wr (x3 + 1))]) (st' := []) (σ' := σ) rfl).trans ?_
  rfl
theorem b_X5_loadOf_37 (r0 : Nat) (x1 : Int) (x2 : Int) (x3 : Int) (s2 : Int) (q1 : Nat) (s0 : Int) (σ : St) (h0 : 0 ≤ (s2 + 0)) (h1 : (s2 + 0) < 58) (g0a : -2147483648 ≤ (s2 + 0)) (g0b : (s2 + 0) < 2147483648) (g1a : -2147483648 ≤ (x3 + 1)) (g1b : (x3 + 1) < 2147483648) (g2a : -2147483648 ≤ (s0 + (σ 17 q1 (s2 + 0).toNat))) (g2b : (s0 + (σ 17 q1 (s2 + 0).toNat)) < 2147483648) : Rx k_X5_loadOf 37 [.inr (.inl (17, r0)), .inl x1, .inl x2, .inl x3] [.inl s2, .inr (.inl (17, q1)), .inl s0] σ = Rx k_X5_loadOf 4 [.inr (.inl (17, r0)), .inl x1, .inl (s0 + (σ 17 q1 (s2 + 0).toNat)), .inl (x3 + 1)] [] σ := by
  have e0 := wr_id (x := (s2 + 0)) g0a g0b
  have e1 := wr_id (x := (x3 + 1)) g1a g1b
  have e2 := wr_id (x := (s0 + (σ 17 q1 (s2 + 0).toNat))) g2a g2b
  have raw := r_X5_loadOf_37 r0 x1 x2 x3 s2 q1 s0 σ (by simp only [e0, e1, e2]; exact h0) (by simp only [e0, e1, e2]; exact h1)
  simp only [e0, e1, e2] at raw
  exact raw
theorem r_X5_loadOf_43 (r0 : Nat) (x1 : Int) (x2 : Int) (x3 : Int) (s0 : Int) (σ : St) : Rx k_X5_loadOf 43 [.inr (.inl (17, r0)), .inl x1, .inl x2, .inl x3] [.inl s0] σ = Rx k_X5_loadOf 4 [.inr (.inl (17, r0)), .inl x1, .inl (wr (s0 + 0)), .inl (wr (x3 + 1))] [] σ := by
  refine (Rx_N (k := 5) (pc' := 4) (ls' := [.inr (.inl (17, r0)), .inl x1, .inl (wr (s0 + 0)), .inl (wr (x3 + 1))]) (st' := []) (σ' := σ) rfl).trans ?_
  rfl
theorem b_X5_loadOf_43 (r0 : Nat) (x1 : Int) (x2 : Int) (x3 : Int) (s0 : Int) (σ : St) (g0a : -2147483648 ≤ (s0 + 0)) (g0b : (s0 + 0) < 2147483648) (g1a : -2147483648 ≤ (x3 + 1)) (g1b : (x3 + 1) < 2147483648) : Rx k_X5_loadOf 43 [.inr (.inl (17, r0)), .inl x1, .inl x2, .inl x3] [.inl s0] σ = Rx k_X5_loadOf 4 [.inr (.inl (17, r0)), .inl x1, .inl (s0 + 0), .inl (x3 + 1)] [] σ := by
  have e0 := wr_id (x := (s0 + 0)) g0a g0b
  have e1 := wr_id (x := (x3 + 1)) g1a g1b
  have raw := r_X5_loadOf_43 r0 x1 x2 x3 s0 σ 
  simp only [e0, e1] at raw
  exact raw
theorem b_X5_loadOf_52 (r0 : Nat) (x1 : Int) (x2 : Int) (x3 : Int) (σ : St) : Rx k_X5_loadOf 52 [.inr (.inl (17, r0)), .inl x1, .inl x2, .inl x3] [] σ = some (some (.inl x2), σ) := by
  refine (Rx_N (k := 1) (pc' := 53) (ls' := [.inr (.inl (17, r0)), .inl x1, .inl x2, .inl x3]) (st' := [.inl x2]) (σ' := σ) rfl).trans ?_
  exact Rx_ret rfl rfl
theorem b_X5_spareOf_0 (r0 : Nat) (x1 : Int) (σ : St) : Rx k_X5_spareOf 0 [.inr (.inl (17, r0)), .inl x1] [] σ = (Rx k_X5_ofP 0 [.inl x1] [] σ).bind fun q => Rx k_X5_spareOf 5 [.inr (.inl (17, r0)), .inl x1] (q.1.toList ++ [.inr (.inl (17, r0))]) q.2 := by
  refine (Rx_N (k := 2) (pc' := 2) (ls' := [.inr (.inl (17, r0)), .inl x1]) (st' := [.inl x1, .inr (.inl (17, r0))]) (σ' := σ) rfl).trans ?_
  exact Rx_call (n := 3) (y' := k_X5_ofP) (as := [.inl x1]) (rest := [.inr (.inl (17, r0))]) rfl rfl rfl
theorem r_X5_spareOf_5 (r0 : Nat) (x1 : Int) (s1 : Int) (q0 : Nat) (σ : St) (h0 : 0 ≤ (wr (s1 + 2))) (h1 : (wr (s1 + 2)) < 58) : Rx k_X5_spareOf 5 [.inr (.inl (17, r0)), .inl x1] [.inl s1, .inr (.inl (17, q0))] σ = (Rx k_X5_loadOf 0 [.inr (.inl (17, r0)), .inl x1, uns, uns] [] σ).bind fun q => Rx k_X5_spareOf 13 [.inr (.inl (17, r0)), .inl x1] (q.1.toList ++ [.inl (σ 17 q0 (wr (s1 + 2)).toNat)]) q.2 := by
  refine (Rx_N (k := 2) (pc' := 7) (ls' := [.inr (.inl (17, r0)), .inl x1]) (st' := [.inl (wr (s1 + 2)), .inr (.inl (17, q0))]) (σ' := σ) rfl).trans ?_
  refine (Rx_ild 58 rfl rfl rfl h0 h1).trans ?_
  refine (Rx_N (k := 2) (pc' := 10) (ls' := [.inr (.inl (17, r0)), .inl x1]) (st' := [.inl x1, .inr (.inl (17, r0)), .inl (σ 17 q0 (wr (s1 + 2)).toNat)]) (σ' := σ) rfl).trans ?_
  exact Rx_call (n := 3) (y' := k_X5_loadOf) (as := [.inr (.inl (17, r0)), .inl x1]) (rest := [.inl (σ 17 q0 (wr (s1 + 2)).toNat)]) rfl rfl rfl
theorem b_X5_spareOf_5 (r0 : Nat) (x1 : Int) (s1 : Int) (q0 : Nat) (σ : St) (h0 : 0 ≤ (s1 + 2)) (h1 : (s1 + 2) < 58) (g0a : -2147483648 ≤ (s1 + 2)) (g0b : (s1 + 2) < 2147483648) : Rx k_X5_spareOf 5 [.inr (.inl (17, r0)), .inl x1] [.inl s1, .inr (.inl (17, q0))] σ = (Rx k_X5_loadOf 0 [.inr (.inl (17, r0)), .inl x1, uns, uns] [] σ).bind fun q => Rx k_X5_spareOf 13 [.inr (.inl (17, r0)), .inl x1] (q.1.toList ++ [.inl (σ 17 q0 (s1 + 2).toNat)]) q.2 := by
  have e0 := wr_id (x := (s1 + 2)) g0a g0b
  have raw := r_X5_spareOf_5 r0 x1 s1 q0 σ (by simp only [e0]; exact h0) (by simp only [e0]; exact h1)
  simp only [e0] at raw
  exact raw
theorem r_X5_spareOf_13 (r0 : Nat) (x1 : Int) (s1 : Int) (s0 : Int) (σ : St) : Rx k_X5_spareOf 13 [.inr (.inl (17, r0)), .inl x1] [.inl s1, .inl s0] σ = some (some (.inl (wr (s0 - s1))), σ) := by
  refine (Rx_N (k := 1) (pc' := 14) (ls' := [.inr (.inl (17, r0)), .inl x1]) (st' := [.inl (wr (s0 - s1))]) (σ' := σ) rfl).trans ?_
  exact Rx_ret rfl rfl
theorem b_X5_spareOf_13 (r0 : Nat) (x1 : Int) (s1 : Int) (s0 : Int) (σ : St) (g0a : -2147483648 ≤ (s0 - s1)) (g0b : (s0 - s1) < 2147483648) : Rx k_X5_spareOf 13 [.inr (.inl (17, r0)), .inl x1] [.inl s1, .inl s0] σ = some (some (.inl (s0 - s1)), σ) := by
  have e0 := wr_id (x := (s0 - s1)) g0a g0b
  have raw := r_X5_spareOf_13 r0 x1 s1 s0 σ 
  simp only [e0] at raw
  exact raw
theorem b_X5_lessBy_0 (r0 : Nat) (x1 : Int) (x2 : Int) (u3 : AV) (u4 : AV) (u5 : AV) (σ : St) : Rx k_X5_lessBy 0 [.inr (.inl (17, r0)), .inl x1, .inl x2, u3, u4, u5] [] σ = (Rx k_X5_ofP 0 [.inl x1] [] σ).bind fun q => Rx k_X5_lessBy 5 [.inr (.inl (17, r0)), .inl x1, .inl x2, u3, u4, u5] (q.1.toList ++ [.inr (.inl (17, r0))]) q.2 := by
  refine (Rx_N (k := 2) (pc' := 2) (ls' := [.inr (.inl (17, r0)), .inl x1, .inl x2, u3, u4, u5]) (st' := [.inl x1, .inr (.inl (17, r0))]) (σ' := σ) rfl).trans ?_
  exact Rx_call (n := 3) (y' := k_X5_ofP) (as := [.inl x1]) (rest := [.inr (.inl (17, r0))]) rfl rfl rfl
theorem r_X5_lessBy_5 (r0 : Nat) (x1 : Int) (x2 : Int) (u3 : AV) (u4 : AV) (u5 : AV) (s1 : Int) (q0 : Nat) (σ : St) (h0 : 0 ≤ (wr (s1 + 1))) (h1 : (wr (s1 + 1)) < 58) (h2 : (wr ((σ 17 q0 (wr (s1 + 1)).toNat) + 1)) ≠ 0) : Rx k_X5_lessBy 5 [.inr (.inl (17, r0)), .inl x1, .inl x2, u3, u4, u5] [.inl s1, .inr (.inl (17, q0))] σ = if (x2.tmod (wr ((σ 17 q0 (wr (s1 + 1)).toNat) + 1))) = 0 then Rx k_X5_lessBy 17 [.inr (.inl (17, r0)), .inl x1, .inl x2, .inl (σ 17 q0 (wr (s1 + 1)).toNat), u4, u5] [] σ else Rx k_X5_lessBy 21 [.inr (.inl (17, r0)), .inl x1, .inl x2, .inl (σ 17 q0 (wr (s1 + 1)).toNat), u4, u5] [] σ := by
  refine (Rx_N (k := 2) (pc' := 7) (ls' := [.inr (.inl (17, r0)), .inl x1, .inl x2, u3, u4, u5]) (st' := [.inl (wr (s1 + 1)), .inr (.inl (17, q0))]) (σ' := σ) rfl).trans ?_
  refine (Rx_ild 58 rfl rfl rfl h0 h1).trans ?_
  refine (Rx_N (k := 5) (pc' := 13) (ls' := [.inr (.inl (17, r0)), .inl x1, .inl x2, .inl (σ 17 q0 (wr (s1 + 1)).toNat), u4, u5]) (st' := [.inl (wr ((σ 17 q0 (wr (s1 + 1)).toNat) + 1)), .inl x2]) (σ' := σ) rfl).trans ?_
  refine (Rx_irem rfl h2).trans ?_
  exact Rx_ne0 (k := 1) rfl
theorem b_X5_lessBy_5 (r0 : Nat) (x1 : Int) (x2 : Int) (u3 : AV) (u4 : AV) (u5 : AV) (s1 : Int) (q0 : Nat) (σ : St) (h0 : 0 ≤ (s1 + 1)) (h1 : (s1 + 1) < 58) (h2 : ((σ 17 q0 (s1 + 1).toNat) + 1) ≠ 0) (g0a : -2147483648 ≤ (s1 + 1)) (g0b : (s1 + 1) < 2147483648) (g1a : -2147483648 ≤ ((σ 17 q0 (s1 + 1).toNat) + 1)) (g1b : ((σ 17 q0 (s1 + 1).toNat) + 1) < 2147483648) : Rx k_X5_lessBy 5 [.inr (.inl (17, r0)), .inl x1, .inl x2, u3, u4, u5] [.inl s1, .inr (.inl (17, q0))] σ = if (x2.tmod ((σ 17 q0 (s1 + 1).toNat) + 1)) = 0 then Rx k_X5_lessBy 17 [.inr (.inl (17, r0)), .inl x1, .inl x2, .inl (σ 17 q0 (s1 + 1).toNat), u4, u5] [] σ else Rx k_X5_lessBy 21 [.inr (.inl (17, r0)), .inl x1, .inl x2, .inl (σ 17 q0 (s1 + 1).toNat), u4, u5] [] σ := by
  have e0 := wr_id (x := (s1 + 1)) g0a g0b
  have e1 := wr_id (x := ((σ 17 q0 (s1 + 1).toNat) + 1)) g1a g1b
  have raw := r_X5_lessBy_5 r0 x1 x2 u3 u4 u5 s1 q0 σ (by simp only [e0, e1]; exact h0) (by simp only [e0, e1]; exact h1) (by simp only [e0, e1]; exact h2)
  simp only [e0, e1] at raw
  exact raw
theorem b_X5_lessBy_17 (r0 : Nat) (x1 : Int) (x2 : Int) (x3 : Int) (u4 : AV) (u5 : AV) (σ : St) : Rx k_X5_lessBy 17 [.inr (.inl (17, r0)), .inl x1, .inl x2, .inl x3, u4, u5] [] σ = (Rx k_X5_ofP 0 [.inl x1] [] σ).bind fun q => Rx k_X5_lessBy 29 [.inr (.inl (17, r0)), .inl x1, .inl x2, .inl x3, .inl 1, u5] (q.1.toList ++ [.inr (.inl (17, r0))]) q.2 := by
  refine (Rx_N (k := 5) (pc' := 26) (ls' := [.inr (.inl (17, r0)), .inl x1, .inl x2, .inl x3, .inl 1, u5]) (st' := [.inl x1, .inr (.inl (17, r0))]) (σ' := σ) rfl).trans ?_
  exact Rx_call (n := 3) (y' := k_X5_ofP) (as := [.inl x1]) (rest := [.inr (.inl (17, r0))]) rfl rfl rfl
theorem b_X5_lessBy_21 (r0 : Nat) (x1 : Int) (x2 : Int) (x3 : Int) (u4 : AV) (u5 : AV) (σ : St) : Rx k_X5_lessBy 21 [.inr (.inl (17, r0)), .inl x1, .inl x2, .inl x3, u4, u5] [] σ = (Rx k_X5_ofP 0 [.inl x1] [] σ).bind fun q => Rx k_X5_lessBy 29 [.inr (.inl (17, r0)), .inl x1, .inl x2, .inl x3, .inl 0, u5] (q.1.toList ++ [.inr (.inl (17, r0))]) q.2 := by
  refine (Rx_N (k := 4) (pc' := 26) (ls' := [.inr (.inl (17, r0)), .inl x1, .inl x2, .inl x3, .inl 0, u5]) (st' := [.inl x1, .inr (.inl (17, r0))]) (σ' := σ) rfl).trans ?_
  exact Rx_call (n := 3) (y' := k_X5_ofP) (as := [.inl x1]) (rest := [.inr (.inl (17, r0))]) rfl rfl rfl
theorem r_X5_lessBy_29 (r0 : Nat) (x1 : Int) (x2 : Int) (x3 : Int) (x4 : Int) (u5 : AV) (s1 : Int) (q0 : Nat) (σ : St) (h0 : 0 ≤ (wr (s1 + 2))) (h1 : (wr (s1 + 2)) < 58) : Rx k_X5_lessBy 29 [.inr (.inl (17, r0)), .inl x1, .inl x2, .inl x3, .inl x4, u5] [.inl s1, .inr (.inl (17, q0))] σ = if (σ 17 q0 (wr (s1 + 2)).toNat) < 50 then Rx k_X5_lessBy 41 [.inr (.inl (17, r0)), .inl x1, .inl x2, .inl x3, .inl x4, u5] [] σ else Rx k_X5_lessBy 37 [.inr (.inl (17, r0)), .inl x1, .inl x2, .inl x3, .inl x4, u5] [] σ := by
  refine (Rx_N (k := 2) (pc' := 31) (ls' := [.inr (.inl (17, r0)), .inl x1, .inl x2, .inl x3, .inl x4, u5]) (st' := [.inl (wr (s1 + 2)), .inr (.inl (17, q0))]) (σ' := σ) rfl).trans ?_
  refine (Rx_ild 58 rfl rfl rfl h0 h1).trans ?_
  exact Rx_lt0 (k := 2) rfl
theorem b_X5_lessBy_29 (r0 : Nat) (x1 : Int) (x2 : Int) (x3 : Int) (x4 : Int) (u5 : AV) (s1 : Int) (q0 : Nat) (σ : St) (h0 : 0 ≤ (s1 + 2)) (h1 : (s1 + 2) < 58) (g0a : -2147483648 ≤ (s1 + 2)) (g0b : (s1 + 2) < 2147483648) : Rx k_X5_lessBy 29 [.inr (.inl (17, r0)), .inl x1, .inl x2, .inl x3, .inl x4, u5] [.inl s1, .inr (.inl (17, q0))] σ = if (σ 17 q0 (s1 + 2).toNat) < 50 then Rx k_X5_lessBy 41 [.inr (.inl (17, r0)), .inl x1, .inl x2, .inl x3, .inl x4, u5] [] σ else Rx k_X5_lessBy 37 [.inr (.inl (17, r0)), .inl x1, .inl x2, .inl x3, .inl x4, u5] [] σ := by
  have e0 := wr_id (x := (s1 + 2)) g0a g0b
  have raw := r_X5_lessBy_29 r0 x1 x2 x3 x4 u5 s1 q0 σ (by simp only [e0]; exact h0) (by simp only [e0]; exact h1)
  simp only [e0] at raw
  exact raw
theorem b_X5_lessBy_37 (r0 : Nat) (x1 : Int) (x2 : Int) (x3 : Int) (x4 : Int) (u5 : AV) (σ : St) : Rx k_X5_lessBy 37 [.inr (.inl (17, r0)), .inl x1, .inl x2, .inl x3, .inl x4, u5] [] σ = (Rx k_X5_ofP 0 [.inl x1] [] σ).bind fun q => Rx k_X5_lessBy 50 [.inr (.inl (17, r0)), .inl x1, .inl x2, .inl x3, .inl x4, .inl 0] (q.1.toList ++ [.inr (.inl (17, r0))]) q.2 := by
  refine (Rx_N (k := 5) (pc' := 47) (ls' := [.inr (.inl (17, r0)), .inl x1, .inl x2, .inl x3, .inl x4, .inl 0]) (st' := [.inl x1, .inr (.inl (17, r0))]) (σ' := σ) rfl).trans ?_
  exact Rx_call (n := 3) (y' := k_X5_ofP) (as := [.inl x1]) (rest := [.inr (.inl (17, r0))]) rfl rfl rfl
theorem b_X5_lessBy_41 (r0 : Nat) (x1 : Int) (x2 : Int) (x3 : Int) (x4 : Int) (u5 : AV) (σ : St) : Rx k_X5_lessBy 41 [.inr (.inl (17, r0)), .inl x1, .inl x2, .inl x3, .inl x4, u5] [] σ = (Rx k_X5_ofP 0 [.inl x1] [] σ).bind fun q => Rx k_X5_lessBy 50 [.inr (.inl (17, r0)), .inl x1, .inl x2, .inl x3, .inl x4, .inl x4] (q.1.toList ++ [.inr (.inl (17, r0))]) q.2 := by
  refine (Rx_N (k := 4) (pc' := 47) (ls' := [.inr (.inl (17, r0)), .inl x1, .inl x2, .inl x3, .inl x4, .inl x4]) (st' := [.inl x1, .inr (.inl (17, r0))]) (σ' := σ) rfl).trans ?_
  exact Rx_call (n := 3) (y' := k_X5_ofP) (as := [.inl x1]) (rest := [.inr (.inl (17, r0))]) rfl rfl rfl
theorem r_X5_lessBy_50 (r0 : Nat) (x1 : Int) (x2 : Int) (x3 : Int) (x4 : Int) (x5 : Int) (s1 : Int) (q0 : Nat) (σ : St) (h0 : 0 ≤ (wr (s1 + 0))) (h1 : (wr (s1 + 0)) < 58) : Rx k_X5_lessBy 50 [.inr (.inl (17, r0)), .inl x1, .inl x2, .inl x3, .inl x4, .inl x5] [.inl s1, .inr (.inl (17, q0))] σ = if (σ 17 q0 (wr (s1 + 0)).toNat) = 1 then Rx k_X5_lessBy 88 [.inr (.inl (17, r0)), .inl x1, .inl x2, .inl x3, .inl x4, .inl x5] [] σ else if (σ 17 q0 (wr (s1 + 0)).toNat) = 2 then Rx k_X5_lessBy 91 [.inr (.inl (17, r0)), .inl x1, .inl x2, .inl x3, .inl x4, .inl x5] [] σ else if (σ 17 q0 (wr (s1 + 0)).toNat) = 3 then Rx k_X5_lessBy 94 [.inr (.inl (17, r0)), .inl x1, .inl x2, .inl x3, .inl x4, .inl x5] [] σ else if (σ 17 q0 (wr (s1 + 0)).toNat) = 4 then Rx k_X5_lessBy 101 [.inr (.inl (17, r0)), .inl x1, .inl x2, .inl x3, .inl x4, .inl x5] [] σ else if (σ 17 q0 (wr (s1 + 0)).toNat) = 5 then Rx k_X5_lessBy 105 [.inr (.inl (17, r0)), .inl x1, .inl x2, .inl x3, .inl x4, .inl x5] [] σ else Rx k_X5_lessBy 123 [.inr (.inl (17, r0)), .inl x1, .inl x2, .inl x3, .inl x4, .inl x5] [] σ := by
  refine (Rx_N (k := 2) (pc' := 52) (ls' := [.inr (.inl (17, r0)), .inl x1, .inl x2, .inl x3, .inl x4, .inl x5]) (st' := [.inl (wr (s1 + 0)), .inr (.inl (17, q0))]) (σ' := σ) rfl).trans ?_
  refine (Rx_ild 58 rfl rfl rfl h0 h1).trans ?_
  generalize (σ 17 q0 (wr (s1 + 0)).toNat) = z9
  by_cases e9 : z9 = 1
  · subst e9; exact Rx_N (k := 1) rfl
  by_cases e9 : z9 = 2
  · subst e9; exact Rx_N (k := 1) rfl
  by_cases e9 : z9 = 3
  · subst e9; exact Rx_N (k := 1) rfl
  by_cases e9 : z9 = 4
  · subst e9; exact Rx_N (k := 1) rfl
  by_cases e9 : z9 = 5
  · subst e9; exact Rx_N (k := 1) rfl
  rw [if_neg (by omega)]; rw [if_neg (by omega)]; rw [if_neg (by omega)]; rw [if_neg (by omega)]; rw [if_neg (by omega)]; exact Rx_tout rfl (by omega) rfl
theorem b_X5_lessBy_50 (r0 : Nat) (x1 : Int) (x2 : Int) (x3 : Int) (x4 : Int) (x5 : Int) (s1 : Int) (q0 : Nat) (σ : St) (h0 : 0 ≤ (s1 + 0)) (h1 : (s1 + 0) < 58) (g0a : -2147483648 ≤ (s1 + 0)) (g0b : (s1 + 0) < 2147483648) : Rx k_X5_lessBy 50 [.inr (.inl (17, r0)), .inl x1, .inl x2, .inl x3, .inl x4, .inl x5] [.inl s1, .inr (.inl (17, q0))] σ = if (σ 17 q0 (s1 + 0).toNat) = 1 then Rx k_X5_lessBy 88 [.inr (.inl (17, r0)), .inl x1, .inl x2, .inl x3, .inl x4, .inl x5] [] σ else if (σ 17 q0 (s1 + 0).toNat) = 2 then Rx k_X5_lessBy 91 [.inr (.inl (17, r0)), .inl x1, .inl x2, .inl x3, .inl x4, .inl x5] [] σ else if (σ 17 q0 (s1 + 0).toNat) = 3 then Rx k_X5_lessBy 94 [.inr (.inl (17, r0)), .inl x1, .inl x2, .inl x3, .inl x4, .inl x5] [] σ else if (σ 17 q0 (s1 + 0).toNat) = 4 then Rx k_X5_lessBy 101 [.inr (.inl (17, r0)), .inl x1, .inl x2, .inl x3, .inl x4, .inl x5] [] σ else if (σ 17 q0 (s1 + 0).toNat) = 5 then Rx k_X5_lessBy 105 [.inr (.inl (17, r0)), .inl x1, .inl x2, .inl x3, .inl x4, .inl x5] [] σ else Rx k_X5_lessBy 123 [.inr (.inl (17, r0)), .inl x1, .inl x2, .inl x3, .inl x4, .inl x5] [] σ := by
  have e0 := wr_id (x := (s1 + 0)) g0a g0b
  have raw := r_X5_lessBy_50 r0 x1 x2 x3 x4 x5 s1 q0 σ (by simp only [e0]; exact h0) (by simp only [e0]; exact h1)
  simp only [e0] at raw
  exact raw
theorem b_X5_lessBy_88 (r0 : Nat) (x1 : Int) (x2 : Int) (x3 : Int) (x4 : Int) (x5 : Int) (σ : St) : Rx k_X5_lessBy 88 [.inr (.inl (17, r0)), .inl x1, .inl x2, .inl x3, .inl x4, .inl x5] [] σ = some (some (.inl x4), σ) := by
  refine (Rx_N (k := 1) (pc' := 90) (ls' := [.inr (.inl (17, r0)), .inl x1, .inl x2, .inl x3, .inl x4, .inl x5]) (st' := [.inl x4]) (σ' := σ) rfl).trans ?_
  exact Rx_ret rfl rfl
theorem b_X5_lessBy_91 (r0 : Nat) (x1 : Int) (x2 : Int) (x3 : Int) (x4 : Int) (x5 : Int) (σ : St) : Rx k_X5_lessBy 91 [.inr (.inl (17, r0)), .inl x1, .inl x2, .inl x3, .inl x4, .inl x5] [] σ = some (some (.inl x5), σ) := by
  refine (Rx_N (k := 1) (pc' := 93) (ls' := [.inr (.inl (17, r0)), .inl x1, .inl x2, .inl x3, .inl x4, .inl x5]) (st' := [.inl x5]) (σ' := σ) rfl).trans ?_
  exact Rx_ret rfl rfl
theorem r_X5_lessBy_94 (r0 : Nat) (x1 : Int) (x2 : Int) (x3 : Int) (x4 : Int) (x5 : Int) (σ : St) : Rx k_X5_lessBy 94 [.inr (.inl (17, r0)), .inl x1, .inl x2, .inl x3, .inl x4, .inl x5] [] σ = some (some (.inl (wr (x5 + (wr (x3.tdiv 3))))), σ) := by
  refine (Rx_N (k := 5) (pc' := 100) (ls' := [.inr (.inl (17, r0)), .inl x1, .inl x2, .inl x3, .inl x4, .inl x5]) (st' := [.inl (wr (x5 + (wr (x3.tdiv 3))))]) (σ' := σ) rfl).trans ?_
  exact Rx_ret rfl rfl
theorem b_X5_lessBy_94 (r0 : Nat) (x1 : Int) (x2 : Int) (x3 : Int) (x4 : Int) (x5 : Int) (σ : St) (g0a : -2147483648 ≤ (x3.tdiv 3)) (g0b : (x3.tdiv 3) < 2147483648) (g1a : -2147483648 ≤ (x5 + (x3.tdiv 3))) (g1b : (x5 + (x3.tdiv 3)) < 2147483648) : Rx k_X5_lessBy 94 [.inr (.inl (17, r0)), .inl x1, .inl x2, .inl x3, .inl x4, .inl x5] [] σ = some (some (.inl (x5 + (x3.tdiv 3))), σ) := by
  have e0 := wr_id (x := (x3.tdiv 3)) g0a g0b
  have e1 := wr_id (x := (x5 + (x3.tdiv 3))) g1a g1b
  have raw := r_X5_lessBy_94 r0 x1 x2 x3 x4 x5 σ 
  simp only [e0, e1] at raw
  exact raw
theorem r_X5_lessBy_101 (r0 : Nat) (x1 : Int) (x2 : Int) (x3 : Int) (x4 : Int) (x5 : Int) (σ : St) : Rx k_X5_lessBy 101 [.inr (.inl (17, r0)), .inl x1, .inl x2, .inl x3, .inl x4, .inl x5] [] σ = some (some (.inl (wr (1 + x3))), σ) := by
  refine (Rx_N (k := 3) (pc' := 104) (ls' := [.inr (.inl (17, r0)), .inl x1, .inl x2, .inl x3, .inl x4, .inl x5]) (st' := [.inl (wr (1 + x3))]) (σ' := σ) rfl).trans ?_
  exact Rx_ret rfl rfl
theorem b_X5_lessBy_101 (r0 : Nat) (x1 : Int) (x2 : Int) (x3 : Int) (x4 : Int) (x5 : Int) (σ : St) (g0a : -2147483648 ≤ (1 + x3)) (g0b : (1 + x3) < 2147483648) : Rx k_X5_lessBy 101 [.inr (.inl (17, r0)), .inl x1, .inl x2, .inl x3, .inl x4, .inl x5] [] σ = some (some (.inl (1 + x3)), σ) := by
  have e0 := wr_id (x := (1 + x3)) g0a g0b
  have raw := r_X5_lessBy_101 r0 x1 x2 x3 x4 x5 σ 
  simp only [e0] at raw
  exact raw
theorem b_X5_lessBy_105 (r0 : Nat) (x1 : Int) (x2 : Int) (x3 : Int) (x4 : Int) (x5 : Int) (σ : St) : Rx k_X5_lessBy 105 [.inr (.inl (17, r0)), .inl x1, .inl x2, .inl x3, .inl x4, .inl x5] [] σ = (Rx k_X5_loadOf 0 [.inr (.inl (17, r0)), .inl x1, uns, uns] [] σ).bind fun q => Rx k_X5_lessBy 110 [.inr (.inl (17, r0)), .inl x1, .inl x2, .inl x3, .inl x4, .inl x5] (q.1.toList ++ []) q.2 := by
  refine (Rx_N (k := 2) (pc' := 107) (ls' := [.inr (.inl (17, r0)), .inl x1, .inl x2, .inl x3, .inl x4, .inl x5]) (st' := [.inl x1, .inr (.inl (17, r0))]) (σ' := σ) rfl).trans ?_
  exact Rx_call (n := 3) (y' := k_X5_loadOf) (as := [.inr (.inl (17, r0)), .inl x1]) (rest := []) rfl rfl rfl
theorem b_X5_lessBy_110 (r0 : Nat) (x1 : Int) (x2 : Int) (x3 : Int) (x4 : Int) (x5 : Int) (s0 : Int) (σ : St) : Rx k_X5_lessBy 110 [.inr (.inl (17, r0)), .inl x1, .inl x2, .inl x3, .inl x4, .inl x5] [.inl s0] σ = if 0 < s0 then Rx k_X5_lessBy 113 [.inr (.inl (17, r0)), .inl x1, .inl x2, .inl x3, .inl x4, .inl x5] [] σ else Rx k_X5_lessBy 121 [.inr (.inl (17, r0)), .inl x1, .inl x2, .inl x3, .inl x4, .inl x5] [] σ := by
  exact Rx_le0 (k := 1) rfl
theorem r_X5_lessBy_113 (r0 : Nat) (x1 : Int) (x2 : Int) (x3 : Int) (x4 : Int) (x5 : Int) (σ : St) : Rx k_X5_lessBy 113 [.inr (.inl (17, r0)), .inl x1, .inl x2, .inl x3, .inl x4, .inl x5] [] σ = some (some (.inl (wr (2 * (wr (1 + x3))))), σ) := by
  refine (Rx_N (k := 6) (pc' := 122) (ls' := [.inr (.inl (17, r0)), .inl x1, .inl x2, .inl x3, .inl x4, .inl x5]) (st' := [.inl (wr (2 * (wr (1 + x3))))]) (σ' := σ) rfl).trans ?_
  exact Rx_ret rfl rfl
theorem b_X5_lessBy_113 (r0 : Nat) (x1 : Int) (x2 : Int) (x3 : Int) (x4 : Int) (x5 : Int) (σ : St) (g0a : -2147483648 ≤ (1 + x3)) (g0b : (1 + x3) < 2147483648) (g1a : -2147483648 ≤ (2 * (1 + x3))) (g1b : (2 * (1 + x3)) < 2147483648) : Rx k_X5_lessBy 113 [.inr (.inl (17, r0)), .inl x1, .inl x2, .inl x3, .inl x4, .inl x5] [] σ = some (some (.inl (2 * (1 + x3))), σ) := by
  have e0 := wr_id (x := (1 + x3)) g0a g0b
  have e1 := wr_id (x := (2 * (1 + x3))) g1a g1b
  have raw := r_X5_lessBy_113 r0 x1 x2 x3 x4 x5 σ 
  simp only [e0, e1] at raw
  exact raw
theorem b_X5_lessBy_121 (r0 : Nat) (x1 : Int) (x2 : Int) (x3 : Int) (x4 : Int) (x5 : Int) (σ : St) : Rx k_X5_lessBy 121 [.inr (.inl (17, r0)), .inl x1, .inl x2, .inl x3, .inl x4, .inl x5] [] σ = some (some (.inl 0), σ) := by
  refine (Rx_N (k := 1) (pc' := 122) (ls' := [.inr (.inl (17, r0)), .inl x1, .inl x2, .inl x3, .inl x4, .inl x5]) (st' := [.inl 0]) (σ' := σ) rfl).trans ?_
  exact Rx_ret rfl rfl
theorem b_X5_lessBy_123 (r0 : Nat) (x1 : Int) (x2 : Int) (x3 : Int) (x4 : Int) (x5 : Int) (σ : St) : Rx k_X5_lessBy 123 [.inr (.inl (17, r0)), .inl x1, .inl x2, .inl x3, .inl x4, .inl x5] [] σ = some (some (.inl 1), σ) := by
  refine (Rx_N (k := 1) (pc' := 124) (ls' := [.inr (.inl (17, r0)), .inl x1, .inl x2, .inl x3, .inl x4, .inl x5]) (st' := [.inl 1]) (σ' := σ) rfl).trans ?_
  exact Rx_ret rfl rfl
theorem b_X5_whoAt_0 (r0 : Nat) (x1 : Int) (u2 : AV) (σ : St) : Rx k_X5_whoAt 0 [.inr (.inl (17, r0)), .inl x1, u2] [] σ = Rx k_X5_whoAt 2 [.inr (.inl (17, r0)), .inl x1, .inl 0] [] σ := by
  refine (Rx_N (k := 2) (pc' := 2) (ls' := [.inr (.inl (17, r0)), .inl x1, .inl 0]) (st' := []) (σ' := σ) rfl).trans ?_
  rfl
theorem b_X5_whoAt_2 (r0 : Nat) (x1 : Int) (x2 : Int) (σ : St) : Rx k_X5_whoAt 2 [.inr (.inl (17, r0)), .inl x1, .inl x2] [] σ = if x2 < (σ 17 r0 1) then Rx k_X5_whoAt 9 [.inr (.inl (17, r0)), .inl x1, .inl x2] [] σ else Rx k_X5_whoAt 29 [.inr (.inl (17, r0)), .inl x1, .inl x2] [] σ := by
  exact Rx_ge0 (k := 5) rfl
theorem b_X5_whoAt_9 (r0 : Nat) (x1 : Int) (x2 : Int) (σ : St) : Rx k_X5_whoAt 9 [.inr (.inl (17, r0)), .inl x1, .inl x2] [] σ = (Rx k_X5_ofT 0 [.inl x2] [] σ).bind fun q => Rx k_X5_whoAt 14 [.inr (.inl (17, r0)), .inl x1, .inl x2] (q.1.toList ++ [.inr (.inl (17, r0))]) q.2 := by
  refine (Rx_N (k := 2) (pc' := 11) (ls' := [.inr (.inl (17, r0)), .inl x1, .inl x2]) (st' := [.inl x2, .inr (.inl (17, r0))]) (σ' := σ) rfl).trans ?_
  exact Rx_call (n := 3) (y' := k_X5_ofT) (as := [.inl x2]) (rest := [.inr (.inl (17, r0))]) rfl rfl rfl
theorem r_X5_whoAt_14 (r0 : Nat) (x1 : Int) (x2 : Int) (s1 : Int) (q0 : Nat) (σ : St) (h0 : 0 ≤ (wr (s1 + 1))) (h1 : (wr (s1 + 1)) < 58) : Rx k_X5_whoAt 14 [.inr (.inl (17, r0)), .inl x1, .inl x2] [.inl s1, .inr (.inl (17, q0))] σ = if (σ 17 q0 (wr (s1 + 1)).toNat) = x1 then Rx k_X5_whoAt 21 [.inr (.inl (17, r0)), .inl x1, .inl x2] [] σ else Rx k_X5_whoAt 23 [.inr (.inl (17, r0)), .inl x1, .inl x2] [] σ := by
  refine (Rx_N (k := 2) (pc' := 16) (ls' := [.inr (.inl (17, r0)), .inl x1, .inl x2]) (st' := [.inl (wr (s1 + 1)), .inr (.inl (17, q0))]) (σ' := σ) rfl).trans ?_
  refine (Rx_ild 58 rfl rfl rfl h0 h1).trans ?_
  exact Rx_ne0 (k := 2) rfl
theorem b_X5_whoAt_14 (r0 : Nat) (x1 : Int) (x2 : Int) (s1 : Int) (q0 : Nat) (σ : St) (h0 : 0 ≤ (s1 + 1)) (h1 : (s1 + 1) < 58) (g0a : -2147483648 ≤ (s1 + 1)) (g0b : (s1 + 1) < 2147483648) : Rx k_X5_whoAt 14 [.inr (.inl (17, r0)), .inl x1, .inl x2] [.inl s1, .inr (.inl (17, q0))] σ = if (σ 17 q0 (s1 + 1).toNat) = x1 then Rx k_X5_whoAt 21 [.inr (.inl (17, r0)), .inl x1, .inl x2] [] σ else Rx k_X5_whoAt 23 [.inr (.inl (17, r0)), .inl x1, .inl x2] [] σ := by
  have e0 := wr_id (x := (s1 + 1)) g0a g0b
  have raw := r_X5_whoAt_14 r0 x1 x2 s1 q0 σ (by simp only [e0]; exact h0) (by simp only [e0]; exact h1)
  simp only [e0] at raw
  exact raw
theorem b_X5_whoAt_21 (r0 : Nat) (x1 : Int) (x2 : Int) (σ : St) : Rx k_X5_whoAt 21 [.inr (.inl (17, r0)), .inl x1, .inl x2] [] σ = some (some (.inl x2), σ) := by
  refine (Rx_N (k := 1) (pc' := 22) (ls' := [.inr (.inl (17, r0)), .inl x1, .inl x2]) (st' := [.inl x2]) (σ' := σ) rfl).trans ?_
  exact Rx_ret rfl rfl
theorem r_X5_whoAt_23 (r0 : Nat) (x1 : Int) (x2 : Int) (σ : St) : Rx k_X5_whoAt 23 [.inr (.inl (17, r0)), .inl x1, .inl x2] [] σ = Rx k_X5_whoAt 2 [.inr (.inl (17, r0)), .inl x1, .inl (wr (x2 + 1))] [] σ := by
  refine (Rx_N (k := 2) (pc' := 2) (ls' := [.inr (.inl (17, r0)), .inl x1, .inl (wr (x2 + 1))]) (st' := []) (σ' := σ) rfl).trans ?_
  rfl
theorem b_X5_whoAt_23 (r0 : Nat) (x1 : Int) (x2 : Int) (σ : St) (g0a : -2147483648 ≤ (x2 + 1)) (g0b : (x2 + 1) < 2147483648) : Rx k_X5_whoAt 23 [.inr (.inl (17, r0)), .inl x1, .inl x2] [] σ = Rx k_X5_whoAt 2 [.inr (.inl (17, r0)), .inl x1, .inl (x2 + 1)] [] σ := by
  have e0 := wr_id (x := (x2 + 1)) g0a g0b
  have raw := r_X5_whoAt_23 r0 x1 x2 σ 
  simp only [e0] at raw
  exact raw
theorem b_X5_whoAt_29 (r0 : Nat) (x1 : Int) (x2 : Int) (σ : St) : Rx k_X5_whoAt 29 [.inr (.inl (17, r0)), .inl x1, .inl x2] [] σ = some (some (.inl (-9)), σ) := by
  refine (Rx_N (k := 1) (pc' := 31) (ls' := [.inr (.inl (17, r0)), .inl x1, .inl x2]) (st' := [.inl (-9)]) (σ' := σ) rfl).trans ?_
  exact Rx_ret rfl rfl
theorem b_X5_fells_0 (r0 : Nat) (x1 : Int) (u2 : AV) (u3 : AV) (u4 : AV) (σ : St) : Rx k_X5_fells 0 [.inr (.inl (17, r0)), .inl x1, u2, u3, u4] [] σ = (Rx k_X5_ofT 0 [.inl x1] [] σ).bind fun q => Rx k_X5_fells 9 [.inr (.inl (17, r0)), .inl x1, .inl 0, .inl x1, u4] (q.1.toList ++ [.inr (.inl (17, r0))]) q.2 := by
  refine (Rx_N (k := 6) (pc' := 6) (ls' := [.inr (.inl (17, r0)), .inl x1, .inl 0, .inl x1, u4]) (st' := [.inl x1, .inr (.inl (17, r0))]) (σ' := σ) rfl).trans ?_
  exact Rx_call (n := 3) (y' := k_X5_ofT) (as := [.inl x1]) (rest := [.inr (.inl (17, r0))]) rfl rfl rfl
theorem r_X5_fells_9 (r0 : Nat) (x1 : Int) (x2 : Int) (x3 : Int) (u4 : AV) (s1 : Int) (q0 : Nat) (σ : St) (h0 : 0 ≤ (wr (s1 + 0))) (h1 : (wr (s1 + 0)) < 58) : Rx k_X5_fells 9 [.inr (.inl (17, r0)), .inl x1, .inl x2, .inl x3, u4] [.inl s1, .inr (.inl (17, q0))] σ = Rx k_X5_fells 14 [.inr (.inl (17, r0)), .inl x1, .inl x2, .inl x3, .inl (σ 17 q0 (wr (s1 + 0)).toNat)] [] σ := by
  refine (Rx_N (k := 2) (pc' := 11) (ls' := [.inr (.inl (17, r0)), .inl x1, .inl x2, .inl x3, u4]) (st' := [.inl (wr (s1 + 0)), .inr (.inl (17, q0))]) (σ' := σ) rfl).trans ?_
  refine (Rx_ild 58 rfl rfl rfl h0 h1).trans ?_
  refine (Rx_N (k := 1) (pc' := 14) (ls' := [.inr (.inl (17, r0)), .inl x1, .inl x2, .inl x3, .inl (σ 17 q0 (wr (s1 + 0)).toNat)]) (st' := []) (σ' := σ) rfl).trans ?_
  rfl
theorem b_X5_fells_9 (r0 : Nat) (x1 : Int) (x2 : Int) (x3 : Int) (u4 : AV) (s1 : Int) (q0 : Nat) (σ : St) (h0 : 0 ≤ (s1 + 0)) (h1 : (s1 + 0) < 58) (g0a : -2147483648 ≤ (s1 + 0)) (g0b : (s1 + 0) < 2147483648) : Rx k_X5_fells 9 [.inr (.inl (17, r0)), .inl x1, .inl x2, .inl x3, u4] [.inl s1, .inr (.inl (17, q0))] σ = Rx k_X5_fells 14 [.inr (.inl (17, r0)), .inl x1, .inl x2, .inl x3, .inl (σ 17 q0 (s1 + 0).toNat)] [] σ := by
  have e0 := wr_id (x := (s1 + 0)) g0a g0b
  have raw := r_X5_fells_9 r0 x1 x2 x3 u4 s1 q0 σ (by simp only [e0]; exact h0) (by simp only [e0]; exact h1)
  simp only [e0] at raw
  exact raw
theorem b_X5_fells_14 (r0 : Nat) (x1 : Int) (x2 : Int) (x3 : Int) (x4 : Int) (σ : St) : Rx k_X5_fells 14 [.inr (.inl (17, r0)), .inl x1, .inl x2, .inl x3, .inl x4] [] σ = if x3 < 0 then Rx k_X5_fells 79 [.inr (.inl (17, r0)), .inl x1, .inl x2, .inl x3, .inl x4] [] σ else Rx k_X5_fells 18 [.inr (.inl (17, r0)), .inl x1, .inl x2, .inl x3, .inl x4] [] σ := by
  exact Rx_lt0 (k := 2) rfl
theorem b_X5_fells_18 (r0 : Nat) (x1 : Int) (x2 : Int) (x3 : Int) (x4 : Int) (σ : St) : Rx k_X5_fells 18 [.inr (.inl (17, r0)), .inl x1, .inl x2, .inl x3, .inl x4] [] σ = (Rx k_X5_isUp 0 [.inr (.inl (17, r0)), .inl x3] [] σ).bind fun q => Rx k_X5_fells 23 [.inr (.inl (17, r0)), .inl x1, .inl x2, .inl x3, .inl x4] (q.1.toList ++ []) q.2 := by
  refine (Rx_N (k := 2) (pc' := 20) (ls' := [.inr (.inl (17, r0)), .inl x1, .inl x2, .inl x3, .inl x4]) (st' := [.inl x3, .inr (.inl (17, r0))]) (σ' := σ) rfl).trans ?_
  exact Rx_call (n := 3) (y' := k_X5_isUp) (as := [.inr (.inl (17, r0)), .inl x3]) (rest := []) rfl rfl rfl
theorem b_X5_fells_23 (r0 : Nat) (x1 : Int) (x2 : Int) (x3 : Int) (x4 : Int) (s0 : Int) (σ : St) : Rx k_X5_fells 23 [.inr (.inl (17, r0)), .inl x1, .inl x2, .inl x3, .inl x4] [.inl s0] σ = if s0 = 0 then Rx k_X5_fells 79 [.inr (.inl (17, r0)), .inl x1, .inl x2, .inl x3, .inl x4] [] σ else Rx k_X5_fells 26 [.inr (.inl (17, r0)), .inl x1, .inl x2, .inl x3, .inl x4] [] σ := by
  exact Rx_eq0 (k := 1) rfl
theorem b_X5_fells_26 (r0 : Nat) (x1 : Int) (x2 : Int) (x3 : Int) (x4 : Int) (σ : St) : Rx k_X5_fells 26 [.inr (.inl (17, r0)), .inl x1, .inl x2, .inl x3, .inl x4] [] σ = (Rx k_X5_ofT 0 [.inl x3] [] σ).bind fun q => Rx k_X5_fells 31 [.inr (.inl (17, r0)), .inl x1, .inl x2, .inl x3, .inl x4] (q.1.toList ++ [.inr (.inl (17, r0))]) q.2 := by
  refine (Rx_N (k := 2) (pc' := 28) (ls' := [.inr (.inl (17, r0)), .inl x1, .inl x2, .inl x3, .inl x4]) (st' := [.inl x3, .inr (.inl (17, r0))]) (σ' := σ) rfl).trans ?_
  exact Rx_call (n := 3) (y' := k_X5_ofT) (as := [.inl x3]) (rest := [.inr (.inl (17, r0))]) rfl rfl rfl
theorem r_X5_fells_31 (r0 : Nat) (x1 : Int) (x2 : Int) (x3 : Int) (x4 : Int) (s1 : Int) (q0 : Nat) (σ : St) (h0 : 0 ≤ (wr (s1 + 0))) (h1 : (wr (s1 + 0)) < 58) : Rx k_X5_fells 31 [.inr (.inl (17, r0)), .inl x1, .inl x2, .inl x3, .inl x4] [.inl s1, .inr (.inl (17, q0))] σ = if x4 < (σ 17 q0 (wr (s1 + 0)).toNat) then Rx k_X5_fells 79 [.inr (.inl (17, r0)), .inl x1, .inl x2, .inl x3, .inl x4] [] σ else Rx k_X5_fells 39 [.inr (.inl (17, r0)), .inl x1, .inl x2, .inl x3, .inl x4] [] σ := by
  refine (Rx_N (k := 2) (pc' := 33) (ls' := [.inr (.inl (17, r0)), .inl x1, .inl x2, .inl x3, .inl x4]) (st' := [.inl (wr (s1 + 0)), .inr (.inl (17, q0))]) (σ' := σ) rfl).trans ?_
  refine (Rx_ild 58 rfl rfl rfl h0 h1).trans ?_
  exact Rx_gt0 (k := 2) rfl
theorem b_X5_fells_31 (r0 : Nat) (x1 : Int) (x2 : Int) (x3 : Int) (x4 : Int) (s1 : Int) (q0 : Nat) (σ : St) (h0 : 0 ≤ (s1 + 0)) (h1 : (s1 + 0) < 58) (g0a : -2147483648 ≤ (s1 + 0)) (g0b : (s1 + 0) < 2147483648) : Rx k_X5_fells 31 [.inr (.inl (17, r0)), .inl x1, .inl x2, .inl x3, .inl x4] [.inl s1, .inr (.inl (17, q0))] σ = if x4 < (σ 17 q0 (s1 + 0).toNat) then Rx k_X5_fells 79 [.inr (.inl (17, r0)), .inl x1, .inl x2, .inl x3, .inl x4] [] σ else Rx k_X5_fells 39 [.inr (.inl (17, r0)), .inl x1, .inl x2, .inl x3, .inl x4] [] σ := by
  have e0 := wr_id (x := (s1 + 0)) g0a g0b
  have raw := r_X5_fells_31 r0 x1 x2 x3 x4 s1 q0 σ (by simp only [e0]; exact h0) (by simp only [e0]; exact h1)
  simp only [e0] at raw
  exact raw
theorem b_X5_fells_39 (r0 : Nat) (x1 : Int) (x2 : Int) (x3 : Int) (x4 : Int) (σ : St) : Rx k_X5_fells 39 [.inr (.inl (17, r0)), .inl x1, .inl x2, .inl x3, .inl x4] [] σ = (Rx k_X5_ofT 0 [.inl x3] [] σ).bind fun q => Rx k_X5_fells 44 [.inr (.inl (17, r0)), .inl x1, .inl x2, .inl x3, .inl x4] (q.1.toList ++ [.inr (.inl (17, r0))]) q.2 := by
  refine (Rx_N (k := 2) (pc' := 41) (ls' := [.inr (.inl (17, r0)), .inl x1, .inl x2, .inl x3, .inl x4]) (st' := [.inl x3, .inr (.inl (17, r0))]) (σ' := σ) rfl).trans ?_
  exact Rx_call (n := 3) (y' := k_X5_ofT) (as := [.inl x3]) (rest := [.inr (.inl (17, r0))]) rfl rfl rfl
theorem r_X5_fells_44 (r0 : Nat) (x1 : Int) (x2 : Int) (x3 : Int) (x4 : Int) (s1 : Int) (q0 : Nat) (σ : St) (h0 : 0 ≤ (wr (s1 + 0))) (h1 : (wr (s1 + 0)) < 58) : Rx k_X5_fells 44 [.inr (.inl (17, r0)), .inl x1, .inl x2, .inl x3, .inl x4] [.inl s1, .inr (.inl (17, q0))] σ = (Rx k_X5_ofT 0 [.inl x3] [] σ).bind fun q => Rx k_X5_fells 54 [.inr (.inl (17, r0)), .inl x1, .inl x2, .inl x3, .inl (σ 17 q0 (wr (s1 + 0)).toNat)] (q.1.toList ++ [.inr (.inl (17, r0))]) q.2 := by
  refine (Rx_N (k := 2) (pc' := 46) (ls' := [.inr (.inl (17, r0)), .inl x1, .inl x2, .inl x3, .inl x4]) (st' := [.inl (wr (s1 + 0)), .inr (.inl (17, q0))]) (σ' := σ) rfl).trans ?_
  refine (Rx_ild 58 rfl rfl rfl h0 h1).trans ?_
  refine (Rx_N (k := 3) (pc' := 51) (ls' := [.inr (.inl (17, r0)), .inl x1, .inl x2, .inl x3, .inl (σ 17 q0 (wr (s1 + 0)).toNat)]) (st' := [.inl x3, .inr (.inl (17, r0))]) (σ' := σ) rfl).trans ?_
  exact Rx_call (n := 3) (y' := k_X5_ofT) (as := [.inl x3]) (rest := [.inr (.inl (17, r0))]) rfl rfl rfl
theorem b_X5_fells_44 (r0 : Nat) (x1 : Int) (x2 : Int) (x3 : Int) (x4 : Int) (s1 : Int) (q0 : Nat) (σ : St) (h0 : 0 ≤ (s1 + 0)) (h1 : (s1 + 0) < 58) (g0a : -2147483648 ≤ (s1 + 0)) (g0b : (s1 + 0) < 2147483648) : Rx k_X5_fells 44 [.inr (.inl (17, r0)), .inl x1, .inl x2, .inl x3, .inl x4] [.inl s1, .inr (.inl (17, q0))] σ = (Rx k_X5_ofT 0 [.inl x3] [] σ).bind fun q => Rx k_X5_fells 54 [.inr (.inl (17, r0)), .inl x1, .inl x2, .inl x3, .inl (σ 17 q0 (s1 + 0).toNat)] (q.1.toList ++ [.inr (.inl (17, r0))]) q.2 := by
  have e0 := wr_id (x := (s1 + 0)) g0a g0b
  have raw := r_X5_fells_44 r0 x1 x2 x3 x4 s1 q0 σ (by simp only [e0]; exact h0) (by simp only [e0]; exact h1)
  simp only [e0] at raw
  exact raw
theorem r_X5_fells_54 (r0 : Nat) (x1 : Int) (x2 : Int) (x3 : Int) (x4 : Int) (s1 : Int) (q0 : Nat) (σ : St) (h0 : 0 ≤ (wr (s1 + 3))) (h1 : (wr (s1 + 3)) < 58) : Rx k_X5_fells 54 [.inr (.inl (17, r0)), .inl x1, .inl x2, .inl x3, .inl x4] [.inl s1, .inr (.inl (17, q0))] σ = (Rx k_X5_ofT 0 [.inl x3] [] (up σ 17 q0 ((wr (s1 + 3)).toNat) 0)).bind fun q => Rx k_X5_fells 67 [.inr (.inl (17, r0)), .inl x1, .inl (wr (x2 + 1)), .inl x3, .inl x4] (q.1.toList ++ [.inr (.inl (17, r0)), .inr (.inl (17, r0))]) q.2 := by
  refine (Rx_N (k := 3) (pc' := 57) (ls' := [.inr (.inl (17, r0)), .inl x1, .inl x2, .inl x3, .inl x4]) (st' := [.inl 0, .inl (wr (s1 + 3)), .inr (.inl (17, q0))]) (σ' := σ) rfl).trans ?_
  refine (Rx_ist 58 rfl rfl h0 h1).trans ?_
  refine (Rx_N (k := 4) (pc' := 64) (ls' := [.inr (.inl (17, r0)), .inl x1, .inl (wr (x2 + 1)), .inl x3, .inl x4]) (st' := [.inl x3, .inr (.inl (17, r0)), .inr (.inl (17, r0))]) (σ' := (up σ 17 q0 ((wr (s1 + 3)).toNat) 0)) rfl).trans ?_
  exact Rx_call (n := 3) (y' := k_X5_ofT) (as := [.inl x3]) (rest := [.inr (.inl (17, r0)), .inr (.inl (17, r0))]) rfl rfl rfl
theorem b_X5_fells_54 (r0 : Nat) (x1 : Int) (x2 : Int) (x3 : Int) (x4 : Int) (s1 : Int) (q0 : Nat) (σ : St) (h0 : 0 ≤ (s1 + 3)) (h1 : (s1 + 3) < 58) (g0a : -2147483648 ≤ (s1 + 3)) (g0b : (s1 + 3) < 2147483648) (g1a : -2147483648 ≤ (x2 + 1)) (g1b : (x2 + 1) < 2147483648) : Rx k_X5_fells 54 [.inr (.inl (17, r0)), .inl x1, .inl x2, .inl x3, .inl x4] [.inl s1, .inr (.inl (17, q0))] σ = (Rx k_X5_ofT 0 [.inl x3] [] (up σ 17 q0 (((s1 + 3)).toNat) 0)).bind fun q => Rx k_X5_fells 67 [.inr (.inl (17, r0)), .inl x1, .inl (x2 + 1), .inl x3, .inl x4] (q.1.toList ++ [.inr (.inl (17, r0)), .inr (.inl (17, r0))]) q.2 := by
  have e0 := wr_id (x := (s1 + 3)) g0a g0b
  have e1 := wr_id (x := (x2 + 1)) g1a g1b
  have raw := r_X5_fells_54 r0 x1 x2 x3 x4 s1 q0 σ (by simp only [e0, e1]; exact h0) (by simp only [e0, e1]; exact h1)
  simp only [e0, e1] at raw
  exact raw
theorem r_X5_fells_67 (r0 : Nat) (x1 : Int) (x2 : Int) (x3 : Int) (x4 : Int) (s2 : Int) (q1 : Nat) (q0 : Nat) (σ : St) (h0 : 0 ≤ (wr (s2 + 1))) (h1 : (wr (s2 + 1)) < 58) : Rx k_X5_fells 67 [.inr (.inl (17, r0)), .inl x1, .inl x2, .inl x3, .inl x4] [.inl s2, .inr (.inl (17, q1)), .inr (.inl (17, q0))] σ = (Rx k_X5_whoAt 0 [.inr (.inl (17, q0)), .inl (wr ((σ 17 q1 (wr (s2 + 1)).toNat) + 1)), uns] [] σ).bind fun q => Rx k_X5_fells 75 [.inr (.inl (17, r0)), .inl x1, .inl x2, .inl x3, .inl x4] (q.1.toList ++ []) q.2 := by
  refine (Rx_N (k := 2) (pc' := 69) (ls' := [.inr (.inl (17, r0)), .inl x1, .inl x2, .inl x3, .inl x4]) (st' := [.inl (wr (s2 + 1)), .inr (.inl (17, q1)), .inr (.inl (17, q0))]) (σ' := σ) rfl).trans ?_
  refine (Rx_ild 58 rfl rfl rfl h0 h1).trans ?_
  refine (Rx_N (k := 2) (pc' := 72) (ls' := [.inr (.inl (17, r0)), .inl x1, .inl x2, .inl x3, .inl x4]) (st' := [.inl (wr ((σ 17 q1 (wr (s2 + 1)).toNat) + 1)), .inr (.inl (17, q0))]) (σ' := σ) rfl).trans ?_
  exact Rx_call (n := 3) (y' := k_X5_whoAt) (as := [.inr (.inl (17, q0)), .inl (wr ((σ 17 q1 (wr (s2 + 1)).toNat) + 1))]) (rest := []) rfl rfl rfl
theorem b_X5_fells_67 (r0 : Nat) (x1 : Int) (x2 : Int) (x3 : Int) (x4 : Int) (s2 : Int) (q1 : Nat) (q0 : Nat) (σ : St) (h0 : 0 ≤ (s2 + 1)) (h1 : (s2 + 1) < 58) (g0a : -2147483648 ≤ (s2 + 1)) (g0b : (s2 + 1) < 2147483648) (g1a : -2147483648 ≤ ((σ 17 q1 (s2 + 1).toNat) + 1)) (g1b : ((σ 17 q1 (s2 + 1).toNat) + 1) < 2147483648) : Rx k_X5_fells 67 [.inr (.inl (17, r0)), .inl x1, .inl x2, .inl x3, .inl x4] [.inl s2, .inr (.inl (17, q1)), .inr (.inl (17, q0))] σ = (Rx k_X5_whoAt 0 [.inr (.inl (17, q0)), .inl ((σ 17 q1 (s2 + 1).toNat) + 1), uns] [] σ).bind fun q => Rx k_X5_fells 75 [.inr (.inl (17, r0)), .inl x1, .inl x2, .inl x3, .inl x4] (q.1.toList ++ []) q.2 := by
  have e0 := wr_id (x := (s2 + 1)) g0a g0b
  have e1 := wr_id (x := ((σ 17 q1 (s2 + 1).toNat) + 1)) g1a g1b
  have raw := r_X5_fells_67 r0 x1 x2 x3 x4 s2 q1 q0 σ (by simp only [e0, e1]; exact h0) (by simp only [e0, e1]; exact h1)
  simp only [e0, e1] at raw
  exact raw
theorem b_X5_fells_75 (r0 : Nat) (x1 : Int) (x2 : Int) (x3 : Int) (x4 : Int) (s0 : Int) (σ : St) : Rx k_X5_fells 75 [.inr (.inl (17, r0)), .inl x1, .inl x2, .inl x3, .inl x4] [.inl s0] σ = Rx k_X5_fells 14 [.inr (.inl (17, r0)), .inl x1, .inl x2, .inl s0, .inl x4] [] σ := by
  refine (Rx_N (k := 2) (pc' := 14) (ls' := [.inr (.inl (17, r0)), .inl x1, .inl x2, .inl s0, .inl x4]) (st' := []) (σ' := σ) rfl).trans ?_
  rfl
theorem b_X5_fells_79 (r0 : Nat) (x1 : Int) (x2 : Int) (x3 : Int) (x4 : Int) (σ : St) : Rx k_X5_fells 79 [.inr (.inl (17, r0)), .inl x1, .inl x2, .inl x3, .inl x4] [] σ = some (some (.inl x2), σ) := by
  refine (Rx_N (k := 1) (pc' := 80) (ls' := [.inr (.inl (17, r0)), .inl x1, .inl x2, .inl x3, .inl x4]) (st' := [.inl x2]) (σ' := σ) rfl).trans ?_
  exact Rx_ret rfl rfl
theorem b_X5_heaviestOn_0 (r0 : Nat) (x1 : Int) (u2 : AV) (u3 : AV) (u4 : AV) (σ : St) : Rx k_X5_heaviestOn 0 [.inr (.inl (17, r0)), .inl x1, u2, u3, u4] [] σ = Rx k_X5_heaviestOn 5 [.inr (.inl (17, r0)), .inl x1, .inl (-9), .inl 0, u4] [] σ := by
  refine (Rx_N (k := 4) (pc' := 5) (ls' := [.inr (.inl (17, r0)), .inl x1, .inl (-9), .inl 0, u4]) (st' := []) (σ' := σ) rfl).trans ?_
  rfl
theorem b_X5_heaviestOn_5 (r0 : Nat) (x1 : Int) (x2 : Int) (x3 : Int) (u4 : AV) (σ : St) : Rx k_X5_heaviestOn 5 [.inr (.inl (17, r0)), .inl x1, .inl x2, .inl x3, u4] [] σ = if x3 < (σ 17 r0 1) then Rx k_X5_heaviestOn 12 [.inr (.inl (17, r0)), .inl x1, .inl x2, .inl x3, u4] [] σ else Rx k_X5_heaviestOn 99 [.inr (.inl (17, r0)), .inl x1, .inl x2, .inl x3, u4] [] σ := by
  exact Rx_ge0 (k := 5) rfl
theorem b_X5_heaviestOn_12 (r0 : Nat) (x1 : Int) (x2 : Int) (x3 : Int) (u4 : AV) (σ : St) : Rx k_X5_heaviestOn 12 [.inr (.inl (17, r0)), .inl x1, .inl x2, .inl x3, u4] [] σ = (Rx k_X5_isUp 0 [.inr (.inl (17, r0)), .inl x3] [] σ).bind fun q => Rx k_X5_heaviestOn 17 [.inr (.inl (17, r0)), .inl x1, .inl x2, .inl x3, u4] (q.1.toList ++ []) q.2 := by
  refine (Rx_N (k := 2) (pc' := 14) (ls' := [.inr (.inl (17, r0)), .inl x1, .inl x2, .inl x3, u4]) (st' := [.inl x3, .inr (.inl (17, r0))]) (σ' := σ) rfl).trans ?_
  exact Rx_call (n := 3) (y' := k_X5_isUp) (as := [.inr (.inl (17, r0)), .inl x3]) (rest := []) rfl rfl rfl
theorem b_X5_heaviestOn_17 (r0 : Nat) (x1 : Int) (x2 : Int) (x3 : Int) (u4 : AV) (s0 : Int) (σ : St) : Rx k_X5_heaviestOn 17 [.inr (.inl (17, r0)), .inl x1, .inl x2, .inl x3, u4] [.inl s0] σ = if s0 = 0 then Rx k_X5_heaviestOn 93 [.inr (.inl (17, r0)), .inl x1, .inl x2, .inl x3, u4] [] σ else Rx k_X5_heaviestOn 20 [.inr (.inl (17, r0)), .inl x1, .inl x2, .inl x3, u4] [] σ := by
  exact Rx_eq0 (k := 1) rfl
theorem b_X5_heaviestOn_20 (r0 : Nat) (x1 : Int) (x2 : Int) (x3 : Int) (u4 : AV) (σ : St) : Rx k_X5_heaviestOn 20 [.inr (.inl (17, r0)), .inl x1, .inl x2, .inl x3, u4] [] σ = (Rx k_X5_ofT 0 [.inl x3] [] σ).bind fun q => Rx k_X5_heaviestOn 25 [.inr (.inl (17, r0)), .inl x1, .inl x2, .inl x3, u4] (q.1.toList ++ [.inr (.inl (17, r0))]) q.2 := by
  refine (Rx_N (k := 2) (pc' := 22) (ls' := [.inr (.inl (17, r0)), .inl x1, .inl x2, .inl x3, u4]) (st' := [.inl x3, .inr (.inl (17, r0))]) (σ' := σ) rfl).trans ?_
  exact Rx_call (n := 3) (y' := k_X5_ofT) (as := [.inl x3]) (rest := [.inr (.inl (17, r0))]) rfl rfl rfl
theorem r_X5_heaviestOn_25 (r0 : Nat) (x1 : Int) (x2 : Int) (x3 : Int) (u4 : AV) (s1 : Int) (q0 : Nat) (σ : St) (h0 : 0 ≤ (wr (s1 + 2))) (h1 : (wr (s1 + 2)) < 58) : Rx k_X5_heaviestOn 25 [.inr (.inl (17, r0)), .inl x1, .inl x2, .inl x3, u4] [.inl s1, .inr (.inl (17, q0))] σ = if (σ 17 q0 (wr (s1 + 2)).toNat) = x1 then Rx k_X5_heaviestOn 35 [.inr (.inl (17, r0)), .inl x1, .inl x2, .inl x3, u4] [] σ else Rx k_X5_heaviestOn 32 [.inr (.inl (17, r0)), .inl x1, .inl x2, .inl x3, u4] [] σ := by
  refine (Rx_N (k := 2) (pc' := 27) (ls' := [.inr (.inl (17, r0)), .inl x1, .inl x2, .inl x3, u4]) (st' := [.inl (wr (s1 + 2)), .inr (.inl (17, q0))]) (σ' := σ) rfl).trans ?_
  refine (Rx_ild 58 rfl rfl rfl h0 h1).trans ?_
  exact Rx_eq0 (k := 2) rfl
theorem b_X5_heaviestOn_25 (r0 : Nat) (x1 : Int) (x2 : Int) (x3 : Int) (u4 : AV) (s1 : Int) (q0 : Nat) (σ : St) (h0 : 0 ≤ (s1 + 2)) (h1 : (s1 + 2) < 58) (g0a : -2147483648 ≤ (s1 + 2)) (g0b : (s1 + 2) < 2147483648) : Rx k_X5_heaviestOn 25 [.inr (.inl (17, r0)), .inl x1, .inl x2, .inl x3, u4] [.inl s1, .inr (.inl (17, q0))] σ = if (σ 17 q0 (s1 + 2).toNat) = x1 then Rx k_X5_heaviestOn 35 [.inr (.inl (17, r0)), .inl x1, .inl x2, .inl x3, u4] [] σ else Rx k_X5_heaviestOn 32 [.inr (.inl (17, r0)), .inl x1, .inl x2, .inl x3, u4] [] σ := by
  have e0 := wr_id (x := (s1 + 2)) g0a g0b
  have raw := r_X5_heaviestOn_25 r0 x1 x2 x3 u4 s1 q0 σ (by simp only [e0]; exact h0) (by simp only [e0]; exact h1)
  simp only [e0] at raw
  exact raw
theorem r_X5_heaviestOn_32 (r0 : Nat) (x1 : Int) (x2 : Int) (x3 : Int) (u4 : AV) (σ : St) : Rx k_X5_heaviestOn 32 [.inr (.inl (17, r0)), .inl x1, .inl x2, .inl x3, u4] [] σ = Rx k_X5_heaviestOn 5 [.inr (.inl (17, r0)), .inl x1, .inl x2, .inl (wr (x3 + 1)), u4] [] σ := by
  refine (Rx_N (k := 3) (pc' := 5) (ls' := [.inr (.inl (17, r0)), .inl x1, .inl x2, .inl (wr (x3 + 1)), u4]) (st' := []) (σ' := σ) rfl).trans ?_
  rfl
theorem b_X5_heaviestOn_32 (r0 : Nat) (x1 : Int) (x2 : Int) (x3 : Int) (u4 : AV) (σ : St) (g0a : -2147483648 ≤ (x3 + 1)) (g0b : (x3 + 1) < 2147483648) : Rx k_X5_heaviestOn 32 [.inr (.inl (17, r0)), .inl x1, .inl x2, .inl x3, u4] [] σ = Rx k_X5_heaviestOn 5 [.inr (.inl (17, r0)), .inl x1, .inl x2, .inl (x3 + 1), u4] [] σ := by
  have e0 := wr_id (x := (x3 + 1)) g0a g0b
  have raw := r_X5_heaviestOn_32 r0 x1 x2 x3 u4 σ 
  simp only [e0] at raw
  exact raw
theorem b_X5_heaviestOn_35 (r0 : Nat) (x1 : Int) (x2 : Int) (x3 : Int) (u4 : AV) (σ : St) : Rx k_X5_heaviestOn 35 [.inr (.inl (17, r0)), .inl x1, .inl x2, .inl x3, u4] [] σ = if x2 < 0 then Rx k_X5_heaviestOn 39 [.inr (.inl (17, r0)), .inl x1, .inl x2, .inl x3, u4] [] σ else Rx k_X5_heaviestOn 43 [.inr (.inl (17, r0)), .inl x1, .inl x2, .inl x3, u4] [] σ := by
  exact Rx_ge0 (k := 2) rfl
theorem b_X5_heaviestOn_39 (r0 : Nat) (x1 : Int) (x2 : Int) (x3 : Int) (u4 : AV) (σ : St) : Rx k_X5_heaviestOn 39 [.inr (.inl (17, r0)), .inl x1, .inl x2, .inl x3, u4] [] σ = if (0 : Int) < (1 : Int) then Rx k_X5_heaviestOn 91 [.inr (.inl (17, r0)), .inl x1, .inl x2, .inl x3, .inl 1] [] σ else Rx k_X5_heaviestOn 67 [.inr (.inl (17, r0)), .inl x1, .inl x2, .inl x3, .inl 1] [] σ := by
  exact Rx_gt0 (k := 5) rfl
theorem b_X5_heaviestOn_43 (r0 : Nat) (x1 : Int) (x2 : Int) (x3 : Int) (u4 : AV) (σ : St) : Rx k_X5_heaviestOn 43 [.inr (.inl (17, r0)), .inl x1, .inl x2, .inl x3, u4] [] σ = (Rx k_X5_ofT 0 [.inl x3] [] σ).bind fun q => Rx k_X5_heaviestOn 48 [.inr (.inl (17, r0)), .inl x1, .inl x2, .inl x3, u4] (q.1.toList ++ [.inr (.inl (17, r0))]) q.2 := by
  refine (Rx_N (k := 2) (pc' := 45) (ls' := [.inr (.inl (17, r0)), .inl x1, .inl x2, .inl x3, u4]) (st' := [.inl x3, .inr (.inl (17, r0))]) (σ' := σ) rfl).trans ?_
  exact Rx_call (n := 3) (y' := k_X5_ofT) (as := [.inl x3]) (rest := [.inr (.inl (17, r0))]) rfl rfl rfl
theorem r_X5_heaviestOn_48 (r0 : Nat) (x1 : Int) (x2 : Int) (x3 : Int) (u4 : AV) (s1 : Int) (q0 : Nat) (σ : St) (h0 : 0 ≤ (wr (s1 + 0))) (h1 : (wr (s1 + 0)) < 58) : Rx k_X5_heaviestOn 48 [.inr (.inl (17, r0)), .inl x1, .inl x2, .inl x3, u4] [.inl s1, .inr (.inl (17, q0))] σ = (Rx k_X5_ofT 0 [.inl x2] [] σ).bind fun q => Rx k_X5_heaviestOn 56 [.inr (.inl (17, r0)), .inl x1, .inl x2, .inl x3, u4] (q.1.toList ++ [.inr (.inl (17, r0)), .inl (σ 17 q0 (wr (s1 + 0)).toNat)]) q.2 := by
  refine (Rx_N (k := 2) (pc' := 50) (ls' := [.inr (.inl (17, r0)), .inl x1, .inl x2, .inl x3, u4]) (st' := [.inl (wr (s1 + 0)), .inr (.inl (17, q0))]) (σ' := σ) rfl).trans ?_
  refine (Rx_ild 58 rfl rfl rfl h0 h1).trans ?_
  refine (Rx_N (k := 2) (pc' := 53) (ls' := [.inr (.inl (17, r0)), .inl x1, .inl x2, .inl x3, u4]) (st' := [.inl x2, .inr (.inl (17, r0)), .inl (σ 17 q0 (wr (s1 + 0)).toNat)]) (σ' := σ) rfl).trans ?_
  exact Rx_call (n := 3) (y' := k_X5_ofT) (as := [.inl x2]) (rest := [.inr (.inl (17, r0)), .inl (σ 17 q0 (wr (s1 + 0)).toNat)]) rfl rfl rfl
theorem b_X5_heaviestOn_48 (r0 : Nat) (x1 : Int) (x2 : Int) (x3 : Int) (u4 : AV) (s1 : Int) (q0 : Nat) (σ : St) (h0 : 0 ≤ (s1 + 0)) (h1 : (s1 + 0) < 58) (g0a : -2147483648 ≤ (s1 + 0)) (g0b : (s1 + 0) < 2147483648) : Rx k_X5_heaviestOn 48 [.inr (.inl (17, r0)), .inl x1, .inl x2, .inl x3, u4] [.inl s1, .inr (.inl (17, q0))] σ = (Rx k_X5_ofT 0 [.inl x2] [] σ).bind fun q => Rx k_X5_heaviestOn 56 [.inr (.inl (17, r0)), .inl x1, .inl x2, .inl x3, u4] (q.1.toList ++ [.inr (.inl (17, r0)), .inl (σ 17 q0 (s1 + 0).toNat)]) q.2 := by
  have e0 := wr_id (x := (s1 + 0)) g0a g0b
  have raw := r_X5_heaviestOn_48 r0 x1 x2 x3 u4 s1 q0 σ (by simp only [e0]; exact h0) (by simp only [e0]; exact h1)
  simp only [e0] at raw
  exact raw
theorem r_X5_heaviestOn_56 (r0 : Nat) (x1 : Int) (x2 : Int) (x3 : Int) (u4 : AV) (s2 : Int) (q1 : Nat) (s0 : Int) (σ : St) (h0 : 0 ≤ (wr (s2 + 0))) (h1 : (wr (s2 + 0)) < 58) : Rx k_X5_heaviestOn 56 [.inr (.inl (17, r0)), .inl x1, .inl x2, .inl x3, u4] [.inl s2, .inr (.inl (17, q1)), .inl s0] σ = if 0 < (wr (s0 - (σ 17 q1 (wr (s2 + 0)).toNat))) then Rx k_X5_heaviestOn 91 [.inr (.inl (17, r0)), .inl x1, .inl x2, .inl x3, .inl (wr (s0 - (σ 17 q1 (wr (s2 + 0)).toNat)))] [] σ else Rx k_X5_heaviestOn 67 [.inr (.inl (17, r0)), .inl x1, .inl x2, .inl x3, .inl (wr (s0 - (σ 17 q1 (wr (s2 + 0)).toNat)))] [] σ := by
  refine (Rx_N (k := 2) (pc' := 58) (ls' := [.inr (.inl (17, r0)), .inl x1, .inl x2, .inl x3, u4]) (st' := [.inl (wr (s2 + 0)), .inr (.inl (17, q1)), .inl s0]) (σ' := σ) rfl).trans ?_
  refine (Rx_ild 58 rfl rfl rfl h0 h1).trans ?_
  exact Rx_gt0 (k := 4) rfl
theorem b_X5_heaviestOn_56 (r0 : Nat) (x1 : Int) (x2 : Int) (x3 : Int) (u4 : AV) (s2 : Int) (q1 : Nat) (s0 : Int) (σ : St) (h0 : 0 ≤ (s2 + 0)) (h1 : (s2 + 0) < 58) (g0a : -2147483648 ≤ (s2 + 0)) (g0b : (s2 + 0) < 2147483648) (g1a : -2147483648 ≤ (s0 - (σ 17 q1 (s2 + 0).toNat))) (g1b : (s0 - (σ 17 q1 (s2 + 0).toNat)) < 2147483648) : Rx k_X5_heaviestOn 56 [.inr (.inl (17, r0)), .inl x1, .inl x2, .inl x3, u4] [.inl s2, .inr (.inl (17, q1)), .inl s0] σ = if 0 < (s0 - (σ 17 q1 (s2 + 0).toNat)) then Rx k_X5_heaviestOn 91 [.inr (.inl (17, r0)), .inl x1, .inl x2, .inl x3, .inl (s0 - (σ 17 q1 (s2 + 0).toNat))] [] σ else Rx k_X5_heaviestOn 67 [.inr (.inl (17, r0)), .inl x1, .inl x2, .inl x3, .inl (s0 - (σ 17 q1 (s2 + 0).toNat))] [] σ := by
  have e0 := wr_id (x := (s2 + 0)) g0a g0b
  have e1 := wr_id (x := (s0 - (σ 17 q1 (s2 + 0).toNat))) g1a g1b
  have raw := r_X5_heaviestOn_56 r0 x1 x2 x3 u4 s2 q1 s0 σ (by simp only [e0, e1]; exact h0) (by simp only [e0, e1]; exact h1)
  simp only [e0, e1] at raw
  exact raw
theorem b_X5_heaviestOn_67 (r0 : Nat) (x1 : Int) (x2 : Int) (x3 : Int) (x4 : Int) (σ : St) : Rx k_X5_heaviestOn 67 [.inr (.inl (17, r0)), .inl x1, .inl x2, .inl x3, .inl x4] [] σ = if x4 = 0 then Rx k_X5_heaviestOn 72 [.inr (.inl (17, r0)), .inl x1, .inl x2, .inl x3, .inl x4] [] σ else Rx k_X5_heaviestOn 93 [.inr (.inl (17, r0)), .inl x1, .inl x2, .inl x3, .inl x4] [] σ := by
  exact Rx_ne0 (k := 2) rfl
theorem b_X5_heaviestOn_72 (r0 : Nat) (x1 : Int) (x2 : Int) (x3 : Int) (x4 : Int) (σ : St) : Rx k_X5_heaviestOn 72 [.inr (.inl (17, r0)), .inl x1, .inl x2, .inl x3, .inl x4] [] σ = (Rx k_X5_ofT 0 [.inl x3] [] σ).bind fun q => Rx k_X5_heaviestOn 77 [.inr (.inl (17, r0)), .inl x1, .inl x2, .inl x3, .inl x4] (q.1.toList ++ [.inr (.inl (17, r0))]) q.2 := by
  refine (Rx_N (k := 2) (pc' := 74) (ls' := [.inr (.inl (17, r0)), .inl x1, .inl x2, .inl x3, .inl x4]) (st' := [.inl x3, .inr (.inl (17, r0))]) (σ' := σ) rfl).trans ?_
  exact Rx_call (n := 3) (y' := k_X5_ofT) (as := [.inl x3]) (rest := [.inr (.inl (17, r0))]) rfl rfl rfl
theorem r_X5_heaviestOn_77 (r0 : Nat) (x1 : Int) (x2 : Int) (x3 : Int) (x4 : Int) (s1 : Int) (q0 : Nat) (σ : St) (h0 : 0 ≤ (wr (s1 + 1))) (h1 : (wr (s1 + 1)) < 58) : Rx k_X5_heaviestOn 77 [.inr (.inl (17, r0)), .inl x1, .inl x2, .inl x3, .inl x4] [.inl s1, .inr (.inl (17, q0))] σ = (Rx k_X5_ofT 0 [.inl x2] [] σ).bind fun q => Rx k_X5_heaviestOn 85 [.inr (.inl (17, r0)), .inl x1, .inl x2, .inl x3, .inl x4] (q.1.toList ++ [.inr (.inl (17, r0)), .inl (σ 17 q0 (wr (s1 + 1)).toNat)]) q.2 := by
  refine (Rx_N (k := 2) (pc' := 79) (ls' := [.inr (.inl (17, r0)), .inl x1, .inl x2, .inl x3, .inl x4]) (st' := [.inl (wr (s1 + 1)), .inr (.inl (17, q0))]) (σ' := σ) rfl).trans ?_
  refine (Rx_ild 58 rfl rfl rfl h0 h1).trans ?_
  refine (Rx_N (k := 2) (pc' := 82) (ls' := [.inr (.inl (17, r0)), .inl x1, .inl x2, .inl x3, .inl x4]) (st' := [.inl x2, .inr (.inl (17, r0)), .inl (σ 17 q0 (wr (s1 + 1)).toNat)]) (σ' := σ) rfl).trans ?_
  exact Rx_call (n := 3) (y' := k_X5_ofT) (as := [.inl x2]) (rest := [.inr (.inl (17, r0)), .inl (σ 17 q0 (wr (s1 + 1)).toNat)]) rfl rfl rfl
theorem b_X5_heaviestOn_77 (r0 : Nat) (x1 : Int) (x2 : Int) (x3 : Int) (x4 : Int) (s1 : Int) (q0 : Nat) (σ : St) (h0 : 0 ≤ (s1 + 1)) (h1 : (s1 + 1) < 58) (g0a : -2147483648 ≤ (s1 + 1)) (g0b : (s1 + 1) < 2147483648) : Rx k_X5_heaviestOn 77 [.inr (.inl (17, r0)), .inl x1, .inl x2, .inl x3, .inl x4] [.inl s1, .inr (.inl (17, q0))] σ = (Rx k_X5_ofT 0 [.inl x2] [] σ).bind fun q => Rx k_X5_heaviestOn 85 [.inr (.inl (17, r0)), .inl x1, .inl x2, .inl x3, .inl x4] (q.1.toList ++ [.inr (.inl (17, r0)), .inl (σ 17 q0 (s1 + 1).toNat)]) q.2 := by
  have e0 := wr_id (x := (s1 + 1)) g0a g0b
  have raw := r_X5_heaviestOn_77 r0 x1 x2 x3 x4 s1 q0 σ (by simp only [e0]; exact h0) (by simp only [e0]; exact h1)
  simp only [e0] at raw
  exact raw
theorem r_X5_heaviestOn_85 (r0 : Nat) (x1 : Int) (x2 : Int) (x3 : Int) (x4 : Int) (s2 : Int) (q1 : Nat) (s0 : Int) (σ : St) (h0 : 0 ≤ (wr (s2 + 1))) (h1 : (wr (s2 + 1)) < 58) : Rx k_X5_heaviestOn 85 [.inr (.inl (17, r0)), .inl x1, .inl x2, .inl x3, .inl x4] [.inl s2, .inr (.inl (17, q1)), .inl s0] σ = if s0 < (σ 17 q1 (wr (s2 + 1)).toNat) then Rx k_X5_heaviestOn 91 [.inr (.inl (17, r0)), .inl x1, .inl x2, .inl x3, .inl x4] [] σ else Rx k_X5_heaviestOn 93 [.inr (.inl (17, r0)), .inl x1, .inl x2, .inl x3, .inl x4] [] σ := by
  refine (Rx_N (k := 2) (pc' := 87) (ls' := [.inr (.inl (17, r0)), .inl x1, .inl x2, .inl x3, .inl x4]) (st' := [.inl (wr (s2 + 1)), .inr (.inl (17, q1)), .inl s0]) (σ' := σ) rfl).trans ?_
  refine (Rx_ild 58 rfl rfl rfl h0 h1).trans ?_
  exact Rx_ge0 (k := 1) rfl
theorem b_X5_heaviestOn_85 (r0 : Nat) (x1 : Int) (x2 : Int) (x3 : Int) (x4 : Int) (s2 : Int) (q1 : Nat) (s0 : Int) (σ : St) (h0 : 0 ≤ (s2 + 1)) (h1 : (s2 + 1) < 58) (g0a : -2147483648 ≤ (s2 + 1)) (g0b : (s2 + 1) < 2147483648) : Rx k_X5_heaviestOn 85 [.inr (.inl (17, r0)), .inl x1, .inl x2, .inl x3, .inl x4] [.inl s2, .inr (.inl (17, q1)), .inl s0] σ = if s0 < (σ 17 q1 (s2 + 1).toNat) then Rx k_X5_heaviestOn 91 [.inr (.inl (17, r0)), .inl x1, .inl x2, .inl x3, .inl x4] [] σ else Rx k_X5_heaviestOn 93 [.inr (.inl (17, r0)), .inl x1, .inl x2, .inl x3, .inl x4] [] σ := by
  have e0 := wr_id (x := (s2 + 1)) g0a g0b
  have raw := r_X5_heaviestOn_85 r0 x1 x2 x3 x4 s2 q1 s0 σ (by simp only [e0]; exact h0) (by simp only [e0]; exact h1)
  simp only [e0] at raw
  exact raw
theorem r_X5_heaviestOn_91 (r0 : Nat) (x1 : Int) (x2 : Int) (x3 : Int) (x4 : Int) (σ : St) : Rx k_X5_heaviestOn 91 [.inr (.inl (17, r0)), .inl x1, .inl x2, .inl x3, .inl x4] [] σ = Rx k_X5_heaviestOn 5 [.inr (.inl (17, r0)), .inl x1, .inl x3, .inl (wr (x3 + 1)), .inl x4] [] σ := by
  refine (Rx_N (k := 4) (pc' := 5) (ls' := [.inr (.inl (17, r0)), .inl x1, .inl x3, .inl (wr (x3 + 1)), .inl x4]) (st' := []) (σ' := σ) rfl).trans ?_
  rfl
theorem b_X5_heaviestOn_91 (r0 : Nat) (x1 : Int) (x2 : Int) (x3 : Int) (x4 : Int) (σ : St) (g0a : -2147483648 ≤ (x3 + 1)) (g0b : (x3 + 1) < 2147483648) : Rx k_X5_heaviestOn 91 [.inr (.inl (17, r0)), .inl x1, .inl x2, .inl x3, .inl x4] [] σ = Rx k_X5_heaviestOn 5 [.inr (.inl (17, r0)), .inl x1, .inl x3, .inl (x3 + 1), .inl x4] [] σ := by
  have e0 := wr_id (x := (x3 + 1)) g0a g0b
  have raw := r_X5_heaviestOn_91 r0 x1 x2 x3 x4 σ 
  simp only [e0] at raw
  exact raw
theorem r_X5_heaviestOn_93 (r0 : Nat) (x1 : Int) (x2 : Int) (x3 : Int) (u4 : AV) (σ : St) : Rx k_X5_heaviestOn 93 [.inr (.inl (17, r0)), .inl x1, .inl x2, .inl x3, u4] [] σ = Rx k_X5_heaviestOn 5 [.inr (.inl (17, r0)), .inl x1, .inl x2, .inl (wr (x3 + 1)), u4] [] σ := by
  refine (Rx_N (k := 2) (pc' := 5) (ls' := [.inr (.inl (17, r0)), .inl x1, .inl x2, .inl (wr (x3 + 1)), u4]) (st' := []) (σ' := σ) rfl).trans ?_
  rfl
theorem b_X5_heaviestOn_93 (r0 : Nat) (x1 : Int) (x2 : Int) (x3 : Int) (u4 : AV) (σ : St) (g0a : -2147483648 ≤ (x3 + 1)) (g0b : (x3 + 1) < 2147483648) : Rx k_X5_heaviestOn 93 [.inr (.inl (17, r0)), .inl x1, .inl x2, .inl x3, u4] [] σ = Rx k_X5_heaviestOn 5 [.inr (.inl (17, r0)), .inl x1, .inl x2, .inl (x3 + 1), u4] [] σ := by
  have e0 := wr_id (x := (x3 + 1)) g0a g0b
  have raw := r_X5_heaviestOn_93 r0 x1 x2 x3 u4 σ 
  simp only [e0] at raw
  exact raw
theorem b_X5_heaviestOn_99 (r0 : Nat) (x1 : Int) (x2 : Int) (x3 : Int) (u4 : AV) (σ : St) : Rx k_X5_heaviestOn 99 [.inr (.inl (17, r0)), .inl x1, .inl x2, .inl x3, u4] [] σ = some (some (.inl x2), σ) := by
  refine (Rx_N (k := 1) (pc' := 100) (ls' := [.inr (.inl (17, r0)), .inl x1, .inl x2, .inl x3, u4]) (st' := [.inl x2]) (σ' := σ) rfl).trans ?_
  exact Rx_ret rfl rfl
theorem r_X5_day_0 (r1 : Nat) (u2 : AV) (u3 : AV) (u4 : AV) (σ : St) : Rx k_X5_day 0 [.inr (.inl (16, 0)), .inr (.inl (17, r1)), u2, u3, u4] [] σ = Rx k_X5_day 9 [.inr (.inl (16, 0)), .inr (.inl (17, r1)), .inl 0, u3, u4] [] (up σ 17 r1 2 (wr ((σ 17 r1 2) + 1))) := by
  refine (Rx_N (k := 9) (pc' := 9) (ls' := [.inr (.inl (16, 0)), .inr (.inl (17, r1)), .inl 0, u3, u4]) (st' := []) (σ' := (up σ 17 r1 2 (wr ((σ 17 r1 2) + 1)))) rfl).trans ?_
  rfl
theorem b_X5_day_0 (r1 : Nat) (u2 : AV) (u3 : AV) (u4 : AV) (σ : St) (g0a : -2147483648 ≤ ((σ 17 r1 2) + 1)) (g0b : ((σ 17 r1 2) + 1) < 2147483648) : Rx k_X5_day 0 [.inr (.inl (16, 0)), .inr (.inl (17, r1)), u2, u3, u4] [] σ = Rx k_X5_day 9 [.inr (.inl (16, 0)), .inr (.inl (17, r1)), .inl 0, u3, u4] [] (up σ 17 r1 2 ((σ 17 r1 2) + 1)) := by
  have e0 := wr_id (x := ((σ 17 r1 2) + 1)) g0a g0b
  have raw := r_X5_day_0 r1 u2 u3 u4 σ 
  simp only [e0] at raw
  exact raw
theorem b_X5_day_9 (r1 : Nat) (x2 : Int) (u3 : AV) (u4 : AV) (σ : St) : Rx k_X5_day 9 [.inr (.inl (16, 0)), .inr (.inl (17, r1)), .inl x2, u3, u4] [] σ = if x2 < (σ 17 r1 0) then Rx k_X5_day 16 [.inr (.inl (16, 0)), .inr (.inl (17, r1)), .inl x2, u3, u4] [] σ else Rx k_X5_day 36 [.inr (.inl (16, 0)), .inr (.inl (17, r1)), .inl x2, u3, u4] [] σ := by
  exact Rx_ge0 (k := 5) rfl
theorem b_X5_day_16 (r1 : Nat) (x2 : Int) (u3 : AV) (u4 : AV) (σ : St) : Rx k_X5_day 16 [.inr (.inl (16, 0)), .inr (.inl (17, r1)), .inl x2, u3, u4] [] σ = (Rx k_X5_lessBy 0 [.inr (.inl (17, r1)), .inl x2, .inl (σ 17 r1 2), uns, uns, uns] [] σ).bind fun q => Rx k_X5_day 29 [.inr (.inl (16, 0)), .inr (.inl (17, r1)), .inl x2, u3, u4] (q.1.toList ++ [.inl x2, .inr (.inl (18, 0))]) q.2 := by
  refine (Rx_N (k := 8) (pc' := 26) (ls' := [.inr (.inl (16, 0)), .inr (.inl (17, r1)), .inl x2, u3, u4]) (st' := [.inl (σ 17 r1 2), .inl x2, .inr (.inl (17, r1)), .inl x2, .inr (.inl (18, 0))]) (σ' := σ) rfl).trans ?_
  exact Rx_call (n := 3) (y' := k_X5_lessBy) (as := [.inr (.inl (17, r1)), .inl x2, .inl (σ 17 r1 2)]) (rest := [.inl x2, .inr (.inl (18, 0))]) rfl rfl rfl
theorem r_X5_day_29 (r1 : Nat) (x2 : Int) (u3 : AV) (u4 : AV) (s2 : Int) (s1 : Int) (σ : St) (h0 : 0 ≤ s1) (h1 : s1 < 5) : Rx k_X5_day 29 [.inr (.inl (16, 0)), .inr (.inl (17, r1)), .inl x2, u3, u4] [.inl s2, .inl s1, .inr (.inl (18, 0))] σ = Rx k_X5_day 9 [.inr (.inl (16, 0)), .inr (.inl (17, r1)), .inl (wr (x2 + 1)), u3, u4] [] (up σ 18 0 s1.toNat s2) := by
  refine (Rx_ist 5 rfl rfl h0 h1).trans ?_
  refine (Rx_N (k := 2) (pc' := 9) (ls' := [.inr (.inl (16, 0)), .inr (.inl (17, r1)), .inl (wr (x2 + 1)), u3, u4]) (st' := []) (σ' := (up σ 18 0 s1.toNat s2)) rfl).trans ?_
  rfl
theorem b_X5_day_29 (r1 : Nat) (x2 : Int) (u3 : AV) (u4 : AV) (s2 : Int) (s1 : Int) (σ : St) (h0 : 0 ≤ s1) (h1 : s1 < 5) (g0a : -2147483648 ≤ (x2 + 1)) (g0b : (x2 + 1) < 2147483648) : Rx k_X5_day 29 [.inr (.inl (16, 0)), .inr (.inl (17, r1)), .inl x2, u3, u4] [.inl s2, .inl s1, .inr (.inl (18, 0))] σ = Rx k_X5_day 9 [.inr (.inl (16, 0)), .inr (.inl (17, r1)), .inl (x2 + 1), u3, u4] [] (up σ 18 0 s1.toNat s2) := by
  have e0 := wr_id (x := (x2 + 1)) g0a g0b
  have raw := r_X5_day_29 r1 x2 u3 u4 s2 s1 σ h0 h1
  simp only [e0] at raw
  exact raw
theorem b_X5_day_36 (r1 : Nat) (x2 : Int) (u3 : AV) (u4 : AV) (σ : St) : Rx k_X5_day 36 [.inr (.inl (16, 0)), .inr (.inl (17, r1)), .inl x2, u3, u4] [] σ = Rx k_X5_day 38 [.inr (.inl (16, 0)), .inr (.inl (17, r1)), .inl 0, u3, u4] [] σ := by
  refine (Rx_N (k := 2) (pc' := 38) (ls' := [.inr (.inl (16, 0)), .inr (.inl (17, r1)), .inl 0, u3, u4]) (st' := []) (σ' := σ) rfl).trans ?_
  rfl
theorem b_X5_day_38 (r1 : Nat) (x2 : Int) (u3 : AV) (u4 : AV) (σ : St) : Rx k_X5_day 38 [.inr (.inl (16, 0)), .inr (.inl (17, r1)), .inl x2, u3, u4] [] σ = if x2 < (σ 17 r1 0) then Rx k_X5_day 45 [.inr (.inl (16, 0)), .inr (.inl (17, r1)), .inl x2, u3, u4] [] σ else Rx k_X5_day 78 [.inr (.inl (16, 0)), .inr (.inl (17, r1)), .inl x2, u3, u4] [] σ := by
  exact Rx_ge0 (k := 5) rfl
theorem b_X5_day_45 (r1 : Nat) (x2 : Int) (u3 : AV) (u4 : AV) (σ : St) : Rx k_X5_day 45 [.inr (.inl (16, 0)), .inr (.inl (17, r1)), .inl x2, u3, u4] [] σ = (Rx k_X5_ofP 0 [.inl x2] [] σ).bind fun q => Rx k_X5_day 50 [.inr (.inl (16, 0)), .inr (.inl (17, r1)), .inl x2, u3, u4] (q.1.toList ++ [.inr (.inl (17, r1))]) q.2 := by
  refine (Rx_N (k := 2) (pc' := 47) (ls' := [.inr (.inl (16, 0)), .inr (.inl (17, r1)), .inl x2, u3, u4]) (st' := [.inl x2, .inr (.inl (17, r1))]) (σ' := σ) rfl).trans ?_
  exact Rx_call (n := 3) (y' := k_X5_ofP) (as := [.inl x2]) (rest := [.inr (.inl (17, r1))]) rfl rfl rfl
theorem r_X5_day_50 (r1 : Nat) (x2 : Int) (u3 : AV) (u4 : AV) (s1 : Int) (q0 : Nat) (σ : St) : Rx k_X5_day 50 [.inr (.inl (16, 0)), .inr (.inl (17, r1)), .inl x2, u3, u4] [.inl s1, .inr (.inl (17, q0))] σ = (Rx k_X5_ofP 0 [.inl x2] [] σ).bind fun q => Rx k_X5_day 58 [.inr (.inl (16, 0)), .inr (.inl (17, r1)), .inl x2, u3, u4] (q.1.toList ++ [.inr (.inl (17, r1)), .inl 0, .inl (wr (s1 + 2)), .inr (.inl (17, q0))]) q.2 := by
  refine (Rx_N (k := 5) (pc' := 55) (ls' := [.inr (.inl (16, 0)), .inr (.inl (17, r1)), .inl x2, u3, u4]) (st' := [.inl x2, .inr (.inl (17, r1)), .inl 0, .inl (wr (s1 + 2)), .inr (.inl (17, q0))]) (σ' := σ) rfl).trans ?_
  exact Rx_call (n := 3) (y' := k_X5_ofP) (as := [.inl x2]) (rest := [.inr (.inl (17, r1)), .inl 0, .inl (wr (s1 + 2)), .inr (.inl (17, q0))]) rfl rfl rfl
theorem b_X5_day_50 (r1 : Nat) (x2 : Int) (u3 : AV) (u4 : AV) (s1 : Int) (q0 : Nat) (σ : St) (g0a : -2147483648 ≤ (s1 + 2)) (g0b : (s1 + 2) < 2147483648) : Rx k_X5_day 50 [.inr (.inl (16, 0)), .inr (.inl (17, r1)), .inl x2, u3, u4] [.inl s1, .inr (.inl (17, q0))] σ = (Rx k_X5_ofP 0 [.inl x2] [] σ).bind fun q => Rx k_X5_day 58 [.inr (.inl (16, 0)), .inr (.inl (17, r1)), .inl x2, u3, u4] (q.1.toList ++ [.inr (.inl (17, r1)), .inl 0, .inl (s1 + 2), .inr (.inl (17, q0))]) q.2 := by
  have e0 := wr_id (x := (s1 + 2)) g0a g0b
  have raw := r_X5_day_50 r1 x2 u3 u4 s1 q0 σ 
  simp only [e0] at raw
  exact raw
theorem r_X5_day_58 (r1 : Nat) (x2 : Int) (u3 : AV) (u4 : AV) (s4 : Int) (q3 : Nat) (s2 : Int) (s1 : Int) (q0 : Nat) (σ : St) (h0 : 0 ≤ (wr (s4 + 2))) (h1 : (wr (s4 + 2)) < 58) (h2 : 0 ≤ x2) (h3 : x2 < 5) : Rx k_X5_day 58 [.inr (.inl (16, 0)), .inr (.inl (17, r1)), .inl x2, u3, u4] [.inl s4, .inr (.inl (17, q3)), .inl s2, .inl s1, .inr (.inl (17, q0))] σ = (Rx k_X5_most 0 [.inl s2, .inl (wr ((σ 17 q3 (wr (s4 + 2)).toNat) - (σ 18 0 x2.toNat)))] [] σ).bind fun q => Rx k_X5_day 71 [.inr (.inl (16, 0)), .inr (.inl (17, r1)), .inl x2, u3, u4] (q.1.toList ++ [.inl s1, .inr (.inl (17, q0))]) q.2 := by
  refine (Rx_N (k := 2) (pc' := 60) (ls' := [.inr (.inl (16, 0)), .inr (.inl (17, r1)), .inl x2, u3, u4]) (st' := [.inl (wr (s4 + 2)), .inr (.inl (17, q3)), .inl s2, .inl s1, .inr (.inl (17, q0))]) (σ' := σ) rfl).trans ?_
  refine (Rx_ild 58 rfl rfl rfl h0 h1).trans ?_
  refine (Rx_N (k := 3) (pc' := 66) (ls' := [.inr (.inl (16, 0)), .inr (.inl (17, r1)), .inl x2, u3, u4]) (st' := [.inl x2, .inr (.inl (18, 0)), .inl (σ 17 q3 (wr (s4 + 2)).toNat), .inl s2, .inl s1, .inr (.inl (17, q0))]) (σ' := σ) rfl).trans ?_
  refine (Rx_ild 5 rfl rfl rfl h2 h3).trans ?_
  refine (Rx_N (k := 1) (pc' := 68) (ls' := [.inr (.inl (16, 0)), .inr (.inl (17, r1)), .inl x2, u3, u4]) (st' := [.inl (wr ((σ 17 q3 (wr (s4 + 2)).toNat) - (σ 18 0 x2.toNat))), .inl s2, .inl s1, .inr (.inl (17, q0))]) (σ' := σ) rfl).trans ?_
  exact Rx_call (n := 3) (y' := k_X5_most) (as := [.inl s2, .inl (wr ((σ 17 q3 (wr (s4 + 2)).toNat) - (σ 18 0 x2.toNat)))]) (rest := [.inl s1, .inr (.inl (17, q0))]) rfl rfl rfl
theorem b_X5_day_58 (r1 : Nat) (x2 : Int) (u3 : AV) (u4 : AV) (s4 : Int) (q3 : Nat) (s2 : Int) (s1 : Int) (q0 : Nat) (σ : St) (h0 : 0 ≤ (s4 + 2)) (h1 : (s4 + 2) < 58) (h2 : 0 ≤ x2) (h3 : x2 < 5) (g0a : -2147483648 ≤ (s4 + 2)) (g0b : (s4 + 2) < 2147483648) (g1a : -2147483648 ≤ ((σ 17 q3 (s4 + 2).toNat) - (σ 18 0 x2.toNat))) (g1b : ((σ 17 q3 (s4 + 2).toNat) - (σ 18 0 x2.toNat)) < 2147483648) : Rx k_X5_day 58 [.inr (.inl (16, 0)), .inr (.inl (17, r1)), .inl x2, u3, u4] [.inl s4, .inr (.inl (17, q3)), .inl s2, .inl s1, .inr (.inl (17, q0))] σ = (Rx k_X5_most 0 [.inl s2, .inl ((σ 17 q3 (s4 + 2).toNat) - (σ 18 0 x2.toNat))] [] σ).bind fun q => Rx k_X5_day 71 [.inr (.inl (16, 0)), .inr (.inl (17, r1)), .inl x2, u3, u4] (q.1.toList ++ [.inl s1, .inr (.inl (17, q0))]) q.2 := by
  have e0 := wr_id (x := (s4 + 2)) g0a g0b
  have e1 := wr_id (x := ((σ 17 q3 (s4 + 2).toNat) - (σ 18 0 x2.toNat))) g1a g1b
  have raw := r_X5_day_58 r1 x2 u3 u4 s4 q3 s2 s1 q0 σ (by simp only [e0, e1]; exact h0) (by simp only [e0, e1]; exact h1) h2 h3
  simp only [e0, e1] at raw
  exact raw
theorem r_X5_day_71 (r1 : Nat) (x2 : Int) (u3 : AV) (u4 : AV) (s2 : Int) (s1 : Int) (q0 : Nat) (σ : St) (h0 : 0 ≤ s1) (h1 : s1 < 58) : Rx k_X5_day 71 [.inr (.inl (16, 0)), .inr (.inl (17, r1)), .inl x2, u3, u4] [.inl s2, .inl s1, .inr (.inl (17, q0))] σ = Rx k_X5_day 38 [.inr (.inl (16, 0)), .inr (.inl (17, r1)), .inl (wr (x2 + 1)), u3, u4] [] (up σ 17 q0 s1.toNat s2) := by
  refine (Rx_ist 58 rfl rfl h0 h1).trans ?_
  refine (Rx_N (k := 2) (pc' := 38) (ls' := [.inr (.inl (16, 0)), .inr (.inl (17, r1)), .inl (wr (x2 + 1)), u3, u4]) (st' := []) (σ' := (up σ 17 q0 s1.toNat s2)) rfl).trans ?_
  rfl
theorem b_X5_day_71 (r1 : Nat) (x2 : Int) (u3 : AV) (u4 : AV) (s2 : Int) (s1 : Int) (q0 : Nat) (σ : St) (h0 : 0 ≤ s1) (h1 : s1 < 58) (g0a : -2147483648 ≤ (x2 + 1)) (g0b : (x2 + 1) < 2147483648) : Rx k_X5_day 71 [.inr (.inl (16, 0)), .inr (.inl (17, r1)), .inl x2, u3, u4] [.inl s2, .inl s1, .inr (.inl (17, q0))] σ = Rx k_X5_day 38 [.inr (.inl (16, 0)), .inr (.inl (17, r1)), .inl (x2 + 1), u3, u4] [] (up σ 17 q0 s1.toNat s2) := by
  have e0 := wr_id (x := (x2 + 1)) g0a g0b
  have raw := r_X5_day_71 r1 x2 u3 u4 s2 s1 q0 σ h0 h1
  simp only [e0] at raw
  exact raw
theorem b_X5_day_78 (r1 : Nat) (x2 : Int) (u3 : AV) (u4 : AV) (σ : St) : Rx k_X5_day 78 [.inr (.inl (16, 0)), .inr (.inl (17, r1)), .inl x2, u3, u4] [] σ = Rx k_X5_day 80 [.inr (.inl (16, 0)), .inr (.inl (17, r1)), .inl 0, u3, u4] [] σ := by
  refine (Rx_N (k := 2) (pc' := 80) (ls' := [.inr (.inl (16, 0)), .inr (.inl (17, r1)), .inl 0, u3, u4]) (st' := []) (σ' := σ) rfl).trans ?_
  rfl
theorem b_X5_day_80 (r1 : Nat) (x2 : Int) (u3 : AV) (u4 : AV) (σ : St) : Rx k_X5_day 80 [.inr (.inl (16, 0)), .inr (.inl (17, r1)), .inl x2, u3, u4] [] σ = if x2 < (σ 17 r1 0) then Rx k_X5_day 87 [.inr (.inl (16, 0)), .inr (.inl (17, r1)), .inl x2, u3, u4] [] σ else Rx k_X5_day 127 [.inr (.inl (16, 0)), .inr (.inl (17, r1)), .inl x2, u3, u4] [] σ := by
  exact Rx_ge0 (k := 5) rfl
theorem b_X5_day_87 (r1 : Nat) (x2 : Int) (u3 : AV) (u4 : AV) (σ : St) : Rx k_X5_day 87 [.inr (.inl (16, 0)), .inr (.inl (17, r1)), .inl x2, u3, u4] [] σ = (Rx k_X5_spareOf 0 [.inr (.inl (17, r1)), .inl x2] [] σ).bind fun q => Rx k_X5_day 92 [.inr (.inl (16, 0)), .inr (.inl (17, r1)), .inl x2, u3, u4] (q.1.toList ++ []) q.2 := by
  refine (Rx_N (k := 2) (pc' := 89) (ls' := [.inr (.inl (16, 0)), .inr (.inl (17, r1)), .inl x2, u3, u4]) (st' := [.inl x2, .inr (.inl (17, r1))]) (σ' := σ) rfl).trans ?_
  exact Rx_call (n := 3) (y' := k_X5_spareOf) (as := [.inr (.inl (17, r1)), .inl x2]) (rest := []) rfl rfl rfl
theorem b_X5_day_92 (r1 : Nat) (x2 : Int) (u3 : AV) (u4 : AV) (s0 : Int) (σ : St) : Rx k_X5_day 92 [.inr (.inl (16, 0)), .inr (.inl (17, r1)), .inl x2, u3, u4] [.inl s0] σ = if s0 < 0 then Rx k_X5_day 95 [.inr (.inl (16, 0)), .inr (.inl (17, r1)), .inl x2, u3, u4] [] σ else Rx k_X5_day 103 [.inr (.inl (16, 0)), .inr (.inl (17, r1)), .inl x2, u3, u4] [] σ := by
  exact Rx_ge0 (k := 1) rfl
theorem b_X5_day_95 (r1 : Nat) (x2 : Int) (u3 : AV) (u4 : AV) (σ : St) : Rx k_X5_day 95 [.inr (.inl (16, 0)), .inr (.inl (17, r1)), .inl x2, u3, u4] [] σ = (Rx k_X5_heaviestOn 0 [.inr (.inl (17, r1)), .inl x2, uns, uns, uns] [] σ).bind fun q => Rx k_X5_day 100 [.inr (.inl (16, 0)), .inr (.inl (17, r1)), .inl x2, u3, u4] (q.1.toList ++ []) q.2 := by
  refine (Rx_N (k := 2) (pc' := 97) (ls' := [.inr (.inl (16, 0)), .inr (.inl (17, r1)), .inl x2, u3, u4]) (st' := [.inl x2, .inr (.inl (17, r1))]) (σ' := σ) rfl).trans ?_
  exact Rx_call (n := 3) (y' := k_X5_heaviestOn) (as := [.inr (.inl (17, r1)), .inl x2]) (rest := []) rfl rfl rfl
theorem b_X5_day_100 (r1 : Nat) (x2 : Int) (u3 : AV) (u4 : AV) (s0 : Int) (σ : St) : Rx k_X5_day 100 [.inr (.inl (16, 0)), .inr (.inl (17, r1)), .inl x2, u3, u4] [.inl s0] σ = if s0 < 0 then Rx k_X5_day 110 [.inr (.inl (16, 0)), .inr (.inl (17, r1)), .inl x2, .inl s0, u4] [] σ else Rx k_X5_day 114 [.inr (.inl (16, 0)), .inr (.inl (17, r1)), .inl x2, .inl s0, u4] [] σ := by
  exact Rx_ge0 (k := 4) rfl
theorem b_X5_day_103 (r1 : Nat) (x2 : Int) (u3 : AV) (u4 : AV) (σ : St) : Rx k_X5_day 103 [.inr (.inl (16, 0)), .inr (.inl (17, r1)), .inl x2, u3, u4] [] σ = if ((-9) : Int) < (0 : Int) then Rx k_X5_day 110 [.inr (.inl (16, 0)), .inr (.inl (17, r1)), .inl x2, .inl (-9), u4] [] σ else Rx k_X5_day 114 [.inr (.inl (16, 0)), .inr (.inl (17, r1)), .inl x2, .inl (-9), u4] [] σ := by
  exact Rx_ge0 (k := 4) rfl
theorem r_X5_day_110 (r1 : Nat) (x2 : Int) (x3 : Int) (u4 : AV) (σ : St) : Rx k_X5_day 110 [.inr (.inl (16, 0)), .inr (.inl (17, r1)), .inl x2, .inl x3, u4] [] σ = Rx k_X5_day 80 [.inr (.inl (16, 0)), .inr (.inl (17, r1)), .inl (wr (x2 + 1)), .inl x3, .inl 0] [] σ := by
  refine (Rx_N (k := 5) (pc' := 80) (ls' := [.inr (.inl (16, 0)), .inr (.inl (17, r1)), .inl (wr (x2 + 1)), .inl x3, .inl 0]) (st' := []) (σ' := σ) rfl).trans ?_
  rfl
theorem b_X5_day_110 (r1 : Nat) (x2 : Int) (x3 : Int) (u4 : AV) (σ : St) (g0a : -2147483648 ≤ (x2 + 1)) (g0b : (x2 + 1) < 2147483648) : Rx k_X5_day 110 [.inr (.inl (16, 0)), .inr (.inl (17, r1)), .inl x2, .inl x3, u4] [] σ = Rx k_X5_day 80 [.inr (.inl (16, 0)), .inr (.inl (17, r1)), .inl (x2 + 1), .inl x3, .inl 0] [] σ := by
  have e0 := wr_id (x := (x2 + 1)) g0a g0b
  have raw := r_X5_day_110 r1 x2 x3 u4 σ 
  simp only [e0] at raw
  exact raw
theorem b_X5_day_114 (r1 : Nat) (x2 : Int) (x3 : Int) (u4 : AV) (σ : St) : Rx k_X5_day 114 [.inr (.inl (16, 0)), .inr (.inl (17, r1)), .inl x2, .inl x3, u4] [] σ = (Rx k_X5_fells 0 [.inr (.inl (17, r1)), .inl x3, uns, uns, uns] [] σ).bind fun q => Rx k_X5_day 119 [.inr (.inl (16, 0)), .inr (.inl (17, r1)), .inl x2, .inl x3, u4] (q.1.toList ++ []) q.2 := by
  refine (Rx_N (k := 2) (pc' := 116) (ls' := [.inr (.inl (16, 0)), .inr (.inl (17, r1)), .inl x2, .inl x3, u4]) (st' := [.inl x3, .inr (.inl (17, r1))]) (σ' := σ) rfl).trans ?_
  exact Rx_call (n := 3) (y' := k_X5_fells) (as := [.inr (.inl (17, r1)), .inl x3]) (rest := []) rfl rfl rfl
theorem r_X5_day_119 (r1 : Nat) (x2 : Int) (x3 : Int) (u4 : AV) (s0 : Int) (σ : St) : Rx k_X5_day 119 [.inr (.inl (16, 0)), .inr (.inl (17, r1)), .inl x2, .inl x3, u4] [.inl s0] σ = Rx k_X5_day 80 [.inr (.inl (16, 0)), .inr (.inl (17, r1)), .inl (wr (x2 + 1)), .inl x3, .inl s0] [] σ := by
  refine (Rx_N (k := 3) (pc' := 80) (ls' := [.inr (.inl (16, 0)), .inr (.inl (17, r1)), .inl (wr (x2 + 1)), .inl x3, .inl s0]) (st' := []) (σ' := σ) rfl).trans ?_
  rfl
theorem b_X5_day_119 (r1 : Nat) (x2 : Int) (x3 : Int) (u4 : AV) (s0 : Int) (σ : St) (g0a : -2147483648 ≤ (x2 + 1)) (g0b : (x2 + 1) < 2147483648) : Rx k_X5_day 119 [.inr (.inl (16, 0)), .inr (.inl (17, r1)), .inl x2, .inl x3, u4] [.inl s0] σ = Rx k_X5_day 80 [.inr (.inl (16, 0)), .inr (.inl (17, r1)), .inl (x2 + 1), .inl x3, .inl s0] [] σ := by
  have e0 := wr_id (x := (x2 + 1)) g0a g0b
  have raw := r_X5_day_119 r1 x2 x3 u4 s0 σ 
  simp only [e0] at raw
  exact raw
theorem b_X5_day_127 (r1 : Nat) (x2 : Int) (u3 : AV) (u4 : AV) (σ : St) : Rx k_X5_day 127 [.inr (.inl (16, 0)), .inr (.inl (17, r1)), .inl x2, u3, u4] [] σ = some (none, σ) := by
  exact Rx_ret rfl rfl
theorem b_X5_daysOn_0 (r1 : Nat) (x2 : Int) (u3 : AV) (σ : St) : Rx k_X5_daysOn 0 [.inr (.inl (16, 0)), .inr (.inl (17, r1)), .inl x2, u3] [] σ = Rx k_X5_daysOn 2 [.inr (.inl (16, 0)), .inr (.inl (17, r1)), .inl x2, .inl 0] [] σ := by
  refine (Rx_N (k := 2) (pc' := 2) (ls' := [.inr (.inl (16, 0)), .inr (.inl (17, r1)), .inl x2, .inl 0]) (st' := []) (σ' := σ) rfl).trans ?_
  rfl
theorem b_X5_daysOn_2 (r1 : Nat) (x2 : Int) (x3 : Int) (σ : St) : Rx k_X5_daysOn 2 [.inr (.inl (16, 0)), .inr (.inl (17, r1)), .inl x2, .inl x3] [] σ = if x3 < x2 then Rx k_X5_daysOn 7 [.inr (.inl (16, 0)), .inr (.inl (17, r1)), .inl x2, .inl x3] [] σ else Rx k_X5_daysOn 18 [.inr (.inl (16, 0)), .inr (.inl (17, r1)), .inl x2, .inl x3] [] σ := by
  exact Rx_ge0 (k := 3) rfl
theorem b_X5_daysOn_7 (r1 : Nat) (x2 : Int) (x3 : Int) (σ : St) : Rx k_X5_daysOn 7 [.inr (.inl (16, 0)), .inr (.inl (17, r1)), .inl x2, .inl x3] [] σ = (Rx k_X5_day 0 [.inr (.inl (16, 0)), .inr (.inl (17, r1)), uns, uns, uns] [] σ).bind fun q => Rx k_X5_daysOn 12 [.inr (.inl (16, 0)), .inr (.inl (17, r1)), .inl x2, .inl x3] (q.1.toList ++ []) q.2 := by
  refine (Rx_N (k := 2) (pc' := 9) (ls' := [.inr (.inl (16, 0)), .inr (.inl (17, r1)), .inl x2, .inl x3]) (st' := [.inr (.inl (17, r1)), .inr (.inl (16, 0))]) (σ' := σ) rfl).trans ?_
  exact Rx_call (n := 3) (y' := k_X5_day) (as := [.inr (.inl (16, 0)), .inr (.inl (17, r1))]) (rest := []) rfl rfl rfl
theorem r_X5_daysOn_12 (r1 : Nat) (x2 : Int) (x3 : Int) (σ : St) : Rx k_X5_daysOn 12 [.inr (.inl (16, 0)), .inr (.inl (17, r1)), .inl x2, .inl x3] [] σ = Rx k_X5_daysOn 2 [.inr (.inl (16, 0)), .inr (.inl (17, r1)), .inl x2, .inl (wr (x3 + 1))] [] σ := by
  refine (Rx_N (k := 2) (pc' := 2) (ls' := [.inr (.inl (16, 0)), .inr (.inl (17, r1)), .inl x2, .inl (wr (x3 + 1))]) (st' := []) (σ' := σ) rfl).trans ?_
  rfl
theorem b_X5_daysOn_12 (r1 : Nat) (x2 : Int) (x3 : Int) (σ : St) (g0a : -2147483648 ≤ (x3 + 1)) (g0b : (x3 + 1) < 2147483648) : Rx k_X5_daysOn 12 [.inr (.inl (16, 0)), .inr (.inl (17, r1)), .inl x2, .inl x3] [] σ = Rx k_X5_daysOn 2 [.inr (.inl (16, 0)), .inr (.inl (17, r1)), .inl x2, .inl (x3 + 1)] [] σ := by
  have e0 := wr_id (x := (x3 + 1)) g0a g0b
  have raw := r_X5_daysOn_12 r1 x2 x3 σ 
  simp only [e0] at raw
  exact raw
theorem b_X5_daysOn_18 (r1 : Nat) (x2 : Int) (x3 : Int) (σ : St) : Rx k_X5_daysOn 18 [.inr (.inl (16, 0)), .inr (.inl (17, r1)), .inl x2, .inl x3] [] σ = some (none, σ) := by
  exact Rx_ret rfl rfl
theorem b_X5_upSet_0 (r0 : Nat) (u1 : AV) (u2 : AV) (σ : St) : Rx k_X5_upSet 0 [.inr (.inl (17, r0)), u1, u2] [] σ = Rx k_X5_upSet 4 [.inr (.inl (17, r0)), .inl 0, .inl 0] [] σ := by
  refine (Rx_N (k := 4) (pc' := 4) (ls' := [.inr (.inl (17, r0)), .inl 0, .inl 0]) (st' := []) (σ' := σ) rfl).trans ?_
  rfl
theorem b_X5_upSet_4 (r0 : Nat) (x1 : Int) (x2 : Int) (σ : St) : Rx k_X5_upSet 4 [.inr (.inl (17, r0)), .inl x1, .inl x2] [] σ = if x2 < (σ 17 r0 1) then Rx k_X5_upSet 11 [.inr (.inl (17, r0)), .inl x1, .inl x2] [] σ else Rx k_X5_upSet 30 [.inr (.inl (17, r0)), .inl x1, .inl x2] [] σ := by
  exact Rx_ge0 (k := 5) rfl
theorem b_X5_upSet_11 (r0 : Nat) (x1 : Int) (x2 : Int) (σ : St) : Rx k_X5_upSet 11 [.inr (.inl (17, r0)), .inl x1, .inl x2] [] σ = (Rx k_X5_ofT 0 [.inl x2] [] σ).bind fun q => Rx k_X5_upSet 17 [.inr (.inl (17, r0)), .inl x1, .inl x2] (q.1.toList ++ [.inr (.inl (17, r0)), .inl x1]) q.2 := by
  refine (Rx_N (k := 3) (pc' := 14) (ls' := [.inr (.inl (17, r0)), .inl x1, .inl x2]) (st' := [.inl x2, .inr (.inl (17, r0)), .inl x1]) (σ' := σ) rfl).trans ?_
  exact Rx_call (n := 3) (y' := k_X5_ofT) (as := [.inl x2]) (rest := [.inr (.inl (17, r0)), .inl x1]) rfl rfl rfl
theorem r_X5_upSet_17 (r0 : Nat) (x1 : Int) (x2 : Int) (s2 : Int) (q1 : Nat) (s0 : Int) (σ : St) (h0 : 0 ≤ (wr (s2 + 3))) (h1 : (wr (s2 + 3)) < 58) : Rx k_X5_upSet 17 [.inr (.inl (17, r0)), .inl x1, .inl x2] [.inl s2, .inr (.inl (17, q1)), .inl s0] σ = Rx k_X5_upSet 4 [.inr (.inl (17, r0)), .inl (bOr s0 (bShl (σ 17 q1 (wr (s2 + 3)).toNat) x2)), .inl (wr (x2 + 1))] [] σ := by
  refine (Rx_N (k := 2) (pc' := 19) (ls' := [.inr (.inl (17, r0)), .inl x1, .inl x2]) (st' := [.inl (wr (s2 + 3)), .inr (.inl (17, q1)), .inl s0]) (σ' := σ) rfl).trans ?_
  refine (Rx_ild 58 rfl rfl rfl h0 h1).trans ?_
  refine (Rx_N (k := 6) (pc' := 4) (ls' := [.inr (.inl (17, r0)), .inl (bOr s0 (bShl (σ 17 q1 (wr (s2 + 3)).toNat) x2)), .inl (wr (x2 + 1))]) (st' := []) (σ' := σ) rfl).trans ?_
  rfl
theorem b_X5_upSet_17 (r0 : Nat) (x1 : Int) (x2 : Int) (s2 : Int) (q1 : Nat) (s0 : Int) (σ : St) (h0 : 0 ≤ (s2 + 3)) (h1 : (s2 + 3) < 58) (g0a : -2147483648 ≤ (s2 + 3)) (g0b : (s2 + 3) < 2147483648) (g1a : -2147483648 ≤ (x2 + 1)) (g1b : (x2 + 1) < 2147483648) : Rx k_X5_upSet 17 [.inr (.inl (17, r0)), .inl x1, .inl x2] [.inl s2, .inr (.inl (17, q1)), .inl s0] σ = Rx k_X5_upSet 4 [.inr (.inl (17, r0)), .inl (bOr s0 (bShl (σ 17 q1 (s2 + 3).toNat) x2)), .inl (x2 + 1)] [] σ := by
  have e0 := wr_id (x := (s2 + 3)) g0a g0b
  have e1 := wr_id (x := (x2 + 1)) g1a g1b
  have raw := r_X5_upSet_17 r0 x1 x2 s2 q1 s0 σ (by simp only [e0, e1]; exact h0) (by simp only [e0, e1]; exact h1)
  simp only [e0, e1] at raw
  exact raw
theorem b_X5_upSet_30 (r0 : Nat) (x1 : Int) (x2 : Int) (σ : St) : Rx k_X5_upSet 30 [.inr (.inl (17, r0)), .inl x1, .inl x2] [] σ = some (some (.inl x1), σ) := by
  refine (Rx_N (k := 1) (pc' := 31) (ls' := [.inr (.inl (17, r0)), .inl x1, .inl x2]) (st' := [.inl x1]) (σ' := σ) rfl).trans ?_
  exact Rx_ret rfl rfl
theorem b_X5_upIn_0 (x1 : Int) (σ : St) : Rx k_X5_upIn 0 [.inr (.inl (16, 0)), .inl x1] [] σ = (Rx k_X5_daysOn 0 [.inr (.inl (16, 0)), .inr (.inl (17, 1)), .inl x1, uns] [] σ).bind fun q => Rx k_X5_upIn 9 [.inr (.inl (16, 0)), .inl x1] (q.1.toList ++ []) q.2 := by
  refine (Rx_N (k := 4) (pc' := 6) (ls' := [.inr (.inl (16, 0)), .inl x1]) (st' := [.inl x1, .inr (.inl (17, 1)), .inr (.inl (16, 0))]) (σ' := σ) rfl).trans ?_
  exact Rx_call (n := 3) (y' := k_X5_daysOn) (as := [.inr (.inl (16, 0)), .inr (.inl (17, 1)), .inl x1]) (rest := []) rfl rfl rfl
theorem b_X5_upIn_9 (x1 : Int) (σ : St) : Rx k_X5_upIn 9 [.inr (.inl (16, 0)), .inl x1] [] σ = (Rx k_X5_upSet 0 [.inr (.inl (17, 1)), uns, uns] [] σ).bind fun q => Rx k_X5_upIn 16 [.inr (.inl (16, 0)), .inl x1] (q.1.toList ++ []) q.2 := by
  refine (Rx_N (k := 2) (pc' := 13) (ls' := [.inr (.inl (16, 0)), .inl x1]) (st' := [.inr (.inl (17, 1))]) (σ' := σ) rfl).trans ?_
  exact Rx_call (n := 3) (y' := k_X5_upSet) (as := [.inr (.inl (17, 1))]) (rest := []) rfl rfl rfl
theorem b_X5_upIn_16 (x1 : Int) (s0 : Int) (σ : St) : Rx k_X5_upIn 16 [.inr (.inl (16, 0)), .inl x1] [.inl s0] σ = (Rx k_X5_bits 0 [.inl s0, uns, uns] [] σ).bind fun q => Rx k_X5_upIn 19 [.inr (.inl (16, 0)), .inl x1] (q.1.toList ++ []) q.2 := by
  exact Rx_call (n := 3) (y' := k_X5_bits) (as := [.inl s0]) (rest := []) rfl rfl rfl
theorem b_X5_upIn_19 (x1 : Int) (s0 : Int) (σ : St) : Rx k_X5_upIn 19 [.inr (.inl (16, 0)), .inl x1] [.inl s0] σ = some (some (.inl s0), σ) := by
  exact Rx_ret rfl rfl
theorem b_X5_letter_0 (x1 : Int) (σ : St) : Rx k_X5_letter 0 [.inr (.inl (16, 0)), .inl x1] [] σ = if x1 < 0 then Rx k_X5_letter 4 [.inr (.inl (16, 0)), .inl x1] [] σ else Rx k_X5_letter 11 [.inr (.inl (16, 0)), .inl x1] [] σ := by
  exact Rx_ge0 (k := 2) rfl
theorem b_X5_letter_4 (x1 : Int) (σ : St) : Rx k_X5_letter 4 [.inr (.inl (16, 0)), .inl x1] [] σ = (Rx k_X5_no 0 [.inr (.inl (16, 0)), .inl (-4)] [] σ).bind fun q => Rx k_X5_letter 10 [.inr (.inl (16, 0)), .inl x1] (q.1.toList ++ []) q.2 := by
  refine (Rx_N (k := 2) (pc' := 7) (ls' := [.inr (.inl (16, 0)), .inl x1]) (st' := [.inl (-4), .inr (.inl (16, 0))]) (σ' := σ) rfl).trans ?_
  exact Rx_call (n := 3) (y' := k_X5_no) (as := [.inr (.inl (16, 0)), .inl (-4)]) (rest := []) rfl rfl rfl
theorem b_X5_letter_10 (x1 : Int) (s0 : Int) (σ : St) : Rx k_X5_letter 10 [.inr (.inl (16, 0)), .inl x1] [.inl s0] σ = some (some (.inl s0), σ) := by
  exact Rx_ret rfl rfl
theorem b_X5_letter_11 (x1 : Int) (σ : St) : Rx k_X5_letter 11 [.inr (.inl (16, 0)), .inl x1] [] σ = if 255 < x1 then Rx k_X5_letter 27 [.inr (.inl (16, 0)), .inl x1] [] σ else Rx k_X5_letter 18 [.inr (.inl (16, 0)), .inl x1] [] σ := by
  exact Rx_gt0 (k := 3) rfl
theorem b_X5_letter_18 (x1 : Int) (σ : St) : Rx k_X5_letter 18 [.inr (.inl (16, 0)), .inl x1] [] σ = if (σ 16 0 9) = 96 then Rx k_X5_letter 27 [.inr (.inl (16, 0)), .inl x1] [] σ else Rx k_X5_letter 34 [.inr (.inl (16, 0)), .inl x1] [] σ := by
  exact Rx_ne0 (k := 4) rfl
theorem b_X5_letter_27 (x1 : Int) (σ : St) : Rx k_X5_letter 27 [.inr (.inl (16, 0)), .inl x1] [] σ = (Rx k_X5_no 0 [.inr (.inl (16, 0)), .inl (-6)] [] σ).bind fun q => Rx k_X5_letter 33 [.inr (.inl (16, 0)), .inl x1] (q.1.toList ++ []) q.2 := by
  refine (Rx_N (k := 2) (pc' := 30) (ls' := [.inr (.inl (16, 0)), .inl x1]) (st' := [.inl (-6), .inr (.inl (16, 0))]) (σ' := σ) rfl).trans ?_
  exact Rx_call (n := 3) (y' := k_X5_no) (as := [.inr (.inl (16, 0)), .inl (-6)]) (rest := []) rfl rfl rfl
theorem b_X5_letter_33 (x1 : Int) (s0 : Int) (σ : St) : Rx k_X5_letter 33 [.inr (.inl (16, 0)), .inl x1] [.inl s0] σ = some (some (.inl s0), σ) := by
  exact Rx_ret rfl rfl
theorem r_X5_letter_34 (x1 : Int) (σ : St) (h0 : 0 ≤ (σ 16 0 9)) (h1 : (σ 16 0 9) < 96) : Rx k_X5_letter 34 [.inr (.inl (16, 0)), .inl x1] [] σ = some (some (.inl ((up (up σ 19 0 ((σ 16 0 9).toNat) x1) 16 0 9 (wr (((up σ 19 0 ((σ 16 0 9).toNat) x1) 16 0 9) + 1))) 16 0 9)), (up (up σ 19 0 ((σ 16 0 9).toNat) x1) 16 0 9 (wr (((up σ 19 0 ((σ 16 0 9).toNat) x1) 16 0 9) + 1)))) := by
  refine (Rx_N (k := 5) (pc' := 43) (ls' := [.inr (.inl (16, 0)), .inl x1]) (st' := [.inl x1, .inl (σ 16 0 9), .inr (.inl (19, 0))]) (σ' := σ) rfl).trans ?_
  refine (Rx_ist 96 rfl rfl h0 h1).trans ?_
  refine (Rx_N (k := 8) (pc' := 58) (ls' := [.inr (.inl (16, 0)), .inl x1]) (st' := [.inl ((up (up σ 19 0 ((σ 16 0 9).toNat) x1) 16 0 9 (wr (((up σ 19 0 ((σ 16 0 9).toNat) x1) 16 0 9) + 1))) 16 0 9)]) (σ' := (up (up σ 19 0 ((σ 16 0 9).toNat) x1) 16 0 9 (wr (((up σ 19 0 ((σ 16 0 9).toNat) x1) 16 0 9) + 1)))) rfl).trans ?_
  exact Rx_ret rfl rfl
theorem b_X5_letter_34 (x1 : Int) (σ : St) (h0 : 0 ≤ (σ 16 0 9)) (h1 : (σ 16 0 9) < 96) (g0a : -2147483648 ≤ (((up σ 19 0 ((σ 16 0 9).toNat) x1) 16 0 9) + 1)) (g0b : (((up σ 19 0 ((σ 16 0 9).toNat) x1) 16 0 9) + 1) < 2147483648) : Rx k_X5_letter 34 [.inr (.inl (16, 0)), .inl x1] [] σ = some (some (.inl ((up (up σ 19 0 ((σ 16 0 9).toNat) x1) 16 0 9 (((up σ 19 0 ((σ 16 0 9).toNat) x1) 16 0 9) + 1)) 16 0 9)), (up (up σ 19 0 ((σ 16 0 9).toNat) x1) 16 0 9 (((up σ 19 0 ((σ 16 0 9).toNat) x1) 16 0 9) + 1))) := by
  have e0 := wr_id (x := (((up σ 19 0 ((σ 16 0 9).toNat) x1) 16 0 9) + 1)) g0a g0b
  have raw := r_X5_letter_34 x1 σ h0 h1
  simp only [e0] at raw
  exact raw
theorem b_X5_here_0  (σ : St) : Rx k_X5_here 0 [.inr (.inl (16, 0))] [] σ = if (σ 16 0 11) < (σ 16 0 9) then Rx k_X5_here 11 [.inr (.inl (16, 0))] [] σ else Rx k_X5_here 23 [.inr (.inl (16, 0))] [] σ := by
  exact Rx_ge0 (k := 5) rfl
theorem b_X5_here_11  (σ : St) (h0 : 0 ≤ (σ 16 0 11)) (h1 : (σ 16 0 11) < 96) : Rx k_X5_here 11 [.inr (.inl (16, 0))] [] σ = some (some (.inl (σ 19 0 (σ 16 0 11).toNat)), σ) := by
  refine (Rx_N (k := 4) (pc' := 19) (ls' := [.inr (.inl (16, 0))]) (st' := [.inl (σ 16 0 11), .inr (.inl (19, 0))]) (σ' := σ) rfl).trans ?_
  refine (Rx_ild 96 rfl rfl rfl h0 h1).trans ?_
  refine (Rx_N (k := 1) (pc' := 24) (ls' := [.inr (.inl (16, 0))]) (st' := [.inl (σ 19 0 (σ 16 0 11).toNat)]) (σ' := σ) rfl).trans ?_
  exact Rx_ret rfl rfl
theorem b_X5_here_23  (σ : St) : Rx k_X5_here 23 [.inr (.inl (16, 0))] [] σ = some (some (.inl (-1)), σ) := by
  refine (Rx_N (k := 1) (pc' := 24) (ls' := [.inr (.inl (16, 0))]) (st' := [.inl (-1)]) (σ' := σ) rfl).trans ?_
  exact Rx_ret rfl rfl
theorem b_X5_readsNumber_0 (x1 : Int) (x2 : Int) (u3 : AV) (σ : St) (h0 : 0 ≤ x1) (h1 : x1 < 3) : Rx k_X5_readsNumber 0 [.inr (.inl (16, 0)), .inl x1, .inl x2, u3] [] σ = Rx k_X5_readsNumber 9 [.inr (.inl (16, 0)), .inl x1, .inl x2, .inl 0] [] (up σ 22 0 x1.toNat 0) := by
  refine (Rx_N (k := 4) (pc' := 6) (ls' := [.inr (.inl (16, 0)), .inl x1, .inl x2, u3]) (st' := [.inl 0, .inl x1, .inr (.inl (22, 0))]) (σ' := σ) rfl).trans ?_
  refine (Rx_ist 3 rfl rfl h0 h1).trans ?_
  refine (Rx_N (k := 2) (pc' := 9) (ls' := [.inr (.inl (16, 0)), .inl x1, .inl x2, .inl 0]) (st' := []) (σ' := (up σ 22 0 x1.toNat 0)) rfl).trans ?_
  rfl
theorem b_X5_readsNumber_9 (x1 : Int) (x2 : Int) (x3 : Int) (σ : St) : Rx k_X5_readsNumber 9 [.inr (.inl (16, 0)), .inl x1, .inl x2, .inl x3] [] σ = if x3 < x2 then Rx k_X5_readsNumber 14 [.inr (.inl (16, 0)), .inl x1, .inl x2, .inl x3] [] σ else Rx k_X5_readsNumber 69 [.inr (.inl (16, 0)), .inl x1, .inl x2, .inl x3] [] σ := by
  exact Rx_ge0 (k := 3) rfl
theorem b_X5_readsNumber_14 (x1 : Int) (x2 : Int) (x3 : Int) (σ : St) : Rx k_X5_readsNumber 14 [.inr (.inl (16, 0)), .inl x1, .inl x2, .inl x3] [] σ = (Rx k_X5_here 0 [.inr (.inl (16, 0))] [] σ).bind fun q => Rx k_X5_readsNumber 18 [.inr (.inl (16, 0)), .inl x1, .inl x2, .inl x3] (q.1.toList ++ []) q.2 := by
  refine (Rx_N (k := 1) (pc' := 15) (ls' := [.inr (.inl (16, 0)), .inl x1, .inl x2, .inl x3]) (st' := [.inr (.inl (16, 0))]) (σ' := σ) rfl).trans ?_
  exact Rx_call (n := 3) (y' := k_X5_here) (as := [.inr (.inl (16, 0))]) (rest := []) rfl rfl rfl
theorem b_X5_readsNumber_18 (x1 : Int) (x2 : Int) (x3 : Int) (s0 : Int) (σ : St) : Rx k_X5_readsNumber 18 [.inr (.inl (16, 0)), .inl x1, .inl x2, .inl x3] [.inl s0] σ = (Rx k_X5_isIn 0 [.inl s0, .inl 48, .inl 57] [] σ).bind fun q => Rx k_X5_readsNumber 25 [.inr (.inl (16, 0)), .inl x1, .inl x2, .inl x3] (q.1.toList ++ []) q.2 := by
  refine (Rx_N (k := 2) (pc' := 22) (ls' := [.inr (.inl (16, 0)), .inl x1, .inl x2, .inl x3]) (st' := [.inl 57, .inl 48, .inl s0]) (σ' := σ) rfl).trans ?_
  exact Rx_call (n := 3) (y' := k_X5_isIn) (as := [.inl s0, .inl 48, .inl 57]) (rest := []) rfl rfl rfl
theorem b_X5_readsNumber_25 (x1 : Int) (x2 : Int) (x3 : Int) (s0 : Int) (σ : St) : Rx k_X5_readsNumber 25 [.inr (.inl (16, 0)), .inl x1, .inl x2, .inl x3] [.inl s0] σ = if s0 = 0 then Rx k_X5_readsNumber 28 [.inr (.inl (16, 0)), .inl x1, .inl x2, .inl x3] [] σ else Rx k_X5_readsNumber 30 [.inr (.inl (16, 0)), .inl x1, .inl x2, .inl x3] [] σ := by
  exact Rx_ne0 (k := 1) rfl
theorem b_X5_readsNumber_28 (x1 : Int) (x2 : Int) (x3 : Int) (σ : St) : Rx k_X5_readsNumber 28 [.inr (.inl (16, 0)), .inl x1, .inl x2, .inl x3] [] σ = some (some (.inl 0), σ) := by
  refine (Rx_N (k := 1) (pc' := 29) (ls' := [.inr (.inl (16, 0)), .inl x1, .inl x2, .inl x3]) (st' := [.inl 0]) (σ' := σ) rfl).trans ?_
  exact Rx_ret rfl rfl
theorem r_X5_readsNumber_30 (x1 : Int) (x2 : Int) (x3 : Int) (σ : St) (h0 : 0 ≤ x1) (h1 : x1 < 3) : Rx k_X5_readsNumber 30 [.inr (.inl (16, 0)), .inl x1, .inl x2, .inl x3] [] σ = (Rx k_X5_here 0 [.inr (.inl (16, 0))] [] σ).bind fun q => Rx k_X5_readsNumber 48 [.inr (.inl (16, 0)), .inl x1, .inl x2, .inl x3] (q.1.toList ++ [.inl (wr (10 * (σ 22 0 x1.toNat))), .inl x1, .inr (.inl (22, 0))]) q.2 := by
  refine (Rx_N (k := 7) (pc' := 42) (ls' := [.inr (.inl (16, 0)), .inl x1, .inl x2, .inl x3]) (st' := [.inl x1, .inr (.inl (22, 0)), .inl 10, .inl x1, .inr (.inl (22, 0))]) (σ' := σ) rfl).trans ?_
  refine (Rx_ild 3 rfl rfl rfl h0 h1).trans ?_
  refine (Rx_N (k := 2) (pc' := 45) (ls' := [.inr (.inl (16, 0)), .inl x1, .inl x2, .inl x3]) (st' := [.inr (.inl (16, 0)), .inl (wr (10 * (σ 22 0 x1.toNat))), .inl x1, .inr (.inl (22, 0))]) (σ' := σ) rfl).trans ?_
  exact Rx_call (n := 3) (y' := k_X5_here) (as := [.inr (.inl (16, 0))]) (rest := [.inl (wr (10 * (σ 22 0 x1.toNat))), .inl x1, .inr (.inl (22, 0))]) rfl rfl rfl
theorem b_X5_readsNumber_30 (x1 : Int) (x2 : Int) (x3 : Int) (σ : St) (h0 : 0 ≤ x1) (h1 : x1 < 3) (g0a : -2147483648 ≤ (10 * (σ 22 0 x1.toNat))) (g0b : (10 * (σ 22 0 x1.toNat)) < 2147483648) : Rx k_X5_readsNumber 30 [.inr (.inl (16, 0)), .inl x1, .inl x2, .inl x3] [] σ = (Rx k_X5_here 0 [.inr (.inl (16, 0))] [] σ).bind fun q => Rx k_X5_readsNumber 48 [.inr (.inl (16, 0)), .inl x1, .inl x2, .inl x3] (q.1.toList ++ [.inl (10 * (σ 22 0 x1.toNat)), .inl x1, .inr (.inl (22, 0))]) q.2 := by
  have e0 := wr_id (x := (10 * (σ 22 0 x1.toNat))) g0a g0b
  have raw := r_X5_readsNumber_30 x1 x2 x3 σ h0 h1
  simp only [e0] at raw
  exact raw
theorem r_X5_readsNumber_48 (x1 : Int) (x2 : Int) (x3 : Int) (s3 : Int) (s2 : Int) (s1 : Int) (σ : St) (h0 : 0 ≤ s1) (h1 : s1 < 3) : Rx k_X5_readsNumber 48 [.inr (.inl (16, 0)), .inl x1, .inl x2, .inl x3] [.inl s3, .inl s2, .inl s1, .inr (.inl (22, 0))] σ = Rx k_X5_readsNumber 9 [.inr (.inl (16, 0)), .inl x1, .inl x2, .inl (wr (x3 + 1))] [] (up (up σ 22 0 s1.toNat (wr ((wr (s2 + s3)) - 48))) 16 0 11 (wr (((up σ 22 0 s1.toNat (wr ((wr (s2 + s3)) - 48))) 16 0 11) + 1))) := by
  refine (Rx_N (k := 3) (pc' := 52) (ls' := [.inr (.inl (16, 0)), .inl x1, .inl x2, .inl x3]) (st' := [.inl (wr ((wr (s2 + s3)) - 48)), .inl s1, .inr (.inl (22, 0))]) (σ' := σ) rfl).trans ?_
  refine (Rx_ist 3 rfl rfl h0 h1).trans ?_
  refine (Rx_N (k := 8) (pc' := 9) (ls' := [.inr (.inl (16, 0)), .inl x1, .inl x2, .inl (wr (x3 + 1))]) (st' := []) (σ' := (up (up σ 22 0 s1.toNat (wr ((wr (s2 + s3)) - 48))) 16 0 11 (wr (((up σ 22 0 s1.toNat (wr ((wr (s2 + s3)) - 48))) 16 0 11) + 1)))) rfl).trans ?_
  rfl
theorem b_X5_readsNumber_48 (x1 : Int) (x2 : Int) (x3 : Int) (s3 : Int) (s2 : Int) (s1 : Int) (σ : St) (h0 : 0 ≤ s1) (h1 : s1 < 3) (g0a : -2147483648 ≤ (x3 + 1)) (g0b : (x3 + 1) < 2147483648) (g1a : -2147483648 ≤ (s2 + s3)) (g1b : (s2 + s3) < 2147483648) (g2a : -2147483648 ≤ (((s2 + s3)) - 48)) (g2b : (((s2 + s3)) - 48) < 2147483648) (g3a : -2147483648 ≤ (((up σ 22 0 s1.toNat (((s2 + s3)) - 48)) 16 0 11) + 1)) (g3b : (((up σ 22 0 s1.toNat (((s2 + s3)) - 48)) 16 0 11) + 1) < 2147483648) : Rx k_X5_readsNumber 48 [.inr (.inl (16, 0)), .inl x1, .inl x2, .inl x3] [.inl s3, .inl s2, .inl s1, .inr (.inl (22, 0))] σ = Rx k_X5_readsNumber 9 [.inr (.inl (16, 0)), .inl x1, .inl x2, .inl (x3 + 1)] [] (up (up σ 22 0 s1.toNat (((s2 + s3)) - 48)) 16 0 11 (((up σ 22 0 s1.toNat (((s2 + s3)) - 48)) 16 0 11) + 1)) := by
  have e0 := wr_id (x := (x3 + 1)) g0a g0b
  have e1 := wr_id (x := (s2 + s3)) g1a g1b
  have e2 := wr_id (x := (((s2 + s3)) - 48)) g2a g2b
  have e3 := wr_id (x := (((up σ 22 0 s1.toNat (((s2 + s3)) - 48)) 16 0 11) + 1)) g3a g3b
  have raw := r_X5_readsNumber_48 x1 x2 x3 s3 s2 s1 σ h0 h1
  simp only [e0, e1, e2, e3] at raw
  exact raw
theorem b_X5_readsNumber_69 (x1 : Int) (x2 : Int) (x3 : Int) (σ : St) : Rx k_X5_readsNumber 69 [.inr (.inl (16, 0)), .inl x1, .inl x2, .inl x3] [] σ = some (some (.inl 1), σ) := by
  refine (Rx_N (k := 1) (pc' := 70) (ls' := [.inr (.inl (16, 0)), .inl x1, .inl x2, .inl x3]) (st' := [.inl 1]) (σ' := σ) rfl).trans ?_
  exact Rx_ret rfl rfl
theorem b_X5_kindBy_0 (x0 : Int) (σ : St) : Rx k_X5_kindBy 0 [.inl x0] [] σ = if x0 = 104 then Rx k_X5_kindBy 82 [.inl x0] [] σ else if x0 = 108 then Rx k_X5_kindBy 90 [.inl x0] [] σ else if x0 = 111 then Rx k_X5_kindBy 86 [.inl x0] [] σ else if x0 = 112 then Rx k_X5_kindBy 80 [.inl x0] [] σ else if x0 = 118 then Rx k_X5_kindBy 84 [.inl x0] [] σ else if x0 = 119 then Rx k_X5_kindBy 88 [.inl x0] [] σ else Rx k_X5_kindBy 92 [.inl x0] [] σ := by
  refine (Rx_N (k := 1) (pc' := 1) (ls' := [.inl x0]) (st' := [.inl x0]) (σ' := σ) rfl).trans ?_
  generalize x0 = z9
  by_cases e9 : z9 = 104
  · subst e9; exact Rx_N (k := 1) rfl
  by_cases e9 : z9 = 105
  · subst e9; exact Rx_N (k := 1) rfl
  by_cases e9 : z9 = 106
  · subst e9; exact Rx_N (k := 1) rfl
  by_cases e9 : z9 = 107
  · subst e9; exact Rx_N (k := 1) rfl
  by_cases e9 : z9 = 108
  · subst e9; exact Rx_N (k := 1) rfl
  by_cases e9 : z9 = 109
  · subst e9; exact Rx_N (k := 1) rfl
  by_cases e9 : z9 = 110
  · subst e9; exact Rx_N (k := 1) rfl
  by_cases e9 : z9 = 111
  · subst e9; exact Rx_N (k := 1) rfl
  by_cases e9 : z9 = 112
  · subst e9; exact Rx_N (k := 1) rfl
  by_cases e9 : z9 = 113
  · subst e9; exact Rx_N (k := 1) rfl
  by_cases e9 : z9 = 114
  · subst e9; exact Rx_N (k := 1) rfl
  by_cases e9 : z9 = 115
  · subst e9; exact Rx_N (k := 1) rfl
  by_cases e9 : z9 = 116
  · subst e9; exact Rx_N (k := 1) rfl
  by_cases e9 : z9 = 117
  · subst e9; exact Rx_N (k := 1) rfl
  by_cases e9 : z9 = 118
  · subst e9; exact Rx_N (k := 1) rfl
  by_cases e9 : z9 = 119
  · subst e9; exact Rx_N (k := 1) rfl
  rw [if_neg (by omega)]; rw [if_neg (by omega)]; rw [if_neg (by omega)]; rw [if_neg (by omega)]; rw [if_neg (by omega)]; rw [if_neg (by omega)]; exact Rx_tout rfl (by omega) rfl
theorem b_X5_kindBy_80 (x0 : Int) (σ : St) : Rx k_X5_kindBy 80 [.inl x0] [] σ = some (some (.inl 0), σ) := by
  refine (Rx_N (k := 1) (pc' := 81) (ls' := [.inl x0]) (st' := [.inl 0]) (σ' := σ) rfl).trans ?_
  exact Rx_ret rfl rfl
theorem b_X5_kindBy_82 (x0 : Int) (σ : St) : Rx k_X5_kindBy 82 [.inl x0] [] σ = some (some (.inl 1), σ) := by
  refine (Rx_N (k := 1) (pc' := 83) (ls' := [.inl x0]) (st' := [.inl 1]) (σ' := σ) rfl).trans ?_
  exact Rx_ret rfl rfl
theorem b_X5_kindBy_84 (x0 : Int) (σ : St) : Rx k_X5_kindBy 84 [.inl x0] [] σ = some (some (.inl 2), σ) := by
  refine (Rx_N (k := 1) (pc' := 85) (ls' := [.inl x0]) (st' := [.inl 2]) (σ' := σ) rfl).trans ?_
  exact Rx_ret rfl rfl
theorem b_X5_kindBy_86 (x0 : Int) (σ : St) : Rx k_X5_kindBy 86 [.inl x0] [] σ = some (some (.inl 3), σ) := by
  refine (Rx_N (k := 1) (pc' := 87) (ls' := [.inl x0]) (st' := [.inl 3]) (σ' := σ) rfl).trans ?_
  exact Rx_ret rfl rfl
theorem b_X5_kindBy_88 (x0 : Int) (σ : St) : Rx k_X5_kindBy 88 [.inl x0] [] σ = some (some (.inl 4), σ) := by
  refine (Rx_N (k := 1) (pc' := 89) (ls' := [.inl x0]) (st' := [.inl 4]) (σ' := σ) rfl).trans ?_
  exact Rx_ret rfl rfl
theorem b_X5_kindBy_90 (x0 : Int) (σ : St) : Rx k_X5_kindBy 90 [.inl x0] [] σ = some (some (.inl 5), σ) := by
  refine (Rx_N (k := 1) (pc' := 91) (ls' := [.inl x0]) (st' := [.inl 5]) (σ' := σ) rfl).trans ?_
  exact Rx_ret rfl rfl
theorem b_X5_kindBy_92 (x0 : Int) (σ : St) : Rx k_X5_kindBy 92 [.inl x0] [] σ = some (some (.inl (-9)), σ) := by
  refine (Rx_N (k := 1) (pc' := 94) (ls' := [.inl x0]) (st' := [.inl (-9)]) (σ' := σ) rfl).trans ?_
  exact Rx_ret rfl rfl
theorem b_X5_readsKind_0  (σ : St) : Rx k_X5_readsKind 0 [.inr (.inl (16, 0))] [] σ = (Rx k_X5_here 0 [.inr (.inl (16, 0))] [] σ).bind fun q => Rx k_X5_readsKind 9 [.inr (.inl (16, 0))] (q.1.toList ++ [.inl 0, .inr (.inl (22, 0))]) q.2 := by
  refine (Rx_N (k := 4) (pc' := 6) (ls' := [.inr (.inl (16, 0))]) (st' := [.inr (.inl (16, 0)), .inl 0, .inr (.inl (22, 0))]) (σ' := σ) rfl).trans ?_
  exact Rx_call (n := 3) (y' := k_X5_here) (as := [.inr (.inl (16, 0))]) (rest := [.inl 0, .inr (.inl (22, 0))]) rfl rfl rfl
theorem b_X5_readsKind_9 (s2 : Int) (s1 : Int) (σ : St) : Rx k_X5_readsKind 9 [.inr (.inl (16, 0))] [.inl s2, .inl s1, .inr (.inl (22, 0))] σ = (Rx k_X5_kindBy 0 [.inl s2] [] σ).bind fun q => Rx k_X5_readsKind 12 [.inr (.inl (16, 0))] (q.1.toList ++ [.inl s1, .inr (.inl (22, 0))]) q.2 := by
  exact Rx_call (n := 3) (y' := k_X5_kindBy) (as := [.inl s2]) (rest := [.inl s1, .inr (.inl (22, 0))]) rfl rfl rfl
theorem b_X5_readsKind_12 (s2 : Int) (s1 : Int) (σ : St) (h0 : 0 ≤ s1) (h1 : s1 < 3) : Rx k_X5_readsKind 12 [.inr (.inl (16, 0))] [.inl s2, .inl s1, .inr (.inl (22, 0))] σ = if ((up σ 22 0 s1.toNat s2) 22 0 0) < 0 then Rx k_X5_readsKind 27 [.inr (.inl (16, 0))] [.inl ((up σ 22 0 s1.toNat s2) 16 0 11), .inr (.inl (16, 0))] (up σ 22 0 s1.toNat s2) else Rx k_X5_readsKind 31 [.inr (.inl (16, 0))] [.inl ((up σ 22 0 s1.toNat s2) 16 0 11), .inr (.inl (16, 0))] (up σ 22 0 s1.toNat s2) := by
  refine (Rx_ist 3 rfl rfl h0 h1).trans ?_
  exact Rx_ge0 (k := 8) rfl
theorem r_X5_readsKind_27 (s1 : Int) (σ : St) : Rx k_X5_readsKind 27 [.inr (.inl (16, 0))] [.inl s1, .inr (.inl (16, 0))] σ = if ((up σ 16 0 11 (wr (s1 + 0))) 22 0 0) < 0 then Rx k_X5_readsKind 49 [.inr (.inl (16, 0))] [] (up σ 16 0 11 (wr (s1 + 0))) else Rx k_X5_readsKind 45 [.inr (.inl (16, 0))] [] (up σ 16 0 11 (wr (s1 + 0))) := by
  exact Rx_lt0 (k := 9) rfl
theorem b_X5_readsKind_27 (s1 : Int) (σ : St) (g0a : -2147483648 ≤ (s1 + 0)) (g0b : (s1 + 0) < 2147483648) : Rx k_X5_readsKind 27 [.inr (.inl (16, 0))] [.inl s1, .inr (.inl (16, 0))] σ = if ((up σ 16 0 11 (s1 + 0)) 22 0 0) < 0 then Rx k_X5_readsKind 49 [.inr (.inl (16, 0))] [] (up σ 16 0 11 (s1 + 0)) else Rx k_X5_readsKind 45 [.inr (.inl (16, 0))] [] (up σ 16 0 11 (s1 + 0)) := by
  have e0 := wr_id (x := (s1 + 0)) g0a g0b
  have raw := r_X5_readsKind_27 s1 σ 
  simp only [e0] at raw
  exact raw
theorem r_X5_readsKind_31 (s1 : Int) (σ : St) : Rx k_X5_readsKind 31 [.inr (.inl (16, 0))] [.inl s1, .inr (.inl (16, 0))] σ = if ((up σ 16 0 11 (wr (s1 + 1))) 22 0 0) < 0 then Rx k_X5_readsKind 49 [.inr (.inl (16, 0))] [] (up σ 16 0 11 (wr (s1 + 1))) else Rx k_X5_readsKind 45 [.inr (.inl (16, 0))] [] (up σ 16 0 11 (wr (s1 + 1))) := by
  exact Rx_lt0 (k := 8) rfl
theorem b_X5_readsKind_31 (s1 : Int) (σ : St) (g0a : -2147483648 ≤ (s1 + 1)) (g0b : (s1 + 1) < 2147483648) : Rx k_X5_readsKind 31 [.inr (.inl (16, 0))] [.inl s1, .inr (.inl (16, 0))] σ = if ((up σ 16 0 11 (s1 + 1)) 22 0 0) < 0 then Rx k_X5_readsKind 49 [.inr (.inl (16, 0))] [] (up σ 16 0 11 (s1 + 1)) else Rx k_X5_readsKind 45 [.inr (.inl (16, 0))] [] (up σ 16 0 11 (s1 + 1)) := by
  have e0 := wr_id (x := (s1 + 1)) g0a g0b
  have raw := r_X5_readsKind_31 s1 σ 
  simp only [e0] at raw
  exact raw
theorem b_X5_readsKind_45  (σ : St) : Rx k_X5_readsKind 45 [.inr (.inl (16, 0))] [] σ = some (some (.inl 1), σ) := by
  refine (Rx_N (k := 2) (pc' := 50) (ls' := [.inr (.inl (16, 0))]) (st' := [.inl 1]) (σ' := σ) rfl).trans ?_
  exact Rx_ret rfl rfl
theorem b_X5_readsKind_49  (σ : St) : Rx k_X5_readsKind 49 [.inr (.inl (16, 0))] [] σ = some (some (.inl 0), σ) := by
  refine (Rx_N (k := 1) (pc' := 50) (ls' := [.inr (.inl (16, 0))]) (st' := [.inl 0]) (σ' := σ) rfl).trans ?_
  exact Rx_ret rfl rfl
theorem b_X5_readsStatement_0 (u1 : AV) (u2 : AV) (σ : St) : Rx k_X5_readsStatement 0 [.inr (.inl (16, 0)), u1, u2] [] σ = (Rx k_X5_here 0 [.inr (.inl (16, 0))] [] σ).bind fun q => Rx k_X5_readsStatement 4 [.inr (.inl (16, 0)), u1, u2] (q.1.toList ++ []) q.2 := by
  refine (Rx_N (k := 1) (pc' := 1) (ls' := [.inr (.inl (16, 0)), u1, u2]) (st' := [.inr (.inl (16, 0))]) (σ' := σ) rfl).trans ?_
  exact Rx_call (n := 3) (y' := k_X5_here) (as := [.inr (.inl (16, 0))]) (rest := []) rfl rfl rfl
theorem r_X5_readsStatement_4 (u1 : AV) (u2 : AV) (s0 : Int) (σ : St) : Rx k_X5_readsStatement 4 [.inr (.inl (16, 0)), u1, u2] [.inl s0] σ = if s0 = 100 then Rx k_X5_readsStatement 238 [.inr (.inl (16, 0)), .inl s0, u2] [] (up σ 16 0 11 (wr ((σ 16 0 11) + 1))) else if s0 = 108 then Rx k_X5_readsStatement 174 [.inr (.inl (16, 0)), .inl s0, u2] [] (up σ 16 0 11 (wr ((σ 16 0 11) + 1))) else if s0 = 112 then Rx k_X5_readsStatement 104 [.inr (.inl (16, 0)), .inl s0, u2] [] (up σ 16 0 11 (wr ((σ 16 0 11) + 1))) else if s0 = 115 then Rx k_X5_readsStatement 211 [.inr (.inl (16, 0)), .inl s0, u2] [] (up σ 16 0 11 (wr ((σ 16 0 11) + 1))) else if s0 = 116 then Rx k_X5_readsStatement 138 [.inr (.inl (16, 0)), .inl s0, u2] [] (up σ 16 0 11 (wr ((σ 16 0 11) + 1))) else if s0 = 117 then Rx k_X5_readsStatement 201 [.inr (.inl (16, 0)), .inl s0, u2] [] (up σ 16 0 11 (wr ((σ 16 0 11) + 1))) else Rx k_X5_readsStatement 248 [.inr (.inl (16, 0)), .inl s0, u2] [] (up σ 16 0 11 (wr ((σ 16 0 11) + 1))) := by
  refine (Rx_N (k := 8) (pc' := 16) (ls' := [.inr (.inl (16, 0)), .inl s0, u2]) (st' := [.inl s0]) (σ' := (up σ 16 0 11 (wr ((σ 16 0 11) + 1)))) rfl).trans ?_
  generalize s0 = z9
  by_cases e9 : z9 = 100
  · subst e9; exact Rx_N (k := 1) rfl
  by_cases e9 : z9 = 101
  · subst e9; exact Rx_N (k := 1) rfl
  by_cases e9 : z9 = 102
  · subst e9; exact Rx_N (k := 1) rfl
  by_cases e9 : z9 = 103
  · subst e9; exact Rx_N (k := 1) rfl
  by_cases e9 : z9 = 104
  · subst e9; exact Rx_N (k := 1) rfl
  by_cases e9 : z9 = 105
  · subst e9; exact Rx_N (k := 1) rfl
  by_cases e9 : z9 = 106
  · subst e9; exact Rx_N (k := 1) rfl
  by_cases e9 : z9 = 107
  · subst e9; exact Rx_N (k := 1) rfl
  by_cases e9 : z9 = 108
  · subst e9; exact Rx_N (k := 1) rfl
  by_cases e9 : z9 = 109
  · subst e9; exact Rx_N (k := 1) rfl
  by_cases e9 : z9 = 110
  · subst e9; exact Rx_N (k := 1) rfl
  by_cases e9 : z9 = 111
  · subst e9; exact Rx_N (k := 1) rfl
  by_cases e9 : z9 = 112
  · subst e9; exact Rx_N (k := 1) rfl
  by_cases e9 : z9 = 113
  · subst e9; exact Rx_N (k := 1) rfl
  by_cases e9 : z9 = 114
  · subst e9; exact Rx_N (k := 1) rfl
  by_cases e9 : z9 = 115
  · subst e9; exact Rx_N (k := 1) rfl
  by_cases e9 : z9 = 116
  · subst e9; exact Rx_N (k := 1) rfl
  by_cases e9 : z9 = 117
  · subst e9; exact Rx_N (k := 1) rfl
  rw [if_neg (by omega)]; rw [if_neg (by omega)]; rw [if_neg (by omega)]; rw [if_neg (by omega)]; rw [if_neg (by omega)]; rw [if_neg (by omega)]; exact Rx_tout rfl (by omega) rfl
theorem b_X5_readsStatement_4 (u1 : AV) (u2 : AV) (s0 : Int) (σ : St) (g0a : -2147483648 ≤ ((σ 16 0 11) + 1)) (g0b : ((σ 16 0 11) + 1) < 2147483648) : Rx k_X5_readsStatement 4 [.inr (.inl (16, 0)), u1, u2] [.inl s0] σ = if s0 = 100 then Rx k_X5_readsStatement 238 [.inr (.inl (16, 0)), .inl s0, u2] [] (up σ 16 0 11 ((σ 16 0 11) + 1)) else if s0 = 108 then Rx k_X5_readsStatement 174 [.inr (.inl (16, 0)), .inl s0, u2] [] (up σ 16 0 11 ((σ 16 0 11) + 1)) else if s0 = 112 then Rx k_X5_readsStatement 104 [.inr (.inl (16, 0)), .inl s0, u2] [] (up σ 16 0 11 ((σ 16 0 11) + 1)) else if s0 = 115 then Rx k_X5_readsStatement 211 [.inr (.inl (16, 0)), .inl s0, u2] [] (up σ 16 0 11 ((σ 16 0 11) + 1)) else if s0 = 116 then Rx k_X5_readsStatement 138 [.inr (.inl (16, 0)), .inl s0, u2] [] (up σ 16 0 11 ((σ 16 0 11) + 1)) else if s0 = 117 then Rx k_X5_readsStatement 201 [.inr (.inl (16, 0)), .inl s0, u2] [] (up σ 16 0 11 ((σ 16 0 11) + 1)) else Rx k_X5_readsStatement 248 [.inr (.inl (16, 0)), .inl s0, u2] [] (up σ 16 0 11 ((σ 16 0 11) + 1)) := by
  have e0 := wr_id (x := ((σ 16 0 11) + 1)) g0a g0b
  have raw := r_X5_readsStatement_4 u1 u2 s0 σ 
  simp only [e0] at raw
  exact raw
theorem b_X5_readsStatement_104 (x1 : Int) (u2 : AV) (σ : St) : Rx k_X5_readsStatement 104 [.inr (.inl (16, 0)), .inl x1, u2] [] σ = (Rx k_X5_readsKind 0 [.inr (.inl (16, 0))] [] σ).bind fun q => Rx k_X5_readsStatement 108 [.inr (.inl (16, 0)), .inl x1, u2] (q.1.toList ++ []) q.2 := by
  refine (Rx_N (k := 1) (pc' := 105) (ls' := [.inr (.inl (16, 0)), .inl x1, u2]) (st' := [.inr (.inl (16, 0))]) (σ' := σ) rfl).trans ?_
  exact Rx_call (n := 3) (y' := k_X5_readsKind) (as := [.inr (.inl (16, 0))]) (rest := []) rfl rfl rfl
theorem b_X5_readsStatement_108 (x1 : Int) (u2 : AV) (s0 : Int) (σ : St) : Rx k_X5_readsStatement 108 [.inr (.inl (16, 0)), .inl x1, u2] [.inl s0] σ = if s0 = 0 then Rx k_X5_readsStatement 133 [.inr (.inl (16, 0)), .inl x1, u2] [] σ else Rx k_X5_readsStatement 111 [.inr (.inl (16, 0)), .inl x1, u2] [] σ := by
  exact Rx_eq0 (k := 1) rfl
theorem b_X5_readsStatement_111 (x1 : Int) (u2 : AV) (σ : St) : Rx k_X5_readsStatement 111 [.inr (.inl (16, 0)), .inl x1, u2] [] σ = (Rx k_X5_readsNumber 0 [.inr (.inl (16, 0)), .inl 1, .inl 1, uns] [] σ).bind fun q => Rx k_X5_readsStatement 117 [.inr (.inl (16, 0)), .inl x1, u2] (q.1.toList ++ []) q.2 := by
  refine (Rx_N (k := 3) (pc' := 114) (ls' := [.inr (.inl (16, 0)), .inl x1, u2]) (st' := [.inl 1, .inl 1, .inr (.inl (16, 0))]) (σ' := σ) rfl).trans ?_
  exact Rx_call (n := 3) (y' := k_X5_readsNumber) (as := [.inr (.inl (16, 0)), .inl 1, .inl 1]) (rest := []) rfl rfl rfl
theorem b_X5_readsStatement_117 (x1 : Int) (u2 : AV) (s0 : Int) (σ : St) : Rx k_X5_readsStatement 117 [.inr (.inl (16, 0)), .inl x1, u2] [.inl s0] σ = if s0 = 0 then Rx k_X5_readsStatement 133 [.inr (.inl (16, 0)), .inl x1, u2] [] σ else Rx k_X5_readsStatement 120 [.inr (.inl (16, 0)), .inl x1, u2] [] σ := by
  exact Rx_eq0 (k := 1) rfl
theorem b_X5_readsStatement_120 (x1 : Int) (u2 : AV) (σ : St) : Rx k_X5_readsStatement 120 [.inr (.inl (16, 0)), .inl x1, u2] [] σ = (Rx k_X5_readsNumber 0 [.inr (.inl (16, 0)), .inl 2, .inl 2, uns] [] σ).bind fun q => Rx k_X5_readsStatement 126 [.inr (.inl (16, 0)), .inl x1, u2] (q.1.toList ++ []) q.2 := by
  refine (Rx_N (k := 3) (pc' := 123) (ls' := [.inr (.inl (16, 0)), .inl x1, u2]) (st' := [.inl 2, .inl 2, .inr (.inl (16, 0))]) (σ' := σ) rfl).trans ?_
  exact Rx_call (n := 3) (y' := k_X5_readsNumber) (as := [.inr (.inl (16, 0)), .inl 2, .inl 2]) (rest := []) rfl rfl rfl
theorem b_X5_readsStatement_126 (x1 : Int) (u2 : AV) (s0 : Int) (σ : St) : Rx k_X5_readsStatement 126 [.inr (.inl (16, 0)), .inl x1, u2] [.inl s0] σ = if s0 = 0 then Rx k_X5_readsStatement 133 [.inr (.inl (16, 0)), .inl x1, u2] [] σ else Rx k_X5_readsStatement 129 [.inr (.inl (16, 0)), .inl x1, u2] [] σ := by
  exact Rx_eq0 (k := 1) rfl
theorem b_X5_readsStatement_129 (x1 : Int) (u2 : AV) (σ : St) : Rx k_X5_readsStatement 129 [.inr (.inl (16, 0)), .inl x1, u2] [] σ = if (1 : Int) = (0 : Int) then Rx k_X5_readsStatement 273 [.inr (.inl (16, 0)), .inl x1, .inl 1] [] σ else Rx k_X5_readsStatement 264 [.inr (.inl (16, 0)), .inl x1, .inl 1] [] σ := by
  exact Rx_eq0 (k := 6) rfl
theorem b_X5_readsStatement_133 (x1 : Int) (u2 : AV) (σ : St) : Rx k_X5_readsStatement 133 [.inr (.inl (16, 0)), .inl x1, u2] [] σ = if (0 : Int) = (0 : Int) then Rx k_X5_readsStatement 273 [.inr (.inl (16, 0)), .inl x1, .inl 0] [] σ else Rx k_X5_readsStatement 264 [.inr (.inl (16, 0)), .inl x1, .inl 0] [] σ := by
  exact Rx_eq0 (k := 5) rfl
theorem b_X5_readsStatement_138 (x1 : Int) (u2 : AV) (σ : St) : Rx k_X5_readsStatement 138 [.inr (.inl (16, 0)), .inl x1, u2] [] σ = (Rx k_X5_readsNumber 0 [.inr (.inl (16, 0)), .inl 0, .inl 1, uns] [] σ).bind fun q => Rx k_X5_readsStatement 144 [.inr (.inl (16, 0)), .inl x1, u2] (q.1.toList ++ []) q.2 := by
  refine (Rx_N (k := 3) (pc' := 141) (ls' := [.inr (.inl (16, 0)), .inl x1, u2]) (st' := [.inl 1, .inl 0, .inr (.inl (16, 0))]) (σ' := σ) rfl).trans ?_
  exact Rx_call (n := 3) (y' := k_X5_readsNumber) (as := [.inr (.inl (16, 0)), .inl 0, .inl 1]) (rest := []) rfl rfl rfl
theorem b_X5_readsStatement_144 (x1 : Int) (u2 : AV) (s0 : Int) (σ : St) : Rx k_X5_readsStatement 144 [.inr (.inl (16, 0)), .inl x1, u2] [.inl s0] σ = if s0 = 0 then Rx k_X5_readsStatement 169 [.inr (.inl (16, 0)), .inl x1, u2] [] σ else Rx k_X5_readsStatement 147 [.inr (.inl (16, 0)), .inl x1, u2] [] σ := by
  exact Rx_eq0 (k := 1) rfl
theorem b_X5_readsStatement_147 (x1 : Int) (u2 : AV) (σ : St) : Rx k_X5_readsStatement 147 [.inr (.inl (16, 0)), .inl x1, u2] [] σ = (Rx k_X5_readsNumber 0 [.inr (.inl (16, 0)), .inl 1, .inl 2, uns] [] σ).bind fun q => Rx k_X5_readsStatement 153 [.inr (.inl (16, 0)), .inl x1, u2] (q.1.toList ++ []) q.2 := by
  refine (Rx_N (k := 3) (pc' := 150) (ls' := [.inr (.inl (16, 0)), .inl x1, u2]) (st' := [.inl 2, .inl 1, .inr (.inl (16, 0))]) (σ' := σ) rfl).trans ?_
  exact Rx_call (n := 3) (y' := k_X5_readsNumber) (as := [.inr (.inl (16, 0)), .inl 1, .inl 2]) (rest := []) rfl rfl rfl
theorem b_X5_readsStatement_153 (x1 : Int) (u2 : AV) (s0 : Int) (σ : St) : Rx k_X5_readsStatement 153 [.inr (.inl (16, 0)), .inl x1, u2] [.inl s0] σ = if s0 = 0 then Rx k_X5_readsStatement 169 [.inr (.inl (16, 0)), .inl x1, u2] [] σ else Rx k_X5_readsStatement 156 [.inr (.inl (16, 0)), .inl x1, u2] [] σ := by
  exact Rx_eq0 (k := 1) rfl
theorem b_X5_readsStatement_156 (x1 : Int) (u2 : AV) (σ : St) : Rx k_X5_readsStatement 156 [.inr (.inl (16, 0)), .inl x1, u2] [] σ = (Rx k_X5_readsNumber 0 [.inr (.inl (16, 0)), .inl 2, .inl 1, uns] [] σ).bind fun q => Rx k_X5_readsStatement 162 [.inr (.inl (16, 0)), .inl x1, u2] (q.1.toList ++ []) q.2 := by
  refine (Rx_N (k := 3) (pc' := 159) (ls' := [.inr (.inl (16, 0)), .inl x1, u2]) (st' := [.inl 1, .inl 2, .inr (.inl (16, 0))]) (σ' := σ) rfl).trans ?_
  exact Rx_call (n := 3) (y' := k_X5_readsNumber) (as := [.inr (.inl (16, 0)), .inl 2, .inl 1]) (rest := []) rfl rfl rfl
theorem b_X5_readsStatement_162 (x1 : Int) (u2 : AV) (s0 : Int) (σ : St) : Rx k_X5_readsStatement 162 [.inr (.inl (16, 0)), .inl x1, u2] [.inl s0] σ = if s0 = 0 then Rx k_X5_readsStatement 169 [.inr (.inl (16, 0)), .inl x1, u2] [] σ else Rx k_X5_readsStatement 165 [.inr (.inl (16, 0)), .inl x1, u2] [] σ := by
  exact Rx_eq0 (k := 1) rfl
theorem b_X5_readsStatement_165 (x1 : Int) (u2 : AV) (σ : St) : Rx k_X5_readsStatement 165 [.inr (.inl (16, 0)), .inl x1, u2] [] σ = if (1 : Int) = (0 : Int) then Rx k_X5_readsStatement 273 [.inr (.inl (16, 0)), .inl x1, .inl 1] [] σ else Rx k_X5_readsStatement 264 [.inr (.inl (16, 0)), .inl x1, .inl 1] [] σ := by
  exact Rx_eq0 (k := 6) rfl
theorem b_X5_readsStatement_169 (x1 : Int) (u2 : AV) (σ : St) : Rx k_X5_readsStatement 169 [.inr (.inl (16, 0)), .inl x1, u2] [] σ = if (0 : Int) = (0 : Int) then Rx k_X5_readsStatement 273 [.inr (.inl (16, 0)), .inl x1, .inl 0] [] σ else Rx k_X5_readsStatement 264 [.inr (.inl (16, 0)), .inl x1, .inl 0] [] σ := by
  exact Rx_eq0 (k := 5) rfl
theorem b_X5_readsStatement_174 (x1 : Int) (u2 : AV) (σ : St) : Rx k_X5_readsStatement 174 [.inr (.inl (16, 0)), .inl x1, u2] [] σ = (Rx k_X5_readsNumber 0 [.inr (.inl (16, 0)), .inl 0, .inl 1, uns] [] σ).bind fun q => Rx k_X5_readsStatement 180 [.inr (.inl (16, 0)), .inl x1, u2] (q.1.toList ++ []) q.2 := by
  refine (Rx_N (k := 3) (pc' := 177) (ls' := [.inr (.inl (16, 0)), .inl x1, u2]) (st' := [.inl 1, .inl 0, .inr (.inl (16, 0))]) (σ' := σ) rfl).trans ?_
  exact Rx_call (n := 3) (y' := k_X5_readsNumber) (as := [.inr (.inl (16, 0)), .inl 0, .inl 1]) (rest := []) rfl rfl rfl
theorem b_X5_readsStatement_180 (x1 : Int) (u2 : AV) (s0 : Int) (σ : St) : Rx k_X5_readsStatement 180 [.inr (.inl (16, 0)), .inl x1, u2] [.inl s0] σ = if s0 = 0 then Rx k_X5_readsStatement 196 [.inr (.inl (16, 0)), .inl x1, u2] [] σ else Rx k_X5_readsStatement 183 [.inr (.inl (16, 0)), .inl x1, u2] [] σ := by
  exact Rx_eq0 (k := 1) rfl
theorem b_X5_readsStatement_183 (x1 : Int) (u2 : AV) (σ : St) : Rx k_X5_readsStatement 183 [.inr (.inl (16, 0)), .inl x1, u2] [] σ = (Rx k_X5_readsNumber 0 [.inr (.inl (16, 0)), .inl 1, .inl 1, uns] [] σ).bind fun q => Rx k_X5_readsStatement 189 [.inr (.inl (16, 0)), .inl x1, u2] (q.1.toList ++ []) q.2 := by
  refine (Rx_N (k := 3) (pc' := 186) (ls' := [.inr (.inl (16, 0)), .inl x1, u2]) (st' := [.inl 1, .inl 1, .inr (.inl (16, 0))]) (σ' := σ) rfl).trans ?_
  exact Rx_call (n := 3) (y' := k_X5_readsNumber) (as := [.inr (.inl (16, 0)), .inl 1, .inl 1]) (rest := []) rfl rfl rfl
theorem b_X5_readsStatement_189 (x1 : Int) (u2 : AV) (s0 : Int) (σ : St) : Rx k_X5_readsStatement 189 [.inr (.inl (16, 0)), .inl x1, u2] [.inl s0] σ = if s0 = 0 then Rx k_X5_readsStatement 196 [.inr (.inl (16, 0)), .inl x1, u2] [] σ else Rx k_X5_readsStatement 192 [.inr (.inl (16, 0)), .inl x1, u2] [] σ := by
  exact Rx_eq0 (k := 1) rfl
theorem b_X5_readsStatement_192 (x1 : Int) (u2 : AV) (σ : St) : Rx k_X5_readsStatement 192 [.inr (.inl (16, 0)), .inl x1, u2] [] σ = if (1 : Int) = (0 : Int) then Rx k_X5_readsStatement 273 [.inr (.inl (16, 0)), .inl x1, .inl 1] [] σ else Rx k_X5_readsStatement 264 [.inr (.inl (16, 0)), .inl x1, .inl 1] [] σ := by
  exact Rx_eq0 (k := 6) rfl
theorem b_X5_readsStatement_196 (x1 : Int) (u2 : AV) (σ : St) : Rx k_X5_readsStatement 196 [.inr (.inl (16, 0)), .inl x1, u2] [] σ = if (0 : Int) = (0 : Int) then Rx k_X5_readsStatement 273 [.inr (.inl (16, 0)), .inl x1, .inl 0] [] σ else Rx k_X5_readsStatement 264 [.inr (.inl (16, 0)), .inl x1, .inl 0] [] σ := by
  exact Rx_eq0 (k := 5) rfl
theorem b_X5_readsStatement_201 (x1 : Int) (u2 : AV) (σ : St) : Rx k_X5_readsStatement 201 [.inr (.inl (16, 0)), .inl x1, u2] [] σ = (Rx k_X5_readsNumber 0 [.inr (.inl (16, 0)), .inl 0, .inl 1, uns] [] σ).bind fun q => Rx k_X5_readsStatement 207 [.inr (.inl (16, 0)), .inl x1, u2] (q.1.toList ++ []) q.2 := by
  refine (Rx_N (k := 3) (pc' := 204) (ls' := [.inr (.inl (16, 0)), .inl x1, u2]) (st' := [.inl 1, .inl 0, .inr (.inl (16, 0))]) (σ' := σ) rfl).trans ?_
  exact Rx_call (n := 3) (y' := k_X5_readsNumber) (as := [.inr (.inl (16, 0)), .inl 0, .inl 1]) (rest := []) rfl rfl rfl
theorem b_X5_readsStatement_207 (x1 : Int) (u2 : AV) (s0 : Int) (σ : St) : Rx k_X5_readsStatement 207 [.inr (.inl (16, 0)), .inl x1, u2] [.inl s0] σ = if s0 = 0 then Rx k_X5_readsStatement 273 [.inr (.inl (16, 0)), .inl x1, .inl s0] [] σ else Rx k_X5_readsStatement 264 [.inr (.inl (16, 0)), .inl x1, .inl s0] [] σ := by
  exact Rx_eq0 (k := 4) rfl
theorem b_X5_readsStatement_211 (x1 : Int) (u2 : AV) (σ : St) : Rx k_X5_readsStatement 211 [.inr (.inl (16, 0)), .inl x1, u2] [] σ = (Rx k_X5_readsNumber 0 [.inr (.inl (16, 0)), .inl 0, .inl 1, uns] [] σ).bind fun q => Rx k_X5_readsStatement 217 [.inr (.inl (16, 0)), .inl x1, u2] (q.1.toList ++ []) q.2 := by
  refine (Rx_N (k := 3) (pc' := 214) (ls' := [.inr (.inl (16, 0)), .inl x1, u2]) (st' := [.inl 1, .inl 0, .inr (.inl (16, 0))]) (σ' := σ) rfl).trans ?_
  exact Rx_call (n := 3) (y' := k_X5_readsNumber) (as := [.inr (.inl (16, 0)), .inl 0, .inl 1]) (rest := []) rfl rfl rfl
theorem b_X5_readsStatement_217 (x1 : Int) (u2 : AV) (s0 : Int) (σ : St) : Rx k_X5_readsStatement 217 [.inr (.inl (16, 0)), .inl x1, u2] [.inl s0] σ = if s0 = 0 then Rx k_X5_readsStatement 233 [.inr (.inl (16, 0)), .inl x1, u2] [] σ else Rx k_X5_readsStatement 220 [.inr (.inl (16, 0)), .inl x1, u2] [] σ := by
  exact Rx_eq0 (k := 1) rfl
theorem b_X5_readsStatement_220 (x1 : Int) (u2 : AV) (σ : St) : Rx k_X5_readsStatement 220 [.inr (.inl (16, 0)), .inl x1, u2] [] σ = (Rx k_X5_readsNumber 0 [.inr (.inl (16, 0)), .inl 1, .inl 2, uns] [] σ).bind fun q => Rx k_X5_readsStatement 226 [.inr (.inl (16, 0)), .inl x1, u2] (q.1.toList ++ []) q.2 := by
  refine (Rx_N (k := 3) (pc' := 223) (ls' := [.inr (.inl (16, 0)), .inl x1, u2]) (st' := [.inl 2, .inl 1, .inr (.inl (16, 0))]) (σ' := σ) rfl).trans ?_
  exact Rx_call (n := 3) (y' := k_X5_readsNumber) (as := [.inr (.inl (16, 0)), .inl 1, .inl 2]) (rest := []) rfl rfl rfl
theorem b_X5_readsStatement_226 (x1 : Int) (u2 : AV) (s0 : Int) (σ : St) : Rx k_X5_readsStatement 226 [.inr (.inl (16, 0)), .inl x1, u2] [.inl s0] σ = if s0 = 0 then Rx k_X5_readsStatement 233 [.inr (.inl (16, 0)), .inl x1, u2] [] σ else Rx k_X5_readsStatement 229 [.inr (.inl (16, 0)), .inl x1, u2] [] σ := by
  exact Rx_eq0 (k := 1) rfl
theorem b_X5_readsStatement_229 (x1 : Int) (u2 : AV) (σ : St) : Rx k_X5_readsStatement 229 [.inr (.inl (16, 0)), .inl x1, u2] [] σ = if (1 : Int) = (0 : Int) then Rx k_X5_readsStatement 273 [.inr (.inl (16, 0)), .inl x1, .inl 1] [] σ else Rx k_X5_readsStatement 264 [.inr (.inl (16, 0)), .inl x1, .inl 1] [] σ := by
  exact Rx_eq0 (k := 6) rfl
theorem b_X5_readsStatement_233 (x1 : Int) (u2 : AV) (σ : St) : Rx k_X5_readsStatement 233 [.inr (.inl (16, 0)), .inl x1, u2] [] σ = if (0 : Int) = (0 : Int) then Rx k_X5_readsStatement 273 [.inr (.inl (16, 0)), .inl x1, .inl 0] [] σ else Rx k_X5_readsStatement 264 [.inr (.inl (16, 0)), .inl x1, .inl 0] [] σ := by
  exact Rx_eq0 (k := 5) rfl
theorem b_X5_readsStatement_238 (x1 : Int) (u2 : AV) (σ : St) : Rx k_X5_readsStatement 238 [.inr (.inl (16, 0)), .inl x1, u2] [] σ = (Rx k_X5_readsNumber 0 [.inr (.inl (16, 0)), .inl 0, .inl 2, uns] [] σ).bind fun q => Rx k_X5_readsStatement 244 [.inr (.inl (16, 0)), .inl x1, u2] (q.1.toList ++ []) q.2 := by
  refine (Rx_N (k := 3) (pc' := 241) (ls' := [.inr (.inl (16, 0)), .inl x1, u2]) (st' := [.inl 2, .inl 0, .inr (.inl (16, 0))]) (σ' := σ) rfl).trans ?_
  exact Rx_call (n := 3) (y' := k_X5_readsNumber) (as := [.inr (.inl (16, 0)), .inl 0, .inl 2]) (rest := []) rfl rfl rfl
theorem b_X5_readsStatement_244 (x1 : Int) (u2 : AV) (s0 : Int) (σ : St) : Rx k_X5_readsStatement 244 [.inr (.inl (16, 0)), .inl x1, u2] [.inl s0] σ = if s0 = 0 then Rx k_X5_readsStatement 273 [.inr (.inl (16, 0)), .inl x1, .inl s0] [] σ else Rx k_X5_readsStatement 264 [.inr (.inl (16, 0)), .inl x1, .inl s0] [] σ := by
  exact Rx_eq0 (k := 4) rfl
theorem r_X5_readsStatement_248 (x1 : Int) (u2 : AV) (σ : St) : Rx k_X5_readsStatement 248 [.inr (.inl (16, 0)), .inl x1, u2] [] σ = some (some (.inl 0), (up σ 16 0 11 (wr ((σ 16 0 11) - 1)))) := by
  refine (Rx_N (k := 7) (pc' := 259) (ls' := [.inr (.inl (16, 0)), .inl x1, u2]) (st' := [.inl 0]) (σ' := (up σ 16 0 11 (wr ((σ 16 0 11) - 1)))) rfl).trans ?_
  exact Rx_ret rfl rfl
theorem b_X5_readsStatement_248 (x1 : Int) (u2 : AV) (σ : St) (g0a : -2147483648 ≤ ((σ 16 0 11) - 1)) (g0b : ((σ 16 0 11) - 1) < 2147483648) : Rx k_X5_readsStatement 248 [.inr (.inl (16, 0)), .inl x1, u2] [] σ = some (some (.inl 0), (up σ 16 0 11 ((σ 16 0 11) - 1))) := by
  have e0 := wr_id (x := ((σ 16 0 11) - 1)) g0a g0b
  have raw := r_X5_readsStatement_248 x1 u2 σ 
  simp only [e0] at raw
  exact raw
theorem b_X5_readsStatement_264 (x1 : Int) (x2 : Int) (σ : St) : Rx k_X5_readsStatement 264 [.inr (.inl (16, 0)), .inl x1, .inl x2] [] σ = (Rx k_X5_here 0 [.inr (.inl (16, 0))] [] σ).bind fun q => Rx k_X5_readsStatement 268 [.inr (.inl (16, 0)), .inl x1, .inl x2] (q.1.toList ++ []) q.2 := by
  refine (Rx_N (k := 1) (pc' := 265) (ls' := [.inr (.inl (16, 0)), .inl x1, .inl x2]) (st' := [.inr (.inl (16, 0))]) (σ' := σ) rfl).trans ?_
  exact Rx_call (n := 3) (y' := k_X5_here) (as := [.inr (.inl (16, 0))]) (rest := []) rfl rfl rfl
theorem b_X5_readsStatement_268 (x1 : Int) (x2 : Int) (s0 : Int) (σ : St) : Rx k_X5_readsStatement 268 [.inr (.inl (16, 0)), .inl x1, .inl x2] [.inl s0] σ = if s0 = 59 then Rx k_X5_readsStatement 275 [.inr (.inl (16, 0)), .inl x1, .inl x2] [] σ else Rx k_X5_readsStatement 273 [.inr (.inl (16, 0)), .inl x1, .inl x2] [] σ := by
  exact Rx_eq0 (k := 2) rfl
theorem b_X5_readsStatement_273 (x1 : Int) (x2 : Int) (σ : St) : Rx k_X5_readsStatement 273 [.inr (.inl (16, 0)), .inl x1, .inl x2] [] σ = some (some (.inl 0), σ) := by
  refine (Rx_N (k := 1) (pc' := 274) (ls' := [.inr (.inl (16, 0)), .inl x1, .inl x2]) (st' := [.inl 0]) (σ' := σ) rfl).trans ?_
  exact Rx_ret rfl rfl
theorem r_X5_readsStatement_275 (x1 : Int) (x2 : Int) (σ : St) : Rx k_X5_readsStatement 275 [.inr (.inl (16, 0)), .inl x1, .inl x2] [] σ = some (some (.inl 1), (up σ 16 0 11 (wr ((σ 16 0 11) + 1)))) := by
  refine (Rx_N (k := 7) (pc' := 286) (ls' := [.inr (.inl (16, 0)), .inl x1, .inl x2]) (st' := [.inl 1]) (σ' := (up σ 16 0 11 (wr ((σ 16 0 11) + 1)))) rfl).trans ?_
  exact Rx_ret rfl rfl
theorem b_X5_readsStatement_275 (x1 : Int) (x2 : Int) (σ : St) (g0a : -2147483648 ≤ ((σ 16 0 11) + 1)) (g0b : ((σ 16 0 11) + 1) < 2147483648) : Rx k_X5_readsStatement 275 [.inr (.inl (16, 0)), .inl x1, .inl x2] [] σ = some (some (.inl 1), (up σ 16 0 11 ((σ 16 0 11) + 1))) := by
  have e0 := wr_id (x := ((σ 16 0 11) + 1)) g0a g0b
  have raw := r_X5_readsStatement_275 x1 x2 σ 
  simp only [e0] at raw
  exact raw
theorem b_X5_addsPurpose_0 (x1 : Int) (x2 : Int) (x3 : Int) (u4 : AV) (σ : St) : Rx k_X5_addsPurpose 0 [.inr (.inl (16, 0)), .inl x1, .inl x2, .inl x3, u4] [] σ = if (σ 17 0 0) = 5 then Rx k_X5_addsPurpose 10 [.inr (.inl (16, 0)), .inl x1, .inl x2, .inl x3, u4] [] σ else Rx k_X5_addsPurpose 12 [.inr (.inl (16, 0)), .inl x1, .inl x2, .inl x3, u4] [] σ := by
  exact Rx_ne0 (k := 6) rfl
theorem b_X5_addsPurpose_10 (x1 : Int) (x2 : Int) (x3 : Int) (u4 : AV) (σ : St) : Rx k_X5_addsPurpose 10 [.inr (.inl (16, 0)), .inl x1, .inl x2, .inl x3, u4] [] σ = some (some (.inl 0), σ) := by
  refine (Rx_N (k := 1) (pc' := 11) (ls' := [.inr (.inl (16, 0)), .inl x1, .inl x2, .inl x3, u4]) (st' := [.inl 0]) (σ' := σ) rfl).trans ?_
  exact Rx_ret rfl rfl
theorem b_X5_addsPurpose_12 (x1 : Int) (x2 : Int) (x3 : Int) (u4 : AV) (σ : St) : Rx k_X5_addsPurpose 12 [.inr (.inl (16, 0)), .inl x1, .inl x2, .inl x3, u4] [] σ = (Rx k_X5_ofP 0 [.inl (σ 17 0 0)] [] σ).bind fun q => Rx k_X5_addsPurpose 21 [.inr (.inl (16, 0)), .inl x1, .inl x2, .inl x3, u4] (q.1.toList ++ []) q.2 := by
  refine (Rx_N (k := 4) (pc' := 18) (ls' := [.inr (.inl (16, 0)), .inl x1, .inl x2, .inl x3, u4]) (st' := [.inl (σ 17 0 0)]) (σ' := σ) rfl).trans ?_
  exact Rx_call (n := 3) (y' := k_X5_ofP) (as := [.inl (σ 17 0 0)]) (rest := []) rfl rfl rfl
theorem r_X5_addsPurpose_21 (x1 : Int) (x2 : Int) (x3 : Int) (u4 : AV) (s0 : Int) (σ : St) (h0 : 0 ≤ (wr (s0 + 0))) (h1 : (wr (s0 + 0)) < 58) (h2 : 0 ≤ (wr (s0 + 1))) (h3 : (wr (s0 + 1)) < 58) (h4 : 0 ≤ (wr (s0 + 2))) (h5 : (wr (s0 + 2)) < 58) : Rx k_X5_addsPurpose 21 [.inr (.inl (16, 0)), .inl x1, .inl x2, .inl x3, u4] [.inl s0] σ = some (some (.inl 1), (up (up (up (up σ 17 0 ((wr (s0 + 0)).toNat) x1) 17 0 ((wr (s0 + 1)).toNat) x2) 17 0 ((wr (s0 + 2)).toNat) x3) 17 0 0 (wr (((up (up (up σ 17 0 ((wr (s0 + 0)).toNat) x1) 17 0 ((wr (s0 + 1)).toNat) x2) 17 0 ((wr (s0 + 2)).toNat) x3) 17 0 0) + 1)))) := by
  refine (Rx_N (k := 7) (pc' := 32) (ls' := [.inr (.inl (16, 0)), .inl x1, .inl x2, .inl x3, .inl s0]) (st' := [.inl x1, .inl (wr (s0 + 0)), .inr (.inl (17, 0))]) (σ' := σ) rfl).trans ?_
  refine (Rx_ist 58 rfl rfl h0 h1).trans ?_
  refine (Rx_N (k := 6) (pc' := 42) (ls' := [.inr (.inl (16, 0)), .inl x1, .inl x2, .inl x3, .inl s0]) (st' := [.inl x2, .inl (wr (s0 + 1)), .inr (.inl (17, 0))]) (σ' := (up σ 17 0 ((wr (s0 + 0)).toNat) x1)) rfl).trans ?_
  refine (Rx_ist 58 rfl rfl h2 h3).trans ?_
  refine (Rx_N (k := 6) (pc' := 52) (ls' := [.inr (.inl (16, 0)), .inl x1, .inl x2, .inl x3, .inl s0]) (st' := [.inl x3, .inl (wr (s0 + 2)), .inr (.inl (17, 0))]) (σ' := (up (up σ 17 0 ((wr (s0 + 0)).toNat) x1) 17 0 ((wr (s0 + 1)).toNat) x2)) rfl).trans ?_
  refine (Rx_ist 58 rfl rfl h4 h5).trans ?_
  refine (Rx_N (k := 9) (pc' := 64) (ls' := [.inr (.inl (16, 0)), .inl x1, .inl x2, .inl x3, .inl s0]) (st' := [.inl 1]) (σ' := (up (up (up (up σ 17 0 ((wr (s0 + 0)).toNat) x1) 17 0 ((wr (s0 + 1)).toNat) x2) 17 0 ((wr (s0 + 2)).toNat) x3) 17 0 0 (wr (((up (up (up σ 17 0 ((wr (s0 + 0)).toNat) x1) 17 0 ((wr (s0 + 1)).toNat) x2) 17 0 ((wr (s0 + 2)).toNat) x3) 17 0 0) + 1)))) rfl).trans ?_
  exact Rx_ret rfl rfl
theorem b_X5_addsPurpose_21 (x1 : Int) (x2 : Int) (x3 : Int) (u4 : AV) (s0 : Int) (σ : St) (h0 : 0 ≤ (s0 + 0)) (h1 : (s0 + 0) < 58) (h2 : 0 ≤ (s0 + 1)) (h3 : (s0 + 1) < 58) (h4 : 0 ≤ (s0 + 2)) (h5 : (s0 + 2) < 58) (g0a : -2147483648 ≤ (s0 + 0)) (g0b : (s0 + 0) < 2147483648) (g1a : -2147483648 ≤ (s0 + 1)) (g1b : (s0 + 1) < 2147483648) (g2a : -2147483648 ≤ (s0 + 2)) (g2b : (s0 + 2) < 2147483648) (g3a : -2147483648 ≤ (((up (up (up σ 17 0 (((s0 + 0)).toNat) x1) 17 0 (((s0 + 1)).toNat) x2) 17 0 (((s0 + 2)).toNat) x3) 17 0 0) + 1)) (g3b : (((up (up (up σ 17 0 (((s0 + 0)).toNat) x1) 17 0 (((s0 + 1)).toNat) x2) 17 0 (((s0 + 2)).toNat) x3) 17 0 0) + 1) < 2147483648) : Rx k_X5_addsPurpose 21 [.inr (.inl (16, 0)), .inl x1, .inl x2, .inl x3, u4] [.inl s0] σ = some (some (.inl 1), (up (up (up (up σ 17 0 (((s0 + 0)).toNat) x1) 17 0 (((s0 + 1)).toNat) x2) 17 0 (((s0 + 2)).toNat) x3) 17 0 0 (((up (up (up σ 17 0 (((s0 + 0)).toNat) x1) 17 0 (((s0 + 1)).toNat) x2) 17 0 (((s0 + 2)).toNat) x3) 17 0 0) + 1))) := by
  have e0 := wr_id (x := (s0 + 0)) g0a g0b
  have e1 := wr_id (x := (s0 + 1)) g1a g1b
  have e2 := wr_id (x := (s0 + 2)) g2a g2b
  have e3 := wr_id (x := (((up (up (up σ 17 0 (((s0 + 0)).toNat) x1) 17 0 (((s0 + 1)).toNat) x2) 17 0 (((s0 + 2)).toNat) x3) 17 0 0) + 1)) g3a g3b
  have raw := r_X5_addsPurpose_21 x1 x2 x3 u4 s0 σ (by simp only [e0, e1, e2, e3]; exact h0) (by simp only [e0, e1, e2, e3]; exact h1) (by simp only [e0, e1, e2, e3]; exact h2) (by simp only [e0, e1, e2, e3]; exact h3) (by simp only [e0, e1, e2, e3]; exact h4) (by simp only [e0, e1, e2, e3]; exact h5)
  simp only [e0, e1, e2, e3] at raw
  exact raw
theorem b_X5_addsThing_0 (x1 : Int) (x2 : Int) (x3 : Int) (u4 : AV) (σ : St) : Rx k_X5_addsThing 0 [.inr (.inl (16, 0)), .inl x1, .inl x2, .inl x3, u4] [] σ = if x1 < 1 then Rx k_X5_addsThing 42 [.inr (.inl (16, 0)), .inl x1, .inl x2, .inl x3, u4] [] σ else Rx k_X5_addsThing 5 [.inr (.inl (16, 0)), .inl x1, .inl x2, .inl x3, u4] [] σ := by
  exact Rx_lt0 (k := 3) rfl
theorem b_X5_addsThing_5 (x1 : Int) (x2 : Int) (x3 : Int) (u4 : AV) (σ : St) : Rx k_X5_addsThing 5 [.inr (.inl (16, 0)), .inl x1, .inl x2, .inl x3, u4] [] σ = (Rx k_X5_isPlace 0 [.inl x2] [] σ).bind fun q => Rx k_X5_addsThing 9 [.inr (.inl (16, 0)), .inl x1, .inl x2, .inl x3, u4] (q.1.toList ++ []) q.2 := by
  refine (Rx_N (k := 1) (pc' := 6) (ls' := [.inr (.inl (16, 0)), .inl x1, .inl x2, .inl x3, u4]) (st' := [.inl x2]) (σ' := σ) rfl).trans ?_
  exact Rx_call (n := 3) (y' := k_X5_isPlace) (as := [.inl x2]) (rest := []) rfl rfl rfl
theorem b_X5_addsThing_9 (x1 : Int) (x2 : Int) (x3 : Int) (u4 : AV) (s0 : Int) (σ : St) : Rx k_X5_addsThing 9 [.inr (.inl (16, 0)), .inl x1, .inl x2, .inl x3, u4] [.inl s0] σ = if s0 = 0 then Rx k_X5_addsThing 42 [.inr (.inl (16, 0)), .inl x1, .inl x2, .inl x3, u4] [] σ else Rx k_X5_addsThing 12 [.inr (.inl (16, 0)), .inl x1, .inl x2, .inl x3, u4] [] σ := by
  exact Rx_eq0 (k := 1) rfl
theorem b_X5_addsThing_12 (x1 : Int) (x2 : Int) (x3 : Int) (u4 : AV) (σ : St) : Rx k_X5_addsThing 12 [.inr (.inl (16, 0)), .inl x1, .inl x2, .inl x3, u4] [] σ = (Rx k_X5_whoAt 0 [.inr (.inl (17, 0)), .inl x2, uns] [] σ).bind fun q => Rx k_X5_addsThing 20 [.inr (.inl (16, 0)), .inl x1, .inl x2, .inl x3, u4] (q.1.toList ++ []) q.2 := by
  refine (Rx_N (k := 3) (pc' := 17) (ls' := [.inr (.inl (16, 0)), .inl x1, .inl x2, .inl x3, u4]) (st' := [.inl x2, .inr (.inl (17, 0))]) (σ' := σ) rfl).trans ?_
  exact Rx_call (n := 3) (y' := k_X5_whoAt) (as := [.inr (.inl (17, 0)), .inl x2]) (rest := []) rfl rfl rfl
theorem b_X5_addsThing_20 (x1 : Int) (x2 : Int) (x3 : Int) (u4 : AV) (s0 : Int) (σ : St) : Rx k_X5_addsThing 20 [.inr (.inl (16, 0)), .inl x1, .inl x2, .inl x3, u4] [.inl s0] σ = if s0 < 0 then Rx k_X5_addsThing 23 [.inr (.inl (16, 0)), .inl x1, .inl x2, .inl x3, u4] [] σ else Rx k_X5_addsThing 42 [.inr (.inl (16, 0)), .inl x1, .inl x2, .inl x3, u4] [] σ := by
  exact Rx_ge0 (k := 1) rfl
theorem b_X5_addsThing_23 (x1 : Int) (x2 : Int) (x3 : Int) (u4 : AV) (σ : St) : Rx k_X5_addsThing 23 [.inr (.inl (16, 0)), .inl x1, .inl x2, .inl x3, u4] [] σ = (Rx k_X5_isPurpose 0 [.inr (.inl (16, 0)), .inl x3] [] σ).bind fun q => Rx k_X5_addsThing 28 [.inr (.inl (16, 0)), .inl x1, .inl x2, .inl x3, u4] (q.1.toList ++ []) q.2 := by
  refine (Rx_N (k := 2) (pc' := 25) (ls' := [.inr (.inl (16, 0)), .inl x1, .inl x2, .inl x3, u4]) (st' := [.inl x3, .inr (.inl (16, 0))]) (σ' := σ) rfl).trans ?_
  exact Rx_call (n := 3) (y' := k_X5_isPurpose) (as := [.inr (.inl (16, 0)), .inl x3]) (rest := []) rfl rfl rfl
theorem b_X5_addsThing_28 (x1 : Int) (x2 : Int) (x3 : Int) (u4 : AV) (s0 : Int) (σ : St) : Rx k_X5_addsThing 28 [.inr (.inl (16, 0)), .inl x1, .inl x2, .inl x3, u4] [.inl s0] σ = if s0 = 0 then Rx k_X5_addsThing 42 [.inr (.inl (16, 0)), .inl x1, .inl x2, .inl x3, u4] [] σ else Rx k_X5_addsThing 31 [.inr (.inl (16, 0)), .inl x1, .inl x2, .inl x3, u4] [] σ := by
  exact Rx_eq0 (k := 1) rfl
theorem b_X5_addsThing_31 (x1 : Int) (x2 : Int) (x3 : Int) (u4 : AV) (σ : St) : Rx k_X5_addsThing 31 [.inr (.inl (16, 0)), .inl x1, .inl x2, .inl x3, u4] [] σ = if (σ 17 0 1) = 10 then Rx k_X5_addsThing 42 [.inr (.inl (16, 0)), .inl x1, .inl x2, .inl x3, u4] [] σ else Rx k_X5_addsThing 44 [.inr (.inl (16, 0)), .inl x1, .inl x2, .inl x3, u4] [] σ := by
  exact Rx_ne0 (k := 6) rfl
theorem b_X5_addsThing_42 (x1 : Int) (x2 : Int) (x3 : Int) (u4 : AV) (σ : St) : Rx k_X5_addsThing 42 [.inr (.inl (16, 0)), .inl x1, .inl x2, .inl x3, u4] [] σ = some (some (.inl 0), σ) := by
  refine (Rx_N (k := 1) (pc' := 43) (ls' := [.inr (.inl (16, 0)), .inl x1, .inl x2, .inl x3, u4]) (st' := [.inl 0]) (σ' := σ) rfl).trans ?_
  exact Rx_ret rfl rfl
theorem b_X5_addsThing_44 (x1 : Int) (x2 : Int) (x3 : Int) (u4 : AV) (σ : St) : Rx k_X5_addsThing 44 [.inr (.inl (16, 0)), .inl x1, .inl x2, .inl x3, u4] [] σ = (Rx k_X5_ofT 0 [.inl (σ 17 0 1)] [] σ).bind fun q => Rx k_X5_addsThing 53 [.inr (.inl (16, 0)), .inl x1, .inl x2, .inl x3, u4] (q.1.toList ++ []) q.2 := by
  refine (Rx_N (k := 4) (pc' := 50) (ls' := [.inr (.inl (16, 0)), .inl x1, .inl x2, .inl x3, u4]) (st' := [.inl (σ 17 0 1)]) (σ' := σ) rfl).trans ?_
  exact Rx_call (n := 3) (y' := k_X5_ofT) (as := [.inl (σ 17 0 1)]) (rest := []) rfl rfl rfl
theorem r_X5_addsThing_53 (x1 : Int) (x2 : Int) (x3 : Int) (u4 : AV) (s0 : Int) (σ : St) (h0 : 0 ≤ (wr (s0 + 0))) (h1 : (wr (s0 + 0)) < 58) (h2 : 0 ≤ (wr (s0 + 1))) (h3 : (wr (s0 + 1)) < 58) (h4 : 0 ≤ (wr (s0 + 2))) (h5 : (wr (s0 + 2)) < 58) (h6 : 0 ≤ (wr (s0 + 3))) (h7 : (wr (s0 + 3)) < 58) : Rx k_X5_addsThing 53 [.inr (.inl (16, 0)), .inl x1, .inl x2, .inl x3, u4] [.inl s0] σ = some (some (.inl 1), (up (up (up (up (up σ 17 0 ((wr (s0 + 0)).toNat) x1) 17 0 ((wr (s0 + 1)).toNat) x2) 17 0 ((wr (s0 + 2)).toNat) x3) 17 0 ((wr (s0 + 3)).toNat) 1) 17 0 1 (wr (((up (up (up (up σ 17 0 ((wr (s0 + 0)).toNat) x1) 17 0 ((wr (s0 + 1)).toNat) x2) 17 0 ((wr (s0 + 2)).toNat) x3) 17 0 ((wr (s0 + 3)).toNat) 1) 17 0 1) + 1)))) := by
  refine (Rx_N (k := 7) (pc' := 64) (ls' := [.inr (.inl (16, 0)), .inl x1, .inl x2, .inl x3, .inl s0]) (st' := [.inl x1, .inl (wr (s0 + 0)), .inr (.inl (17, 0))]) (σ' := σ) rfl).trans ?_
  refine (Rx_ist 58 rfl rfl h0 h1).trans ?_
  refine (Rx_N (k := 6) (pc' := 74) (ls' := [.inr (.inl (16, 0)), .inl x1, .inl x2, .inl x3, .inl s0]) (st' := [.inl x2, .inl (wr (s0 + 1)), .inr (.inl (17, 0))]) (σ' := (up σ 17 0 ((wr (s0 + 0)).toNat) x1)) rfl).trans ?_
  refine (Rx_ist 58 rfl rfl h2 h3).trans ?_
  refine (Rx_N (k := 6) (pc' := 84) (ls' := [.inr (.inl (16, 0)), .inl x1, .inl x2, .inl x3, .inl s0]) (st' := [.inl x3, .inl (wr (s0 + 2)), .inr (.inl (17, 0))]) (σ' := (up (up σ 17 0 ((wr (s0 + 0)).toNat) x1) 17 0 ((wr (s0 + 1)).toNat) x2)) rfl).trans ?_
  refine (Rx_ist 58 rfl rfl h4 h5).trans ?_
  refine (Rx_N (k := 6) (pc' := 94) (ls' := [.inr (.inl (16, 0)), .inl x1, .inl x2, .inl x3, .inl s0]) (st' := [.inl 1, .inl (wr (s0 + 3)), .inr (.inl (17, 0))]) (σ' := (up (up (up σ 17 0 ((wr (s0 + 0)).toNat) x1) 17 0 ((wr (s0 + 1)).toNat) x2) 17 0 ((wr (s0 + 2)).toNat) x3)) rfl).trans ?_
  refine (Rx_ist 58 rfl rfl h6 h7).trans ?_
  refine (Rx_N (k := 9) (pc' := 106) (ls' := [.inr (.inl (16, 0)), .inl x1, .inl x2, .inl x3, .inl s0]) (st' := [.inl 1]) (σ' := (up (up (up (up (up σ 17 0 ((wr (s0 + 0)).toNat) x1) 17 0 ((wr (s0 + 1)).toNat) x2) 17 0 ((wr (s0 + 2)).toNat) x3) 17 0 ((wr (s0 + 3)).toNat) 1) 17 0 1 (wr (((up (up (up (up σ 17 0 ((wr (s0 + 0)).toNat) x1) 17 0 ((wr (s0 + 1)).toNat) x2) 17 0 ((wr (s0 + 2)).toNat) x3) 17 0 ((wr (s0 + 3)).toNat) 1) 17 0 1) + 1)))) rfl).trans ?_
  exact Rx_ret rfl rfl
theorem b_X5_addsThing_53 (x1 : Int) (x2 : Int) (x3 : Int) (u4 : AV) (s0 : Int) (σ : St) (h0 : 0 ≤ (s0 + 0)) (h1 : (s0 + 0) < 58) (h2 : 0 ≤ (s0 + 1)) (h3 : (s0 + 1) < 58) (h4 : 0 ≤ (s0 + 2)) (h5 : (s0 + 2) < 58) (h6 : 0 ≤ (s0 + 3)) (h7 : (s0 + 3) < 58) (g0a : -2147483648 ≤ (s0 + 0)) (g0b : (s0 + 0) < 2147483648) (g1a : -2147483648 ≤ (s0 + 1)) (g1b : (s0 + 1) < 2147483648) (g2a : -2147483648 ≤ (s0 + 2)) (g2b : (s0 + 2) < 2147483648) (g3a : -2147483648 ≤ (s0 + 3)) (g3b : (s0 + 3) < 2147483648) (g4a : -2147483648 ≤ (((up (up (up (up σ 17 0 (((s0 + 0)).toNat) x1) 17 0 (((s0 + 1)).toNat) x2) 17 0 (((s0 + 2)).toNat) x3) 17 0 (((s0 + 3)).toNat) 1) 17 0 1) + 1)) (g4b : (((up (up (up (up σ 17 0 (((s0 + 0)).toNat) x1) 17 0 (((s0 + 1)).toNat) x2) 17 0 (((s0 + 2)).toNat) x3) 17 0 (((s0 + 3)).toNat) 1) 17 0 1) + 1) < 2147483648) : Rx k_X5_addsThing 53 [.inr (.inl (16, 0)), .inl x1, .inl x2, .inl x3, u4] [.inl s0] σ = some (some (.inl 1), (up (up (up (up (up σ 17 0 (((s0 + 0)).toNat) x1) 17 0 (((s0 + 1)).toNat) x2) 17 0 (((s0 + 2)).toNat) x3) 17 0 (((s0 + 3)).toNat) 1) 17 0 1 (((up (up (up (up σ 17 0 (((s0 + 0)).toNat) x1) 17 0 (((s0 + 1)).toNat) x2) 17 0 (((s0 + 2)).toNat) x3) 17 0 (((s0 + 3)).toNat) 1) 17 0 1) + 1))) := by
  have e0 := wr_id (x := (s0 + 0)) g0a g0b
  have e1 := wr_id (x := (s0 + 1)) g1a g1b
  have e2 := wr_id (x := (s0 + 2)) g2a g2b
  have e3 := wr_id (x := (s0 + 3)) g3a g3b
  have e4 := wr_id (x := (((up (up (up (up σ 17 0 (((s0 + 0)).toNat) x1) 17 0 (((s0 + 1)).toNat) x2) 17 0 (((s0 + 2)).toNat) x3) 17 0 (((s0 + 3)).toNat) 1) 17 0 1) + 1)) g4a g4b
  have raw := r_X5_addsThing_53 x1 x2 x3 u4 s0 σ (by simp only [e0, e1, e2, e3, e4]; exact h0) (by simp only [e0, e1, e2, e3, e4]; exact h1) (by simp only [e0, e1, e2, e3, e4]; exact h2) (by simp only [e0, e1, e2, e3, e4]; exact h3) (by simp only [e0, e1, e2, e3, e4]; exact h4) (by simp only [e0, e1, e2, e3, e4]; exact h5) (by simp only [e0, e1, e2, e3, e4]; exact h6) (by simp only [e0, e1, e2, e3, e4]; exact h7)
  simp only [e0, e1, e2, e3, e4] at raw
  exact raw
theorem b_X5_isDone_0 (x1 : Int) (u2 : AV) (u3 : AV) (σ : St) : Rx k_X5_isDone 0 [.inr (.inl (16, 0)), .inl x1, u2, u3] [] σ = if x1 = 108 then Rx k_X5_isDone 94 [.inr (.inl (16, 0)), .inl x1, .inl (σ 22 0 0), .inl (σ 22 0 1)] [] σ else if x1 = 112 then Rx k_X5_isDone 68 [.inr (.inl (16, 0)), .inl x1, .inl (σ 22 0 0), .inl (σ 22 0 1)] [] σ else if x1 = 115 then Rx k_X5_isDone 150 [.inr (.inl (16, 0)), .inl x1, .inl (σ 22 0 0), .inl (σ 22 0 1)] [] σ else if x1 = 116 then Rx k_X5_isDone 81 [.inr (.inl (16, 0)), .inl x1, .inl (σ 22 0 0), .inl (σ 22 0 1)] [] σ else if x1 = 117 then Rx k_X5_isDone 126 [.inr (.inl (16, 0)), .inl x1, .inl (σ 22 0 0), .inl (σ 22 0 1)] [] σ else Rx k_X5_isDone 174 [.inr (.inl (16, 0)), .inl x1, .inl (σ 22 0 0), .inl (σ 22 0 1)] [] σ := by
  refine (Rx_N (k := 11) (pc' := 15) (ls' := [.inr (.inl (16, 0)), .inl x1, .inl (σ 22 0 0), .inl (σ 22 0 1)]) (st' := [.inl x1]) (σ' := σ) rfl).trans ?_
  generalize x1 = z9
  by_cases e9 : z9 = 108
  · subst e9; exact Rx_N (k := 1) rfl
  by_cases e9 : z9 = 109
  · subst e9; exact Rx_N (k := 1) rfl
  by_cases e9 : z9 = 110
  · subst e9; exact Rx_N (k := 1) rfl
  by_cases e9 : z9 = 111
  · subst e9; exact Rx_N (k := 1) rfl
  by_cases e9 : z9 = 112
  · subst e9; exact Rx_N (k := 1) rfl
  by_cases e9 : z9 = 113
  · subst e9; exact Rx_N (k := 1) rfl
  by_cases e9 : z9 = 114
  · subst e9; exact Rx_N (k := 1) rfl
  by_cases e9 : z9 = 115
  · subst e9; exact Rx_N (k := 1) rfl
  by_cases e9 : z9 = 116
  · subst e9; exact Rx_N (k := 1) rfl
  by_cases e9 : z9 = 117
  · subst e9; exact Rx_N (k := 1) rfl
  rw [if_neg (by omega)]; rw [if_neg (by omega)]; rw [if_neg (by omega)]; rw [if_neg (by omega)]; rw [if_neg (by omega)]; exact Rx_tout rfl (by omega) rfl
theorem b_X5_isDone_68 (x1 : Int) (x2 : Int) (x3 : Int) (σ : St) : Rx k_X5_isDone 68 [.inr (.inl (16, 0)), .inl x1, .inl x2, .inl x3] [] σ = (Rx k_X5_addsPurpose 0 [.inr (.inl (16, 0)), .inl x2, .inl x3, .inl (σ 22 0 2), uns] [] σ).bind fun q => Rx k_X5_isDone 80 [.inr (.inl (16, 0)), .inl x1, .inl x2, .inl x3] (q.1.toList ++ []) q.2 := by
  refine (Rx_N (k := 7) (pc' := 77) (ls' := [.inr (.inl (16, 0)), .inl x1, .inl x2, .inl x3]) (st' := [.inl (σ 22 0 2), .inl x3, .inl x2, .inr (.inl (16, 0))]) (σ' := σ) rfl).trans ?_
  exact Rx_call (n := 3) (y' := k_X5_addsPurpose) (as := [.inr (.inl (16, 0)), .inl x2, .inl x3, .inl (σ 22 0 2)]) (rest := []) rfl rfl rfl
theorem b_X5_isDone_80 (x1 : Int) (x2 : Int) (x3 : Int) (s0 : Int) (σ : St) (h0 : rkOK 2 s0 = true) : Rx k_X5_isDone 80 [.inr (.inl (16, 0)), .inl x1, .inl x2, .inl x3] [.inl s0] σ = some (some (.inl s0), σ) := by
  exact Rx_ret rfl (if_pos h0)
theorem b_X5_isDone_81 (x1 : Int) (x2 : Int) (x3 : Int) (σ : St) : Rx k_X5_isDone 81 [.inr (.inl (16, 0)), .inl x1, .inl x2, .inl x3] [] σ = (Rx k_X5_addsThing 0 [.inr (.inl (16, 0)), .inl x2, .inl x3, .inl (σ 22 0 2), uns] [] σ).bind fun q => Rx k_X5_isDone 93 [.inr (.inl (16, 0)), .inl x1, .inl x2, .inl x3] (q.1.toList ++ []) q.2 := by
  refine (Rx_N (k := 7) (pc' := 90) (ls' := [.inr (.inl (16, 0)), .inl x1, .inl x2, .inl x3]) (st' := [.inl (σ 22 0 2), .inl x3, .inl x2, .inr (.inl (16, 0))]) (σ' := σ) rfl).trans ?_
  exact Rx_call (n := 3) (y' := k_X5_addsThing) (as := [.inr (.inl (16, 0)), .inl x2, .inl x3, .inl (σ 22 0 2)]) (rest := []) rfl rfl rfl
theorem b_X5_isDone_93 (x1 : Int) (x2 : Int) (x3 : Int) (s0 : Int) (σ : St) (h0 : rkOK 2 s0 = true) : Rx k_X5_isDone 93 [.inr (.inl (16, 0)), .inl x1, .inl x2, .inl x3] [.inl s0] σ = some (some (.inl s0), σ) := by
  exact Rx_ret rfl (if_pos h0)
theorem b_X5_isDone_94 (x1 : Int) (x2 : Int) (x3 : Int) (σ : St) : Rx k_X5_isDone 94 [.inr (.inl (16, 0)), .inl x1, .inl x2, .inl x3] [] σ = (Rx k_X5_isThing 0 [.inr (.inl (16, 0)), .inl x2] [] σ).bind fun q => Rx k_X5_isDone 99 [.inr (.inl (16, 0)), .inl x1, .inl x2, .inl x3] (q.1.toList ++ []) q.2 := by
  refine (Rx_N (k := 2) (pc' := 96) (ls' := [.inr (.inl (16, 0)), .inl x1, .inl x2, .inl x3]) (st' := [.inl x2, .inr (.inl (16, 0))]) (σ' := σ) rfl).trans ?_
  exact Rx_call (n := 3) (y' := k_X5_isThing) (as := [.inr (.inl (16, 0)), .inl x2]) (rest := []) rfl rfl rfl
theorem b_X5_isDone_99 (x1 : Int) (x2 : Int) (x3 : Int) (s0 : Int) (σ : St) : Rx k_X5_isDone 99 [.inr (.inl (16, 0)), .inl x1, .inl x2, .inl x3] [.inl s0] σ = if s0 = 0 then Rx k_X5_isDone 110 [.inr (.inl (16, 0)), .inl x1, .inl x2, .inl x3] [] σ else Rx k_X5_isDone 102 [.inr (.inl (16, 0)), .inl x1, .inl x2, .inl x3] [] σ := by
  exact Rx_eq0 (k := 1) rfl
theorem b_X5_isDone_102 (x1 : Int) (x2 : Int) (x3 : Int) (σ : St) : Rx k_X5_isDone 102 [.inr (.inl (16, 0)), .inl x1, .inl x2, .inl x3] [] σ = (Rx k_X5_isPurpose 0 [.inr (.inl (16, 0)), .inl x3] [] σ).bind fun q => Rx k_X5_isDone 107 [.inr (.inl (16, 0)), .inl x1, .inl x2, .inl x3] (q.1.toList ++ []) q.2 := by
  refine (Rx_N (k := 2) (pc' := 104) (ls' := [.inr (.inl (16, 0)), .inl x1, .inl x2, .inl x3]) (st' := [.inl x3, .inr (.inl (16, 0))]) (σ' := σ) rfl).trans ?_
  exact Rx_call (n := 3) (y' := k_X5_isPurpose) (as := [.inr (.inl (16, 0)), .inl x3]) (rest := []) rfl rfl rfl
theorem b_X5_isDone_107 (x1 : Int) (x2 : Int) (x3 : Int) (s0 : Int) (σ : St) : Rx k_X5_isDone 107 [.inr (.inl (16, 0)), .inl x1, .inl x2, .inl x3] [.inl s0] σ = if s0 = 0 then Rx k_X5_isDone 110 [.inr (.inl (16, 0)), .inl x1, .inl x2, .inl x3] [] σ else Rx k_X5_isDone 112 [.inr (.inl (16, 0)), .inl x1, .inl x2, .inl x3] [] σ := by
  exact Rx_ne0 (k := 1) rfl
theorem b_X5_isDone_110 (x1 : Int) (x2 : Int) (x3 : Int) (σ : St) : Rx k_X5_isDone 110 [.inr (.inl (16, 0)), .inl x1, .inl x2, .inl x3] [] σ = some (some (.inl 0), σ) := by
  refine (Rx_N (k := 1) (pc' := 111) (ls' := [.inr (.inl (16, 0)), .inl x1, .inl x2, .inl x3]) (st' := [.inl 0]) (σ' := σ) rfl).trans ?_
  exact Rx_ret rfl rfl
theorem b_X5_isDone_112 (x1 : Int) (x2 : Int) (x3 : Int) (σ : St) : Rx k_X5_isDone 112 [.inr (.inl (16, 0)), .inl x1, .inl x2, .inl x3] [] σ = (Rx k_X5_ofT 0 [.inl x2] [] σ).bind fun q => Rx k_X5_isDone 120 [.inr (.inl (16, 0)), .inl x1, .inl x2, .inl x3] (q.1.toList ++ [.inr (.inl (17, 0))]) q.2 := by
  refine (Rx_N (k := 3) (pc' := 117) (ls' := [.inr (.inl (16, 0)), .inl x1, .inl x2, .inl x3]) (st' := [.inl x2, .inr (.inl (17, 0))]) (σ' := σ) rfl).trans ?_
  exact Rx_call (n := 3) (y' := k_X5_ofT) (as := [.inl x2]) (rest := [.inr (.inl (17, 0))]) rfl rfl rfl
theorem r_X5_isDone_120 (x1 : Int) (x2 : Int) (x3 : Int) (s1 : Int) (σ : St) (h0 : 0 ≤ (wr (s1 + 2))) (h1 : (wr (s1 + 2)) < 58) : Rx k_X5_isDone 120 [.inr (.inl (16, 0)), .inl x1, .inl x2, .inl x3] [.inl s1, .inr (.inl (17, 0))] σ = some (some (.inl 1), (up σ 17 0 ((wr (s1 + 2)).toNat) x3)) := by
  refine (Rx_N (k := 3) (pc' := 123) (ls' := [.inr (.inl (16, 0)), .inl x1, .inl x2, .inl x3]) (st' := [.inl x3, .inl (wr (s1 + 2)), .inr (.inl (17, 0))]) (σ' := σ) rfl).trans ?_
  refine (Rx_ist 58 rfl rfl h0 h1).trans ?_
  refine (Rx_N (k := 1) (pc' := 125) (ls' := [.inr (.inl (16, 0)), .inl x1, .inl x2, .inl x3]) (st' := [.inl 1]) (σ' := (up σ 17 0 ((wr (s1 + 2)).toNat) x3)) rfl).trans ?_
  exact Rx_ret rfl rfl
theorem b_X5_isDone_120 (x1 : Int) (x2 : Int) (x3 : Int) (s1 : Int) (σ : St) (h0 : 0 ≤ (s1 + 2)) (h1 : (s1 + 2) < 58) (g0a : -2147483648 ≤ (s1 + 2)) (g0b : (s1 + 2) < 2147483648) : Rx k_X5_isDone 120 [.inr (.inl (16, 0)), .inl x1, .inl x2, .inl x3] [.inl s1, .inr (.inl (17, 0))] σ = some (some (.inl 1), (up σ 17 0 (((s1 + 2)).toNat) x3)) := by
  have e0 := wr_id (x := (s1 + 2)) g0a g0b
  have raw := r_X5_isDone_120 x1 x2 x3 s1 σ (by simp only [e0]; exact h0) (by simp only [e0]; exact h1)
  simp only [e0] at raw
  exact raw
theorem b_X5_isDone_126 (x1 : Int) (x2 : Int) (x3 : Int) (σ : St) : Rx k_X5_isDone 126 [.inr (.inl (16, 0)), .inl x1, .inl x2, .inl x3] [] σ = (Rx k_X5_isThing 0 [.inr (.inl (16, 0)), .inl x2] [] σ).bind fun q => Rx k_X5_isDone 131 [.inr (.inl (16, 0)), .inl x1, .inl x2, .inl x3] (q.1.toList ++ []) q.2 := by
  refine (Rx_N (k := 2) (pc' := 128) (ls' := [.inr (.inl (16, 0)), .inl x1, .inl x2, .inl x3]) (st' := [.inl x2, .inr (.inl (16, 0))]) (σ' := σ) rfl).trans ?_
  exact Rx_call (n := 3) (y' := k_X5_isThing) (as := [.inr (.inl (16, 0)), .inl x2]) (rest := []) rfl rfl rfl
theorem b_X5_isDone_131 (x1 : Int) (x2 : Int) (x3 : Int) (s0 : Int) (σ : St) : Rx k_X5_isDone 131 [.inr (.inl (16, 0)), .inl x1, .inl x2, .inl x3] [.inl s0] σ = if s0 = 0 then Rx k_X5_isDone 134 [.inr (.inl (16, 0)), .inl x1, .inl x2, .inl x3] [] σ else Rx k_X5_isDone 136 [.inr (.inl (16, 0)), .inl x1, .inl x2, .inl x3] [] σ := by
  exact Rx_ne0 (k := 1) rfl
theorem b_X5_isDone_134 (x1 : Int) (x2 : Int) (x3 : Int) (σ : St) : Rx k_X5_isDone 134 [.inr (.inl (16, 0)), .inl x1, .inl x2, .inl x3] [] σ = some (some (.inl 0), σ) := by
  refine (Rx_N (k := 1) (pc' := 135) (ls' := [.inr (.inl (16, 0)), .inl x1, .inl x2, .inl x3]) (st' := [.inl 0]) (σ' := σ) rfl).trans ?_
  exact Rx_ret rfl rfl
theorem b_X5_isDone_136 (x1 : Int) (x2 : Int) (x3 : Int) (σ : St) : Rx k_X5_isDone 136 [.inr (.inl (16, 0)), .inl x1, .inl x2, .inl x3] [] σ = (Rx k_X5_ofT 0 [.inl x2] [] σ).bind fun q => Rx k_X5_isDone 144 [.inr (.inl (16, 0)), .inl x1, .inl x2, .inl x3] (q.1.toList ++ [.inr (.inl (17, 0))]) q.2 := by
  refine (Rx_N (k := 3) (pc' := 141) (ls' := [.inr (.inl (16, 0)), .inl x1, .inl x2, .inl x3]) (st' := [.inl x2, .inr (.inl (17, 0))]) (σ' := σ) rfl).trans ?_
  exact Rx_call (n := 3) (y' := k_X5_ofT) (as := [.inl x2]) (rest := [.inr (.inl (17, 0))]) rfl rfl rfl
theorem r_X5_isDone_144 (x1 : Int) (x2 : Int) (x3 : Int) (s1 : Int) (σ : St) (h0 : 0 ≤ (wr (s1 + 3))) (h1 : (wr (s1 + 3)) < 58) : Rx k_X5_isDone 144 [.inr (.inl (16, 0)), .inl x1, .inl x2, .inl x3] [.inl s1, .inr (.inl (17, 0))] σ = some (some (.inl 1), (up σ 17 0 ((wr (s1 + 3)).toNat) 1)) := by
  refine (Rx_N (k := 3) (pc' := 147) (ls' := [.inr (.inl (16, 0)), .inl x1, .inl x2, .inl x3]) (st' := [.inl 1, .inl (wr (s1 + 3)), .inr (.inl (17, 0))]) (σ' := σ) rfl).trans ?_
  refine (Rx_ist 58 rfl rfl h0 h1).trans ?_
  refine (Rx_N (k := 1) (pc' := 149) (ls' := [.inr (.inl (16, 0)), .inl x1, .inl x2, .inl x3]) (st' := [.inl 1]) (σ' := (up σ 17 0 ((wr (s1 + 3)).toNat) 1)) rfl).trans ?_
  exact Rx_ret rfl rfl
theorem b_X5_isDone_144 (x1 : Int) (x2 : Int) (x3 : Int) (s1 : Int) (σ : St) (h0 : 0 ≤ (s1 + 3)) (h1 : (s1 + 3) < 58) (g0a : -2147483648 ≤ (s1 + 3)) (g0b : (s1 + 3) < 2147483648) : Rx k_X5_isDone 144 [.inr (.inl (16, 0)), .inl x1, .inl x2, .inl x3] [.inl s1, .inr (.inl (17, 0))] σ = some (some (.inl 1), (up σ 17 0 (((s1 + 3)).toNat) 1)) := by
  have e0 := wr_id (x := (s1 + 3)) g0a g0b
  have raw := r_X5_isDone_144 x1 x2 x3 s1 σ (by simp only [e0]; exact h0) (by simp only [e0]; exact h1)
  simp only [e0] at raw
  exact raw
theorem b_X5_isDone_150 (x1 : Int) (x2 : Int) (x3 : Int) (σ : St) : Rx k_X5_isDone 150 [.inr (.inl (16, 0)), .inl x1, .inl x2, .inl x3] [] σ = (Rx k_X5_isPurpose 0 [.inr (.inl (16, 0)), .inl x2] [] σ).bind fun q => Rx k_X5_isDone 155 [.inr (.inl (16, 0)), .inl x1, .inl x2, .inl x3] (q.1.toList ++ []) q.2 := by
  refine (Rx_N (k := 2) (pc' := 152) (ls' := [.inr (.inl (16, 0)), .inl x1, .inl x2, .inl x3]) (st' := [.inl x2, .inr (.inl (16, 0))]) (σ' := σ) rfl).trans ?_
  exact Rx_call (n := 3) (y' := k_X5_isPurpose) (as := [.inr (.inl (16, 0)), .inl x2]) (rest := []) rfl rfl rfl
theorem b_X5_isDone_155 (x1 : Int) (x2 : Int) (x3 : Int) (s0 : Int) (σ : St) : Rx k_X5_isDone 155 [.inr (.inl (16, 0)), .inl x1, .inl x2, .inl x3] [.inl s0] σ = if s0 = 0 then Rx k_X5_isDone 158 [.inr (.inl (16, 0)), .inl x1, .inl x2, .inl x3] [] σ else Rx k_X5_isDone 160 [.inr (.inl (16, 0)), .inl x1, .inl x2, .inl x3] [] σ := by
  exact Rx_ne0 (k := 1) rfl
theorem b_X5_isDone_158 (x1 : Int) (x2 : Int) (x3 : Int) (σ : St) : Rx k_X5_isDone 158 [.inr (.inl (16, 0)), .inl x1, .inl x2, .inl x3] [] σ = some (some (.inl 0), σ) := by
  refine (Rx_N (k := 1) (pc' := 159) (ls' := [.inr (.inl (16, 0)), .inl x1, .inl x2, .inl x3]) (st' := [.inl 0]) (σ' := σ) rfl).trans ?_
  exact Rx_ret rfl rfl
theorem b_X5_isDone_160 (x1 : Int) (x2 : Int) (x3 : Int) (σ : St) : Rx k_X5_isDone 160 [.inr (.inl (16, 0)), .inl x1, .inl x2, .inl x3] [] σ = (Rx k_X5_ofP 0 [.inl x2] [] σ).bind fun q => Rx k_X5_isDone 168 [.inr (.inl (16, 0)), .inl x1, .inl x2, .inl x3] (q.1.toList ++ [.inr (.inl (17, 0))]) q.2 := by
  refine (Rx_N (k := 3) (pc' := 165) (ls' := [.inr (.inl (16, 0)), .inl x1, .inl x2, .inl x3]) (st' := [.inl x2, .inr (.inl (17, 0))]) (σ' := σ) rfl).trans ?_
  exact Rx_call (n := 3) (y' := k_X5_ofP) (as := [.inl x2]) (rest := [.inr (.inl (17, 0))]) rfl rfl rfl
theorem r_X5_isDone_168 (x1 : Int) (x2 : Int) (x3 : Int) (s1 : Int) (σ : St) (h0 : 0 ≤ (wr (s1 + 2))) (h1 : (wr (s1 + 2)) < 58) : Rx k_X5_isDone 168 [.inr (.inl (16, 0)), .inl x1, .inl x2, .inl x3] [.inl s1, .inr (.inl (17, 0))] σ = some (some (.inl 1), (up σ 17 0 ((wr (s1 + 2)).toNat) x3)) := by
  refine (Rx_N (k := 3) (pc' := 171) (ls' := [.inr (.inl (16, 0)), .inl x1, .inl x2, .inl x3]) (st' := [.inl x3, .inl (wr (s1 + 2)), .inr (.inl (17, 0))]) (σ' := σ) rfl).trans ?_
  refine (Rx_ist 58 rfl rfl h0 h1).trans ?_
  refine (Rx_N (k := 1) (pc' := 173) (ls' := [.inr (.inl (16, 0)), .inl x1, .inl x2, .inl x3]) (st' := [.inl 1]) (σ' := (up σ 17 0 ((wr (s1 + 2)).toNat) x3)) rfl).trans ?_
  exact Rx_ret rfl rfl
theorem b_X5_isDone_168 (x1 : Int) (x2 : Int) (x3 : Int) (s1 : Int) (σ : St) (h0 : 0 ≤ (s1 + 2)) (h1 : (s1 + 2) < 58) (g0a : -2147483648 ≤ (s1 + 2)) (g0b : (s1 + 2) < 2147483648) : Rx k_X5_isDone 168 [.inr (.inl (16, 0)), .inl x1, .inl x2, .inl x3] [.inl s1, .inr (.inl (17, 0))] σ = some (some (.inl 1), (up σ 17 0 (((s1 + 2)).toNat) x3)) := by
  have e0 := wr_id (x := (s1 + 2)) g0a g0b
  have raw := r_X5_isDone_168 x1 x2 x3 s1 σ (by simp only [e0]; exact h0) (by simp only [e0]; exact h1)
  simp only [e0] at raw
  exact raw
theorem b_X5_isDone_174 (x1 : Int) (x2 : Int) (x3 : Int) (σ : St) : Rx k_X5_isDone 174 [.inr (.inl (16, 0)), .inl x1, .inl x2, .inl x3] [] σ = (Rx k_X5_isIn 0 [.inl x2, .inl 1, .inl 60] [] σ).bind fun q => Rx k_X5_isDone 181 [.inr (.inl (16, 0)), .inl x1, .inl x2, .inl x3] (q.1.toList ++ []) q.2 := by
  refine (Rx_N (k := 3) (pc' := 178) (ls' := [.inr (.inl (16, 0)), .inl x1, .inl x2, .inl x3]) (st' := [.inl 60, .inl 1, .inl x2]) (σ' := σ) rfl).trans ?_
  exact Rx_call (n := 3) (y' := k_X5_isIn) (as := [.inl x2, .inl 1, .inl 60]) (rest := []) rfl rfl rfl
theorem b_X5_isDone_181 (x1 : Int) (x2 : Int) (x3 : Int) (s0 : Int) (σ : St) : Rx k_X5_isDone 181 [.inr (.inl (16, 0)), .inl x1, .inl x2, .inl x3] [.inl s0] σ = if s0 = 0 then Rx k_X5_isDone 198 [.inr (.inl (16, 0)), .inl x1, .inl x2, .inl x3] [] σ else Rx k_X5_isDone 184 [.inr (.inl (16, 0)), .inl x1, .inl x2, .inl x3] [] σ := by
  exact Rx_eq0 (k := 1) rfl
theorem r_X5_isDone_184 (x1 : Int) (x2 : Int) (x3 : Int) (σ : St) : Rx k_X5_isDone 184 [.inr (.inl (16, 0)), .inl x1, .inl x2, .inl x3] [] σ = if 999 < (wr ((σ 17 0 2) + x2)) then Rx k_X5_isDone 198 [.inr (.inl (16, 0)), .inl x1, .inl x2, .inl x3] [] σ else Rx k_X5_isDone 200 [.inr (.inl (16, 0)), .inl x1, .inl x2, .inl x3] [] σ := by
  exact Rx_le0 (k := 8) rfl
theorem b_X5_isDone_184 (x1 : Int) (x2 : Int) (x3 : Int) (σ : St) (g0a : -2147483648 ≤ ((σ 17 0 2) + x2)) (g0b : ((σ 17 0 2) + x2) < 2147483648) : Rx k_X5_isDone 184 [.inr (.inl (16, 0)), .inl x1, .inl x2, .inl x3] [] σ = if 999 < ((σ 17 0 2) + x2) then Rx k_X5_isDone 198 [.inr (.inl (16, 0)), .inl x1, .inl x2, .inl x3] [] σ else Rx k_X5_isDone 200 [.inr (.inl (16, 0)), .inl x1, .inl x2, .inl x3] [] σ := by
  have e0 := wr_id (x := ((σ 17 0 2) + x2)) g0a g0b
  have raw := r_X5_isDone_184 x1 x2 x3 σ 
  simp only [e0] at raw
  exact raw
theorem b_X5_isDone_198 (x1 : Int) (x2 : Int) (x3 : Int) (σ : St) : Rx k_X5_isDone 198 [.inr (.inl (16, 0)), .inl x1, .inl x2, .inl x3] [] σ = some (some (.inl 0), σ) := by
  refine (Rx_N (k := 1) (pc' := 199) (ls' := [.inr (.inl (16, 0)), .inl x1, .inl x2, .inl x3]) (st' := [.inl 0]) (σ' := σ) rfl).trans ?_
  exact Rx_ret rfl rfl
theorem b_X5_isDone_200 (x1 : Int) (x2 : Int) (x3 : Int) (σ : St) : Rx k_X5_isDone 200 [.inr (.inl (16, 0)), .inl x1, .inl x2, .inl x3] [] σ = (Rx k_X5_daysOn 0 [.inr (.inl (16, 0)), .inr (.inl (17, 0)), .inl x2, uns] [] σ).bind fun q => Rx k_X5_isDone 209 [.inr (.inl (16, 0)), .inl x1, .inl x2, .inl x3] (q.1.toList ++ []) q.2 := by
  refine (Rx_N (k := 4) (pc' := 206) (ls' := [.inr (.inl (16, 0)), .inl x1, .inl x2, .inl x3]) (st' := [.inl x2, .inr (.inl (17, 0)), .inr (.inl (16, 0))]) (σ' := σ) rfl).trans ?_
  exact Rx_call (n := 3) (y' := k_X5_daysOn) (as := [.inr (.inl (16, 0)), .inr (.inl (17, 0)), .inl x2]) (rest := []) rfl rfl rfl
theorem b_X5_isDone_209 (x1 : Int) (x2 : Int) (x3 : Int) (σ : St) : Rx k_X5_isDone 209 [.inr (.inl (16, 0)), .inl x1, .inl x2, .inl x3] [] σ = some (some (.inl 1), σ) := by
  refine (Rx_N (k := 1) (pc' := 210) (ls' := [.inr (.inl (16, 0)), .inl x1, .inl x2, .inl x3]) (st' := [.inl 1]) (σ' := σ) rfl).trans ?_
  exact Rx_ret rfl rfl
theorem b_X5_rack_0 (u1 : AV) (u2 : AV) (u3 : AV) (u4 : AV) (u5 : AV) (σ : St) : Rx k_X5_rack 0 [.inr (.inl (16, 0)), u1, u2, u3, u4, u5] [] σ = Rx k_X5_rack 10 [.inr (.inl (16, 0)), .inl 0, .inl (-9), u3, u4, u5] [] (up σ 16 0 11 0) := by
  refine (Rx_N (k := 7) (pc' := 10) (ls' := [.inr (.inl (16, 0)), .inl 0, .inl (-9), u3, u4, u5]) (st' := []) (σ' := (up σ 16 0 11 0)) rfl).trans ?_
  rfl
theorem b_X5_rack_10 (x1 : Int) (x2 : Int) (u3 : AV) (u4 : AV) (u5 : AV) (σ : St) : Rx k_X5_rack 10 [.inr (.inl (16, 0)), .inl x1, .inl x2, u3, u4, u5] [] σ = (Rx k_X5_readsStatement 0 [.inr (.inl (16, 0)), uns, uns] [] σ).bind fun q => Rx k_X5_rack 14 [.inr (.inl (16, 0)), .inl x1, .inl x2, u3, u4, u5] (q.1.toList ++ []) q.2 := by
  refine (Rx_N (k := 1) (pc' := 11) (ls' := [.inr (.inl (16, 0)), .inl x1, .inl x2, u3, u4, u5]) (st' := [.inr (.inl (16, 0))]) (σ' := σ) rfl).trans ?_
  exact Rx_call (n := 3) (y' := k_X5_readsStatement) (as := [.inr (.inl (16, 0))]) (rest := []) rfl rfl rfl
theorem b_X5_rack_14 (x1 : Int) (x2 : Int) (u3 : AV) (u4 : AV) (u5 : AV) (s0 : Int) (σ : St) : Rx k_X5_rack 14 [.inr (.inl (16, 0)), .inl x1, .inl x2, u3, u4, u5] [.inl s0] σ = if s0 = 0 then Rx k_X5_rack 17 [.inr (.inl (16, 0)), .inl x1, .inl x2, u3, u4, u5] [] σ else Rx k_X5_rack 26 [.inr (.inl (16, 0)), .inl x1, .inl x2, u3, u4, u5] [] σ := by
  exact Rx_ne0 (k := 1) rfl
theorem r_X5_rack_17 (x1 : Int) (x2 : Int) (u3 : AV) (u4 : AV) (u5 : AV) (σ : St) : Rx k_X5_rack 17 [.inr (.inl (16, 0)), .inl x1, .inl x2, u3, u4, u5] [] σ = if (wr ((-1000) - (σ 16 0 11))) = (-9) then Rx k_X5_rack 35 [.inr (.inl (16, 0)), .inl (wr (x1 + 1)), .inl (wr ((-1000) - (σ 16 0 11))), u3, u4, u5] [] σ else Rx k_X5_rack 46 [.inr (.inl (16, 0)), .inl (wr (x1 + 1)), .inl (wr ((-1000) - (σ 16 0 11))), u3, u4, u5] [] σ := by
  exact Rx_ne0 (k := 9) rfl
theorem b_X5_rack_17 (x1 : Int) (x2 : Int) (u3 : AV) (u4 : AV) (u5 : AV) (σ : St) (g0a : -2147483648 ≤ (x1 + 1)) (g0b : (x1 + 1) < 2147483648) (g1a : -2147483648 ≤ ((-1000) - (σ 16 0 11))) (g1b : ((-1000) - (σ 16 0 11)) < 2147483648) : Rx k_X5_rack 17 [.inr (.inl (16, 0)), .inl x1, .inl x2, u3, u4, u5] [] σ = if ((-1000) - (σ 16 0 11)) = (-9) then Rx k_X5_rack 35 [.inr (.inl (16, 0)), .inl (x1 + 1), .inl ((-1000) - (σ 16 0 11)), u3, u4, u5] [] σ else Rx k_X5_rack 46 [.inr (.inl (16, 0)), .inl (x1 + 1), .inl ((-1000) - (σ 16 0 11)), u3, u4, u5] [] σ := by
  have e0 := wr_id (x := (x1 + 1)) g0a g0b
  have e1 := wr_id (x := ((-1000) - (σ 16 0 11))) g1a g1b
  have raw := r_X5_rack_17 x1 x2 u3 u4 u5 σ 
  simp only [e0, e1] at raw
  exact raw
theorem r_X5_rack_26 (x1 : Int) (x2 : Int) (u3 : AV) (u4 : AV) (u5 : AV) (σ : St) : Rx k_X5_rack 26 [.inr (.inl (16, 0)), .inl x1, .inl x2, u3, u4, u5] [] σ = if x2 = (-9) then Rx k_X5_rack 35 [.inr (.inl (16, 0)), .inl (wr (x1 + 1)), .inl x2, u3, u4, u5] [] σ else Rx k_X5_rack 46 [.inr (.inl (16, 0)), .inl (wr (x1 + 1)), .inl x2, u3, u4, u5] [] σ := by
  exact Rx_ne0 (k := 4) rfl
theorem b_X5_rack_26 (x1 : Int) (x2 : Int) (u3 : AV) (u4 : AV) (u5 : AV) (σ : St) (g0a : -2147483648 ≤ (x1 + 1)) (g0b : (x1 + 1) < 2147483648) : Rx k_X5_rack 26 [.inr (.inl (16, 0)), .inl x1, .inl x2, u3, u4, u5] [] σ = if x2 = (-9) then Rx k_X5_rack 35 [.inr (.inl (16, 0)), .inl (x1 + 1), .inl x2, u3, u4, u5] [] σ else Rx k_X5_rack 46 [.inr (.inl (16, 0)), .inl (x1 + 1), .inl x2, u3, u4, u5] [] σ := by
  have e0 := wr_id (x := (x1 + 1)) g0a g0b
  have raw := r_X5_rack_26 x1 x2 u3 u4 u5 σ 
  simp only [e0] at raw
  exact raw
theorem b_X5_rack_35 (x1 : Int) (x2 : Int) (u3 : AV) (u4 : AV) (u5 : AV) (σ : St) : Rx k_X5_rack 35 [.inr (.inl (16, 0)), .inl x1, .inl x2, u3, u4, u5] [] σ = if (σ 16 0 11) < (σ 16 0 9) then Rx k_X5_rack 10 [.inr (.inl (16, 0)), .inl x1, .inl x2, u3, u4, u5] [] σ else Rx k_X5_rack 46 [.inr (.inl (16, 0)), .inl x1, .inl x2, u3, u4, u5] [] σ := by
  exact Rx_lt0 (k := 5) rfl
theorem b_X5_rack_46 (x1 : Int) (x2 : Int) (u3 : AV) (u4 : AV) (u5 : AV) (σ : St) : Rx k_X5_rack 46 [.inr (.inl (16, 0)), .inl x1, .inl x2, u3, u4, u5] [] σ = (Rx k_X5_copies 0 [.inr (.inl (17, 0)), .inr (.inl (17, 3)), uns] [] σ).bind fun q => Rx k_X5_rack 57 [.inr (.inl (16, 0)), .inl x1, .inl x2, u3, u4, u5] (q.1.toList ++ []) q.2 := by
  refine (Rx_N (k := 4) (pc' := 54) (ls' := [.inr (.inl (16, 0)), .inl x1, .inl x2, u3, u4, u5]) (st' := [.inr (.inl (17, 3)), .inr (.inl (17, 0))]) (σ' := σ) rfl).trans ?_
  exact Rx_call (n := 3) (y' := k_X5_copies) (as := [.inr (.inl (17, 0)), .inr (.inl (17, 3))]) (rest := []) rfl rfl rfl
theorem b_X5_rack_57 (x1 : Int) (x2 : Int) (u3 : AV) (u4 : AV) (u5 : AV) (σ : St) : Rx k_X5_rack 57 [.inr (.inl (16, 0)), .inl x1, .inl x2, u3, u4, u5] [] σ = Rx k_X5_rack 62 [.inr (.inl (16, 0)), .inl x1, .inl x2, u3, u4, u5] [] (up σ 16 0 11 0) := by
  refine (Rx_N (k := 3) (pc' := 62) (ls' := [.inr (.inl (16, 0)), .inl x1, .inl x2, u3, u4, u5]) (st' := []) (σ' := (up σ 16 0 11 0)) rfl).trans ?_
  rfl
theorem b_X5_rack_62 (x1 : Int) (x2 : Int) (u3 : AV) (u4 : AV) (u5 : AV) (σ : St) : Rx k_X5_rack 62 [.inr (.inl (16, 0)), .inl x1, .inl x2, u3, u4, u5] [] σ = if x2 = (-9) then Rx k_X5_rack 68 [.inr (.inl (16, 0)), .inl x1, .inl x2, u3, u4, u5] [] σ else Rx k_X5_rack 128 [.inr (.inl (16, 0)), .inl x1, .inl x2, u3, u4, u5] [] σ := by
  exact Rx_ne0 (k := 3) rfl
theorem b_X5_rack_68 (x1 : Int) (x2 : Int) (u3 : AV) (u4 : AV) (u5 : AV) (σ : St) : Rx k_X5_rack 68 [.inr (.inl (16, 0)), .inl x1, .inl x2, u3, u4, u5] [] σ = if (σ 16 0 11) < (σ 16 0 9) then Rx k_X5_rack 79 [.inr (.inl (16, 0)), .inl x1, .inl x2, u3, u4, u5] [] σ else Rx k_X5_rack 128 [.inr (.inl (16, 0)), .inl x1, .inl x2, u3, u4, u5] [] σ := by
  exact Rx_ge0 (k := 5) rfl
theorem b_X5_rack_79 (x1 : Int) (x2 : Int) (u3 : AV) (u4 : AV) (u5 : AV) (σ : St) : Rx k_X5_rack 79 [.inr (.inl (16, 0)), .inl x1, .inl x2, u3, u4, u5] [] σ = (Rx k_X5_here 0 [.inr (.inl (16, 0))] [] σ).bind fun q => Rx k_X5_rack 88 [.inr (.inl (16, 0)), .inl x1, .inl x2, .inl (σ 16 0 11), u4, u5] (q.1.toList ++ []) q.2 := by
  refine (Rx_N (k := 4) (pc' := 85) (ls' := [.inr (.inl (16, 0)), .inl x1, .inl x2, .inl (σ 16 0 11), u4, u5]) (st' := [.inr (.inl (16, 0))]) (σ' := σ) rfl).trans ?_
  exact Rx_call (n := 3) (y' := k_X5_here) (as := [.inr (.inl (16, 0))]) (rest := []) rfl rfl rfl
theorem b_X5_rack_88 (x1 : Int) (x2 : Int) (x3 : Int) (u4 : AV) (u5 : AV) (s0 : Int) (σ : St) : Rx k_X5_rack 88 [.inr (.inl (16, 0)), .inl x1, .inl x2, .inl x3, u4, u5] [.inl s0] σ = (Rx k_X5_readsStatement 0 [.inr (.inl (16, 0)), uns, uns] [] σ).bind fun q => Rx k_X5_rack 94 [.inr (.inl (16, 0)), .inl x1, .inl x2, .inl x3, .inl s0, u5] (q.1.toList ++ []) q.2 := by
  refine (Rx_N (k := 2) (pc' := 91) (ls' := [.inr (.inl (16, 0)), .inl x1, .inl x2, .inl x3, .inl s0, u5]) (st' := [.inr (.inl (16, 0))]) (σ' := σ) rfl).trans ?_
  exact Rx_call (n := 3) (y' := k_X5_readsStatement) (as := [.inr (.inl (16, 0))]) (rest := []) rfl rfl rfl
theorem b_X5_rack_94 (x1 : Int) (x2 : Int) (x3 : Int) (x4 : Int) (u5 : AV) (s0 : Int) (σ : St) : Rx k_X5_rack 94 [.inr (.inl (16, 0)), .inl x1, .inl x2, .inl x3, .inl x4, u5] [.inl s0] σ = (Rx k_X5_isDone 0 [.inr (.inl (16, 0)), .inl x4, uns, uns] [] σ).bind fun q => Rx k_X5_rack 102 [.inr (.inl (16, 0)), .inl x1, .inl x2, .inl x3, .inl x4, .inl s0] (q.1.toList ++ []) q.2 := by
  refine (Rx_N (k := 3) (pc' := 99) (ls' := [.inr (.inl (16, 0)), .inl x1, .inl x2, .inl x3, .inl x4, .inl s0]) (st' := [.inl x4, .inr (.inl (16, 0))]) (σ' := σ) rfl).trans ?_
  exact Rx_call (n := 3) (y' := k_X5_isDone) (as := [.inr (.inl (16, 0)), .inl x4]) (rest := []) rfl rfl rfl
theorem b_X5_rack_102 (x1 : Int) (x2 : Int) (x3 : Int) (x4 : Int) (x5 : Int) (s0 : Int) (σ : St) : Rx k_X5_rack 102 [.inr (.inl (16, 0)), .inl x1, .inl x2, .inl x3, .inl x4, .inl x5] [.inl s0] σ = if s0 = 0 then Rx k_X5_rack 108 [.inr (.inl (16, 0)), .inl x1, .inl x2, .inl x3, .inl x4, .inl x5] [] σ else Rx k_X5_rack 105 [.inr (.inl (16, 0)), .inl x1, .inl x2, .inl x3, .inl x4, .inl x5] [] σ := by
  exact Rx_eq0 (k := 1) rfl
theorem b_X5_rack_105 (x1 : Int) (x2 : Int) (x3 : Int) (x4 : Int) (x5 : Int) (σ : St) : Rx k_X5_rack 105 [.inr (.inl (16, 0)), .inl x1, .inl x2, .inl x3, .inl x4, .inl x5] [] σ = Rx k_X5_rack 62 [.inr (.inl (16, 0)), .inl x1, .inl x2, .inl x3, .inl x4, .inl x5] [] σ := by
  refine (Rx_N (k := 1) (pc' := 62) (ls' := [.inr (.inl (16, 0)), .inl x1, .inl x2, .inl x3, .inl x4, .inl x5]) (st' := []) (σ' := σ) rfl).trans ?_
  rfl
theorem r_X5_rack_108 (x1 : Int) (x2 : Int) (x3 : Int) (x4 : Int) (x5 : Int) (σ : St) : Rx k_X5_rack 108 [.inr (.inl (16, 0)), .inl x1, .inl x2, .inl x3, .inl x4, .inl x5] [] σ = (Rx k_X5_copies 0 [.inr (.inl (17, 3)), .inr (.inl (17, 0)), uns] [] σ).bind fun q => Rx k_X5_rack 125 [.inr (.inl (16, 0)), .inl x1, .inl (wr ((-2000) - x3)), .inl x3, .inl x4, .inl x5] (q.1.toList ++ []) q.2 := by
  refine (Rx_N (k := 8) (pc' := 122) (ls' := [.inr (.inl (16, 0)), .inl x1, .inl (wr ((-2000) - x3)), .inl x3, .inl x4, .inl x5]) (st' := [.inr (.inl (17, 0)), .inr (.inl (17, 3))]) (σ' := σ) rfl).trans ?_
  exact Rx_call (n := 3) (y' := k_X5_copies) (as := [.inr (.inl (17, 3)), .inr (.inl (17, 0))]) (rest := []) rfl rfl rfl
theorem b_X5_rack_108 (x1 : Int) (x2 : Int) (x3 : Int) (x4 : Int) (x5 : Int) (σ : St) (g0a : -2147483648 ≤ ((-2000) - x3)) (g0b : ((-2000) - x3) < 2147483648) : Rx k_X5_rack 108 [.inr (.inl (16, 0)), .inl x1, .inl x2, .inl x3, .inl x4, .inl x5] [] σ = (Rx k_X5_copies 0 [.inr (.inl (17, 3)), .inr (.inl (17, 0)), uns] [] σ).bind fun q => Rx k_X5_rack 125 [.inr (.inl (16, 0)), .inl x1, .inl ((-2000) - x3), .inl x3, .inl x4, .inl x5] (q.1.toList ++ []) q.2 := by
  have e0 := wr_id (x := ((-2000) - x3)) g0a g0b
  have raw := r_X5_rack_108 x1 x2 x3 x4 x5 σ 
  simp only [e0] at raw
  exact raw
theorem b_X5_rack_125 (x1 : Int) (x2 : Int) (x3 : Int) (x4 : Int) (x5 : Int) (σ : St) : Rx k_X5_rack 125 [.inr (.inl (16, 0)), .inl x1, .inl x2, .inl x3, .inl x4, .inl x5] [] σ = Rx k_X5_rack 62 [.inr (.inl (16, 0)), .inl x1, .inl x2, .inl x3, .inl x4, .inl x5] [] σ := by
  refine (Rx_N (k := 1) (pc' := 62) (ls' := [.inr (.inl (16, 0)), .inl x1, .inl x2, .inl x3, .inl x4, .inl x5]) (st' := []) (σ' := σ) rfl).trans ?_
  rfl
theorem b_X5_rack_128 (x1 : Int) (x2 : Int) (u3 : AV) (u4 : AV) (u5 : AV) (σ : St) : Rx k_X5_rack 128 [.inr (.inl (16, 0)), .inl x1, .inl x2, u3, u4, u5] [] σ = if x2 = (-9) then Rx k_X5_rack 139 [.inr (.inl (16, 0)), .inl x1, .inl x2, u3, u4, u5] [] (up σ 16 0 9 0) else Rx k_X5_rack 143 [.inr (.inl (16, 0)), .inl x1, .inl x2, u3, u4, u5] [] (up σ 16 0 9 0) := by
  exact Rx_ne0 (k := 6) rfl
theorem b_X5_rack_139 (x1 : Int) (x2 : Int) (u3 : AV) (u4 : AV) (u5 : AV) (σ : St) : Rx k_X5_rack 139 [.inr (.inl (16, 0)), .inl x1, .inl x2, u3, u4, u5] [] σ = some (some (.inl x1), σ) := by
  refine (Rx_N (k := 2) (pc' := 144) (ls' := [.inr (.inl (16, 0)), .inl x1, .inl x2, u3, u4, u5]) (st' := [.inl x1]) (σ' := σ) rfl).trans ?_
  exact Rx_ret rfl rfl
theorem b_X5_rack_143 (x1 : Int) (x2 : Int) (u3 : AV) (u4 : AV) (u5 : AV) (σ : St) : Rx k_X5_rack 143 [.inr (.inl (16, 0)), .inl x1, .inl x2, u3, u4, u5] [] σ = some (some (.inl x2), σ) := by
  refine (Rx_N (k := 1) (pc' := 144) (ls' := [.inr (.inl (16, 0)), .inl x1, .inl x2, u3, u4, u5]) (st' := [.inl x2]) (σ' := σ) rfl).trans ?_
  exact Rx_ret rfl rfl
theorem b_X5_purpose_0 (x1 : Int) (x2 : Int) (σ : St) : Rx k_X5_purpose 0 [.inr (.inl (16, 0)), .inl x1, .inl x2] [] σ = (Rx k_X5_isPurpose 0 [.inr (.inl (16, 0)), .inl x1] [] σ).bind fun q => Rx k_X5_purpose 5 [.inr (.inl (16, 0)), .inl x1, .inl x2] (q.1.toList ++ []) q.2 := by
  refine (Rx_N (k := 2) (pc' := 2) (ls' := [.inr (.inl (16, 0)), .inl x1, .inl x2]) (st' := [.inl x1, .inr (.inl (16, 0))]) (σ' := σ) rfl).trans ?_
  exact Rx_call (n := 3) (y' := k_X5_isPurpose) (as := [.inr (.inl (16, 0)), .inl x1]) (rest := []) rfl rfl rfl
theorem b_X5_purpose_5 (x1 : Int) (x2 : Int) (s0 : Int) (σ : St) : Rx k_X5_purpose 5 [.inr (.inl (16, 0)), .inl x1, .inl x2] [.inl s0] σ = if s0 = 0 then Rx k_X5_purpose 8 [.inr (.inl (16, 0)), .inl x1, .inl x2] [] σ else Rx k_X5_purpose 14 [.inr (.inl (16, 0)), .inl x1, .inl x2] [] σ := by
  exact Rx_ne0 (k := 1) rfl
theorem b_X5_purpose_8 (x1 : Int) (x2 : Int) (σ : St) : Rx k_X5_purpose 8 [.inr (.inl (16, 0)), .inl x1, .inl x2] [] σ = (Rx k_X5_no 0 [.inr (.inl (16, 0)), .inl (-1)] [] σ).bind fun q => Rx k_X5_purpose 13 [.inr (.inl (16, 0)), .inl x1, .inl x2] (q.1.toList ++ []) q.2 := by
  refine (Rx_N (k := 2) (pc' := 10) (ls' := [.inr (.inl (16, 0)), .inl x1, .inl x2]) (st' := [.inl (-1), .inr (.inl (16, 0))]) (σ' := σ) rfl).trans ?_
  exact Rx_call (n := 3) (y' := k_X5_no) (as := [.inr (.inl (16, 0)), .inl (-1)]) (rest := []) rfl rfl rfl
theorem b_X5_purpose_13 (x1 : Int) (x2 : Int) (s0 : Int) (σ : St) : Rx k_X5_purpose 13 [.inr (.inl (16, 0)), .inl x1, .inl x2] [.inl s0] σ = some (some (.inl s0), σ) := by
  exact Rx_ret rfl rfl
theorem b_X5_purpose_14 (x1 : Int) (x2 : Int) (σ : St) : Rx k_X5_purpose 14 [.inr (.inl (16, 0)), .inl x1, .inl x2] [] σ = (Rx k_X5_isIn 0 [.inl x2, .inl 0, .inl 2] [] σ).bind fun q => Rx k_X5_purpose 20 [.inr (.inl (16, 0)), .inl x1, .inl x2] (q.1.toList ++ []) q.2 := by
  refine (Rx_N (k := 3) (pc' := 17) (ls' := [.inr (.inl (16, 0)), .inl x1, .inl x2]) (st' := [.inl 2, .inl 0, .inl x2]) (σ' := σ) rfl).trans ?_
  exact Rx_call (n := 3) (y' := k_X5_isIn) (as := [.inl x2, .inl 0, .inl 2]) (rest := []) rfl rfl rfl
theorem b_X5_purpose_20 (x1 : Int) (x2 : Int) (s0 : Int) (σ : St) : Rx k_X5_purpose 20 [.inr (.inl (16, 0)), .inl x1, .inl x2] [.inl s0] σ = if s0 = 0 then Rx k_X5_purpose 35 [.inr (.inl (16, 0)), .inl x1, .inl x2] [] σ else Rx k_X5_purpose 23 [.inr (.inl (16, 0)), .inl x1, .inl x2] [] σ := by
  exact Rx_eq0 (k := 1) rfl
theorem b_X5_purpose_23 (x1 : Int) (x2 : Int) (σ : St) : Rx k_X5_purpose 23 [.inr (.inl (16, 0)), .inl x1, .inl x2] [] σ = (Rx k_X5_ofP 0 [.inl x1] [] σ).bind fun q => Rx k_X5_purpose 31 [.inr (.inl (16, 0)), .inl x1, .inl x2] (q.1.toList ++ [.inr (.inl (17, 0))]) q.2 := by
  refine (Rx_N (k := 3) (pc' := 28) (ls' := [.inr (.inl (16, 0)), .inl x1, .inl x2]) (st' := [.inl x1, .inr (.inl (17, 0))]) (σ' := σ) rfl).trans ?_
  exact Rx_call (n := 3) (y' := k_X5_ofP) (as := [.inl x1]) (rest := [.inr (.inl (17, 0))]) rfl rfl rfl
theorem r_X5_purpose_31 (x1 : Int) (x2 : Int) (s1 : Int) (σ : St) (h0 : 0 ≤ (wr (s1 + x2))) (h1 : (wr (s1 + x2)) < 58) : Rx k_X5_purpose 31 [.inr (.inl (16, 0)), .inl x1, .inl x2] [.inl s1, .inr (.inl (17, 0))] σ = some (some (.inl (σ 17 0 (wr (s1 + x2)).toNat)), σ) := by
  refine (Rx_N (k := 2) (pc' := 33) (ls' := [.inr (.inl (16, 0)), .inl x1, .inl x2]) (st' := [.inl (wr (s1 + x2)), .inr (.inl (17, 0))]) (σ' := σ) rfl).trans ?_
  refine (Rx_ild 58 rfl rfl rfl h0 h1).trans ?_
  exact Rx_ret rfl rfl
theorem b_X5_purpose_31 (x1 : Int) (x2 : Int) (s1 : Int) (σ : St) (h0 : 0 ≤ (s1 + x2)) (h1 : (s1 + x2) < 58) (g0a : -2147483648 ≤ (s1 + x2)) (g0b : (s1 + x2) < 2147483648) : Rx k_X5_purpose 31 [.inr (.inl (16, 0)), .inl x1, .inl x2] [.inl s1, .inr (.inl (17, 0))] σ = some (some (.inl (σ 17 0 (s1 + x2).toNat)), σ) := by
  have e0 := wr_id (x := (s1 + x2)) g0a g0b
  have raw := r_X5_purpose_31 x1 x2 s1 σ (by simp only [e0]; exact h0) (by simp only [e0]; exact h1)
  simp only [e0] at raw
  exact raw
theorem b_X5_purpose_35 (x1 : Int) (x2 : Int) (σ : St) : Rx k_X5_purpose 35 [.inr (.inl (16, 0)), .inl x1, .inl x2] [] σ = if x2 = 3 then Rx k_X5_purpose 40 [.inr (.inl (16, 0)), .inl x1, .inl x2] [] σ else Rx k_X5_purpose 51 [.inr (.inl (16, 0)), .inl x1, .inl x2] [] σ := by
  exact Rx_ne0 (k := 3) rfl
theorem b_X5_purpose_40 (x1 : Int) (x2 : Int) (σ : St) : Rx k_X5_purpose 40 [.inr (.inl (16, 0)), .inl x1, .inl x2] [] σ = (Rx k_X5_loadOf 0 [.inr (.inl (17, 0)), .inl x1, uns, uns] [] σ).bind fun q => Rx k_X5_purpose 48 [.inr (.inl (16, 0)), .inl x1, .inl x2] (q.1.toList ++ []) q.2 := by
  refine (Rx_N (k := 3) (pc' := 45) (ls' := [.inr (.inl (16, 0)), .inl x1, .inl x2]) (st' := [.inl x1, .inr (.inl (17, 0))]) (σ' := σ) rfl).trans ?_
  exact Rx_call (n := 3) (y' := k_X5_loadOf) (as := [.inr (.inl (17, 0)), .inl x1]) (rest := []) rfl rfl rfl
theorem b_X5_purpose_48 (x1 : Int) (x2 : Int) (s0 : Int) (σ : St) : Rx k_X5_purpose 48 [.inr (.inl (16, 0)), .inl x1, .inl x2] [.inl s0] σ = some (some (.inl s0), σ) := by
  refine (Rx_N (k := 1) (pc' := 81) (ls' := [.inr (.inl (16, 0)), .inl x1, .inl x2]) (st' := [.inl s0]) (σ' := σ) rfl).trans ?_
  exact Rx_ret rfl rfl
theorem b_X5_purpose_51 (x1 : Int) (x2 : Int) (σ : St) : Rx k_X5_purpose 51 [.inr (.inl (16, 0)), .inl x1, .inl x2] [] σ = if x2 = 4 then Rx k_X5_purpose 56 [.inr (.inl (16, 0)), .inl x1, .inl x2] [] σ else Rx k_X5_purpose 75 [.inr (.inl (16, 0)), .inl x1, .inl x2] [] σ := by
  exact Rx_ne0 (k := 3) rfl
theorem r_X5_purpose_56 (x1 : Int) (x2 : Int) (σ : St) : Rx k_X5_purpose 56 [.inr (.inl (16, 0)), .inl x1, .inl x2] [] σ = (Rx k_X5_lessBy 0 [.inr (.inl (17, 0)), .inl x1, .inl (wr ((σ 17 0 2) + 1)), uns, uns, uns] [] σ).bind fun q => Rx k_X5_purpose 72 [.inr (.inl (16, 0)), .inl x1, .inl x2] (q.1.toList ++ []) q.2 := by
  refine (Rx_N (k := 9) (pc' := 69) (ls' := [.inr (.inl (16, 0)), .inl x1, .inl x2]) (st' := [.inl (wr ((σ 17 0 2) + 1)), .inl x1, .inr (.inl (17, 0))]) (σ' := σ) rfl).trans ?_
  exact Rx_call (n := 3) (y' := k_X5_lessBy) (as := [.inr (.inl (17, 0)), .inl x1, .inl (wr ((σ 17 0 2) + 1))]) (rest := []) rfl rfl rfl
theorem b_X5_purpose_56 (x1 : Int) (x2 : Int) (σ : St) (g0a : -2147483648 ≤ ((σ 17 0 2) + 1)) (g0b : ((σ 17 0 2) + 1) < 2147483648) : Rx k_X5_purpose 56 [.inr (.inl (16, 0)), .inl x1, .inl x2] [] σ = (Rx k_X5_lessBy 0 [.inr (.inl (17, 0)), .inl x1, .inl ((σ 17 0 2) + 1), uns, uns, uns] [] σ).bind fun q => Rx k_X5_purpose 72 [.inr (.inl (16, 0)), .inl x1, .inl x2] (q.1.toList ++ []) q.2 := by
  have e0 := wr_id (x := ((σ 17 0 2) + 1)) g0a g0b
  have raw := r_X5_purpose_56 x1 x2 σ 
  simp only [e0] at raw
  exact raw
theorem b_X5_purpose_72 (x1 : Int) (x2 : Int) (s0 : Int) (σ : St) : Rx k_X5_purpose 72 [.inr (.inl (16, 0)), .inl x1, .inl x2] [.inl s0] σ = some (some (.inl s0), σ) := by
  refine (Rx_N (k := 1) (pc' := 81) (ls' := [.inr (.inl (16, 0)), .inl x1, .inl x2]) (st' := [.inl s0]) (σ' := σ) rfl).trans ?_
  exact Rx_ret rfl rfl
theorem b_X5_purpose_75 (x1 : Int) (x2 : Int) (σ : St) : Rx k_X5_purpose 75 [.inr (.inl (16, 0)), .inl x1, .inl x2] [] σ = (Rx k_X5_no 0 [.inr (.inl (16, 0)), .inl (-2)] [] σ).bind fun q => Rx k_X5_purpose 81 [.inr (.inl (16, 0)), .inl x1, .inl x2] (q.1.toList ++ []) q.2 := by
  refine (Rx_N (k := 2) (pc' := 78) (ls' := [.inr (.inl (16, 0)), .inl x1, .inl x2]) (st' := [.inl (-2), .inr (.inl (16, 0))]) (σ' := σ) rfl).trans ?_
  exact Rx_call (n := 3) (y' := k_X5_no) (as := [.inr (.inl (16, 0)), .inl (-2)]) (rest := []) rfl rfl rfl
theorem b_X5_purpose_81 (x1 : Int) (x2 : Int) (s0 : Int) (σ : St) : Rx k_X5_purpose 81 [.inr (.inl (16, 0)), .inl x1, .inl x2] [.inl s0] σ = some (some (.inl s0), σ) := by
  exact Rx_ret rfl rfl
theorem b_X5_spare_0 (x1 : Int) (σ : St) : Rx k_X5_spare 0 [.inr (.inl (16, 0)), .inl x1] [] σ = (Rx k_X5_isPurpose 0 [.inr (.inl (16, 0)), .inl x1] [] σ).bind fun q => Rx k_X5_spare 5 [.inr (.inl (16, 0)), .inl x1] (q.1.toList ++ []) q.2 := by
  refine (Rx_N (k := 2) (pc' := 2) (ls' := [.inr (.inl (16, 0)), .inl x1]) (st' := [.inl x1, .inr (.inl (16, 0))]) (σ' := σ) rfl).trans ?_
  exact Rx_call (n := 3) (y' := k_X5_isPurpose) (as := [.inr (.inl (16, 0)), .inl x1]) (rest := []) rfl rfl rfl
theorem b_X5_spare_5 (x1 : Int) (s0 : Int) (σ : St) : Rx k_X5_spare 5 [.inr (.inl (16, 0)), .inl x1] [.inl s0] σ = if s0 = 0 then Rx k_X5_spare 19 [.inr (.inl (16, 0)), .inl x1] [] σ else Rx k_X5_spare 8 [.inr (.inl (16, 0)), .inl x1] [] σ := by
  exact Rx_eq0 (k := 1) rfl
theorem b_X5_spare_8 (x1 : Int) (σ : St) : Rx k_X5_spare 8 [.inr (.inl (16, 0)), .inl x1] [] σ = (Rx k_X5_spareOf 0 [.inr (.inl (17, 0)), .inl x1] [] σ).bind fun q => Rx k_X5_spare 16 [.inr (.inl (16, 0)), .inl x1] (q.1.toList ++ []) q.2 := by
  refine (Rx_N (k := 3) (pc' := 13) (ls' := [.inr (.inl (16, 0)), .inl x1]) (st' := [.inl x1, .inr (.inl (17, 0))]) (σ' := σ) rfl).trans ?_
  exact Rx_call (n := 3) (y' := k_X5_spareOf) (as := [.inr (.inl (17, 0)), .inl x1]) (rest := []) rfl rfl rfl
theorem b_X5_spare_16 (x1 : Int) (s0 : Int) (σ : St) : Rx k_X5_spare 16 [.inr (.inl (16, 0)), .inl x1] [.inl s0] σ = some (some (.inl s0), σ) := by
  refine (Rx_N (k := 1) (pc' := 24) (ls' := [.inr (.inl (16, 0)), .inl x1]) (st' := [.inl s0]) (σ' := σ) rfl).trans ?_
  exact Rx_ret rfl rfl
theorem b_X5_spare_19 (x1 : Int) (σ : St) : Rx k_X5_spare 19 [.inr (.inl (16, 0)), .inl x1] [] σ = (Rx k_X5_noFar 0 [.inr (.inl (16, 0)), .inl (-1)] [] σ).bind fun q => Rx k_X5_spare 24 [.inr (.inl (16, 0)), .inl x1] (q.1.toList ++ []) q.2 := by
  refine (Rx_N (k := 2) (pc' := 21) (ls' := [.inr (.inl (16, 0)), .inl x1]) (st' := [.inl (-1), .inr (.inl (16, 0))]) (σ' := σ) rfl).trans ?_
  exact Rx_call (n := 3) (y' := k_X5_noFar) (as := [.inr (.inl (16, 0)), .inl (-1)]) (rest := []) rfl rfl rfl
theorem b_X5_spare_24 (x1 : Int) (s0 : Int) (σ : St) : Rx k_X5_spare 24 [.inr (.inl (16, 0)), .inl x1] [.inl s0] σ = some (some (.inl s0), σ) := by
  exact Rx_ret rfl rfl
theorem b_X5_thing_0 (x1 : Int) (x2 : Int) (σ : St) : Rx k_X5_thing 0 [.inr (.inl (16, 0)), .inl x1, .inl x2] [] σ = (Rx k_X5_isThing 0 [.inr (.inl (16, 0)), .inl x1] [] σ).bind fun q => Rx k_X5_thing 5 [.inr (.inl (16, 0)), .inl x1, .inl x2] (q.1.toList ++ []) q.2 := by
  refine (Rx_N (k := 2) (pc' := 2) (ls' := [.inr (.inl (16, 0)), .inl x1, .inl x2]) (st' := [.inl x1, .inr (.inl (16, 0))]) (σ' := σ) rfl).trans ?_
  exact Rx_call (n := 3) (y' := k_X5_isThing) (as := [.inr (.inl (16, 0)), .inl x1]) (rest := []) rfl rfl rfl
theorem b_X5_thing_5 (x1 : Int) (x2 : Int) (s0 : Int) (σ : St) : Rx k_X5_thing 5 [.inr (.inl (16, 0)), .inl x1, .inl x2] [.inl s0] σ = if s0 = 0 then Rx k_X5_thing 8 [.inr (.inl (16, 0)), .inl x1, .inl x2] [] σ else Rx k_X5_thing 14 [.inr (.inl (16, 0)), .inl x1, .inl x2] [] σ := by
  exact Rx_ne0 (k := 1) rfl
theorem b_X5_thing_8 (x1 : Int) (x2 : Int) (σ : St) : Rx k_X5_thing 8 [.inr (.inl (16, 0)), .inl x1, .inl x2] [] σ = (Rx k_X5_no 0 [.inr (.inl (16, 0)), .inl (-1)] [] σ).bind fun q => Rx k_X5_thing 13 [.inr (.inl (16, 0)), .inl x1, .inl x2] (q.1.toList ++ []) q.2 := by
  refine (Rx_N (k := 2) (pc' := 10) (ls' := [.inr (.inl (16, 0)), .inl x1, .inl x2]) (st' := [.inl (-1), .inr (.inl (16, 0))]) (σ' := σ) rfl).trans ?_
  exact Rx_call (n := 3) (y' := k_X5_no) (as := [.inr (.inl (16, 0)), .inl (-1)]) (rest := []) rfl rfl rfl
theorem b_X5_thing_13 (x1 : Int) (x2 : Int) (s0 : Int) (σ : St) : Rx k_X5_thing 13 [.inr (.inl (16, 0)), .inl x1, .inl x2] [.inl s0] σ = some (some (.inl s0), σ) := by
  exact Rx_ret rfl rfl
theorem b_X5_thing_14 (x1 : Int) (x2 : Int) (σ : St) : Rx k_X5_thing 14 [.inr (.inl (16, 0)), .inl x1, .inl x2] [] σ = (Rx k_X5_isIn 0 [.inl x2, .inl 0, .inl 3] [] σ).bind fun q => Rx k_X5_thing 20 [.inr (.inl (16, 0)), .inl x1, .inl x2] (q.1.toList ++ []) q.2 := by
  refine (Rx_N (k := 3) (pc' := 17) (ls' := [.inr (.inl (16, 0)), .inl x1, .inl x2]) (st' := [.inl 3, .inl 0, .inl x2]) (σ' := σ) rfl).trans ?_
  exact Rx_call (n := 3) (y' := k_X5_isIn) (as := [.inl x2, .inl 0, .inl 3]) (rest := []) rfl rfl rfl
theorem b_X5_thing_20 (x1 : Int) (x2 : Int) (s0 : Int) (σ : St) : Rx k_X5_thing 20 [.inr (.inl (16, 0)), .inl x1, .inl x2] [.inl s0] σ = if s0 = 0 then Rx k_X5_thing 37 [.inr (.inl (16, 0)), .inl x1, .inl x2] [] σ else Rx k_X5_thing 23 [.inr (.inl (16, 0)), .inl x1, .inl x2] [] σ := by
  exact Rx_eq0 (k := 1) rfl
theorem b_X5_thing_23 (x1 : Int) (x2 : Int) (σ : St) : Rx k_X5_thing 23 [.inr (.inl (16, 0)), .inl x1, .inl x2] [] σ = (Rx k_X5_ofT 0 [.inl x1] [] σ).bind fun q => Rx k_X5_thing 31 [.inr (.inl (16, 0)), .inl x1, .inl x2] (q.1.toList ++ [.inr (.inl (17, 0))]) q.2 := by
  refine (Rx_N (k := 3) (pc' := 28) (ls' := [.inr (.inl (16, 0)), .inl x1, .inl x2]) (st' := [.inl x1, .inr (.inl (17, 0))]) (σ' := σ) rfl).trans ?_
  exact Rx_call (n := 3) (y' := k_X5_ofT) (as := [.inl x1]) (rest := [.inr (.inl (17, 0))]) rfl rfl rfl
theorem r_X5_thing_31 (x1 : Int) (x2 : Int) (s1 : Int) (σ : St) (h0 : 0 ≤ (wr (s1 + x2))) (h1 : (wr (s1 + x2)) < 58) : Rx k_X5_thing 31 [.inr (.inl (16, 0)), .inl x1, .inl x2] [.inl s1, .inr (.inl (17, 0))] σ = some (some (.inl (σ 17 0 (wr (s1 + x2)).toNat)), σ) := by
  refine (Rx_N (k := 2) (pc' := 33) (ls' := [.inr (.inl (16, 0)), .inl x1, .inl x2]) (st' := [.inl (wr (s1 + x2)), .inr (.inl (17, 0))]) (σ' := σ) rfl).trans ?_
  refine (Rx_ild 58 rfl rfl rfl h0 h1).trans ?_
  refine (Rx_N (k := 1) (pc' := 43) (ls' := [.inr (.inl (16, 0)), .inl x1, .inl x2]) (st' := [.inl (σ 17 0 (wr (s1 + x2)).toNat)]) (σ' := σ) rfl).trans ?_
  exact Rx_ret rfl rfl
theorem b_X5_thing_31 (x1 : Int) (x2 : Int) (s1 : Int) (σ : St) (h0 : 0 ≤ (s1 + x2)) (h1 : (s1 + x2) < 58) (g0a : -2147483648 ≤ (s1 + x2)) (g0b : (s1 + x2) < 2147483648) : Rx k_X5_thing 31 [.inr (.inl (16, 0)), .inl x1, .inl x2] [.inl s1, .inr (.inl (17, 0))] σ = some (some (.inl (σ 17 0 (s1 + x2).toNat)), σ) := by
  have e0 := wr_id (x := (s1 + x2)) g0a g0b
  have raw := r_X5_thing_31 x1 x2 s1 σ (by simp only [e0]; exact h0) (by simp only [e0]; exact h1)
  simp only [e0] at raw
  exact raw
theorem b_X5_thing_37 (x1 : Int) (x2 : Int) (σ : St) : Rx k_X5_thing 37 [.inr (.inl (16, 0)), .inl x1, .inl x2] [] σ = (Rx k_X5_no 0 [.inr (.inl (16, 0)), .inl (-2)] [] σ).bind fun q => Rx k_X5_thing 43 [.inr (.inl (16, 0)), .inl x1, .inl x2] (q.1.toList ++ []) q.2 := by
  refine (Rx_N (k := 2) (pc' := 40) (ls' := [.inr (.inl (16, 0)), .inl x1, .inl x2]) (st' := [.inl (-2), .inr (.inl (16, 0))]) (σ' := σ) rfl).trans ?_
  exact Rx_call (n := 3) (y' := k_X5_no) (as := [.inr (.inl (16, 0)), .inl (-2)]) (rest := []) rfl rfl rfl
theorem b_X5_thing_43 (x1 : Int) (x2 : Int) (s0 : Int) (σ : St) : Rx k_X5_thing 43 [.inr (.inl (16, 0)), .inl x1, .inl x2] [.inl s0] σ = some (some (.inl s0), σ) := by
  exact Rx_ret rfl rfl
theorem b_X5_at_0 (x1 : Int) (σ : St) : Rx k_X5_at 0 [.inr (.inl (16, 0)), .inl x1] [] σ = (Rx k_X5_isPlace 0 [.inl x1] [] σ).bind fun q => Rx k_X5_at 4 [.inr (.inl (16, 0)), .inl x1] (q.1.toList ++ []) q.2 := by
  refine (Rx_N (k := 1) (pc' := 1) (ls' := [.inr (.inl (16, 0)), .inl x1]) (st' := [.inl x1]) (σ' := σ) rfl).trans ?_
  exact Rx_call (n := 3) (y' := k_X5_isPlace) (as := [.inl x1]) (rest := []) rfl rfl rfl
theorem b_X5_at_4 (x1 : Int) (s0 : Int) (σ : St) : Rx k_X5_at 4 [.inr (.inl (16, 0)), .inl x1] [.inl s0] σ = if s0 = 0 then Rx k_X5_at 18 [.inr (.inl (16, 0)), .inl x1] [] σ else Rx k_X5_at 7 [.inr (.inl (16, 0)), .inl x1] [] σ := by
  exact Rx_eq0 (k := 1) rfl
theorem b_X5_at_7 (x1 : Int) (σ : St) : Rx k_X5_at 7 [.inr (.inl (16, 0)), .inl x1] [] σ = (Rx k_X5_whoAt 0 [.inr (.inl (17, 0)), .inl x1, uns] [] σ).bind fun q => Rx k_X5_at 15 [.inr (.inl (16, 0)), .inl x1] (q.1.toList ++ []) q.2 := by
  refine (Rx_N (k := 3) (pc' := 12) (ls' := [.inr (.inl (16, 0)), .inl x1]) (st' := [.inl x1, .inr (.inl (17, 0))]) (σ' := σ) rfl).trans ?_
  exact Rx_call (n := 3) (y' := k_X5_whoAt) (as := [.inr (.inl (17, 0)), .inl x1]) (rest := []) rfl rfl rfl
theorem b_X5_at_15 (x1 : Int) (s0 : Int) (σ : St) : Rx k_X5_at 15 [.inr (.inl (16, 0)), .inl x1] [.inl s0] σ = some (some (.inl s0), σ) := by
  refine (Rx_N (k := 1) (pc' := 23) (ls' := [.inr (.inl (16, 0)), .inl x1]) (st' := [.inl s0]) (σ' := σ) rfl).trans ?_
  exact Rx_ret rfl rfl
theorem b_X5_at_18 (x1 : Int) (σ : St) : Rx k_X5_at 18 [.inr (.inl (16, 0)), .inl x1] [] σ = (Rx k_X5_no 0 [.inr (.inl (16, 0)), .inl (-1)] [] σ).bind fun q => Rx k_X5_at 23 [.inr (.inl (16, 0)), .inl x1] (q.1.toList ++ []) q.2 := by
  refine (Rx_N (k := 2) (pc' := 20) (ls' := [.inr (.inl (16, 0)), .inl x1]) (st' := [.inl (-1), .inr (.inl (16, 0))]) (σ' := σ) rfl).trans ?_
  exact Rx_call (n := 3) (y' := k_X5_no) (as := [.inr (.inl (16, 0)), .inl (-1)]) (rest := []) rfl rfl rfl
theorem b_X5_at_23 (x1 : Int) (s0 : Int) (σ : St) : Rx k_X5_at 23 [.inr (.inl (16, 0)), .inl x1] [.inl s0] σ = some (some (.inl s0), σ) := by
  exact Rx_ret rfl rfl
theorem b_X5_leans_0 (x1 : Int) (x2 : Int) (u3 : AV) (σ : St) : Rx k_X5_leans 0 [.inr (.inl (16, 0)), .inl x1, .inl x2, u3] [] σ = (Rx k_X5_isThing 0 [.inr (.inl (16, 0)), .inl x1] [] σ).bind fun q => Rx k_X5_leans 5 [.inr (.inl (16, 0)), .inl x1, .inl x2, u3] (q.1.toList ++ []) q.2 := by
  refine (Rx_N (k := 2) (pc' := 2) (ls' := [.inr (.inl (16, 0)), .inl x1, .inl x2, u3]) (st' := [.inl x1, .inr (.inl (16, 0))]) (σ' := σ) rfl).trans ?_
  exact Rx_call (n := 3) (y' := k_X5_isThing) (as := [.inr (.inl (16, 0)), .inl x1]) (rest := []) rfl rfl rfl
theorem b_X5_leans_5 (x1 : Int) (x2 : Int) (u3 : AV) (s0 : Int) (σ : St) : Rx k_X5_leans 5 [.inr (.inl (16, 0)), .inl x1, .inl x2, u3] [.inl s0] σ = if s0 = 0 then Rx k_X5_leans 16 [.inr (.inl (16, 0)), .inl x1, .inl x2, u3] [] σ else Rx k_X5_leans 8 [.inr (.inl (16, 0)), .inl x1, .inl x2, u3] [] σ := by
  exact Rx_eq0 (k := 1) rfl
theorem b_X5_leans_8 (x1 : Int) (x2 : Int) (u3 : AV) (σ : St) : Rx k_X5_leans 8 [.inr (.inl (16, 0)), .inl x1, .inl x2, u3] [] σ = (Rx k_X5_isPurpose 0 [.inr (.inl (16, 0)), .inl x2] [] σ).bind fun q => Rx k_X5_leans 13 [.inr (.inl (16, 0)), .inl x1, .inl x2, u3] (q.1.toList ++ []) q.2 := by
  refine (Rx_N (k := 2) (pc' := 10) (ls' := [.inr (.inl (16, 0)), .inl x1, .inl x2, u3]) (st' := [.inl x2, .inr (.inl (16, 0))]) (σ' := σ) rfl).trans ?_
  exact Rx_call (n := 3) (y' := k_X5_isPurpose) (as := [.inr (.inl (16, 0)), .inl x2]) (rest := []) rfl rfl rfl
theorem b_X5_leans_13 (x1 : Int) (x2 : Int) (u3 : AV) (s0 : Int) (σ : St) : Rx k_X5_leans 13 [.inr (.inl (16, 0)), .inl x1, .inl x2, u3] [.inl s0] σ = if s0 = 0 then Rx k_X5_leans 16 [.inr (.inl (16, 0)), .inl x1, .inl x2, u3] [] σ else Rx k_X5_leans 22 [.inr (.inl (16, 0)), .inl x1, .inl x2, u3] [] σ := by
  exact Rx_ne0 (k := 1) rfl
theorem b_X5_leans_16 (x1 : Int) (x2 : Int) (u3 : AV) (σ : St) : Rx k_X5_leans 16 [.inr (.inl (16, 0)), .inl x1, .inl x2, u3] [] σ = (Rx k_X5_no 0 [.inr (.inl (16, 0)), .inl (-1)] [] σ).bind fun q => Rx k_X5_leans 21 [.inr (.inl (16, 0)), .inl x1, .inl x2, u3] (q.1.toList ++ []) q.2 := by
  refine (Rx_N (k := 2) (pc' := 18) (ls' := [.inr (.inl (16, 0)), .inl x1, .inl x2, u3]) (st' := [.inl (-1), .inr (.inl (16, 0))]) (σ' := σ) rfl).trans ?_
  exact Rx_call (n := 3) (y' := k_X5_no) (as := [.inr (.inl (16, 0)), .inl (-1)]) (rest := []) rfl rfl rfl
theorem b_X5_leans_21 (x1 : Int) (x2 : Int) (u3 : AV) (s0 : Int) (σ : St) : Rx k_X5_leans 21 [.inr (.inl (16, 0)), .inl x1, .inl x2, u3] [.inl s0] σ = some (some (.inl s0), σ) := by
  exact Rx_ret rfl rfl
theorem b_X5_leans_22 (x1 : Int) (x2 : Int) (u3 : AV) (σ : St) : Rx k_X5_leans 22 [.inr (.inl (16, 0)), .inl x1, .inl x2, u3] [] σ = (Rx k_X5_ofT 0 [.inl x1] [] σ).bind fun q => Rx k_X5_leans 30 [.inr (.inl (16, 0)), .inl x1, .inl x2, u3] (q.1.toList ++ [.inr (.inl (17, 0))]) q.2 := by
  refine (Rx_N (k := 3) (pc' := 27) (ls' := [.inr (.inl (16, 0)), .inl x1, .inl x2, u3]) (st' := [.inl x1, .inr (.inl (17, 0))]) (σ' := σ) rfl).trans ?_
  exact Rx_call (n := 3) (y' := k_X5_ofT) (as := [.inl x1]) (rest := [.inr (.inl (17, 0))]) rfl rfl rfl
theorem r_X5_leans_30 (x1 : Int) (x2 : Int) (u3 : AV) (s1 : Int) (σ : St) (h0 : 0 ≤ (wr (s1 + 2))) (h1 : (wr (s1 + 2)) < 58) : Rx k_X5_leans 30 [.inr (.inl (16, 0)), .inl x1, .inl x2, u3] [.inl s1, .inr (.inl (17, 0))] σ = (Rx k_X5_ofT 0 [.inl x1] [] σ).bind fun q => Rx k_X5_leans 42 [.inr (.inl (16, 0)), .inl x1, .inl x2, .inl (σ 17 0 (wr (s1 + 2)).toNat)] (q.1.toList ++ [.inr (.inl (17, 0))]) q.2 := by
  refine (Rx_N (k := 2) (pc' := 32) (ls' := [.inr (.inl (16, 0)), .inl x1, .inl x2, u3]) (st' := [.inl (wr (s1 + 2)), .inr (.inl (17, 0))]) (σ' := σ) rfl).trans ?_
  refine (Rx_ild 58 rfl rfl rfl h0 h1).trans ?_
  refine (Rx_N (k := 4) (pc' := 39) (ls' := [.inr (.inl (16, 0)), .inl x1, .inl x2, .inl (σ 17 0 (wr (s1 + 2)).toNat)]) (st' := [.inl x1, .inr (.inl (17, 0))]) (σ' := σ) rfl).trans ?_
  exact Rx_call (n := 3) (y' := k_X5_ofT) (as := [.inl x1]) (rest := [.inr (.inl (17, 0))]) rfl rfl rfl
theorem b_X5_leans_30 (x1 : Int) (x2 : Int) (u3 : AV) (s1 : Int) (σ : St) (h0 : 0 ≤ (s1 + 2)) (h1 : (s1 + 2) < 58) (g0a : -2147483648 ≤ (s1 + 2)) (g0b : (s1 + 2) < 2147483648) : Rx k_X5_leans 30 [.inr (.inl (16, 0)), .inl x1, .inl x2, u3] [.inl s1, .inr (.inl (17, 0))] σ = (Rx k_X5_ofT 0 [.inl x1] [] σ).bind fun q => Rx k_X5_leans 42 [.inr (.inl (16, 0)), .inl x1, .inl x2, .inl (σ 17 0 (s1 + 2).toNat)] (q.1.toList ++ [.inr (.inl (17, 0))]) q.2 := by
  have e0 := wr_id (x := (s1 + 2)) g0a g0b
  have raw := r_X5_leans_30 x1 x2 u3 s1 σ (by simp only [e0]; exact h0) (by simp only [e0]; exact h1)
  simp only [e0] at raw
  exact raw
theorem r_X5_leans_42 (x1 : Int) (x2 : Int) (x3 : Int) (s1 : Int) (σ : St) (h0 : 0 ≤ (wr (s1 + 2))) (h1 : (wr (s1 + 2)) < 58) : Rx k_X5_leans 42 [.inr (.inl (16, 0)), .inl x1, .inl x2, .inl x3] [.inl s1, .inr (.inl (17, 0))] σ = some (some (.inl x3), (up σ 17 0 ((wr (s1 + 2)).toNat) x2)) := by
  refine (Rx_N (k := 3) (pc' := 45) (ls' := [.inr (.inl (16, 0)), .inl x1, .inl x2, .inl x3]) (st' := [.inl x2, .inl (wr (s1 + 2)), .inr (.inl (17, 0))]) (σ' := σ) rfl).trans ?_
  refine (Rx_ist 58 rfl rfl h0 h1).trans ?_
  refine (Rx_N (k := 1) (pc' := 47) (ls' := [.inr (.inl (16, 0)), .inl x1, .inl x2, .inl x3]) (st' := [.inl x3]) (σ' := (up σ 17 0 ((wr (s1 + 2)).toNat) x2)) rfl).trans ?_
  exact Rx_ret rfl rfl
theorem b_X5_leans_42 (x1 : Int) (x2 : Int) (x3 : Int) (s1 : Int) (σ : St) (h0 : 0 ≤ (s1 + 2)) (h1 : (s1 + 2) < 58) (g0a : -2147483648 ≤ (s1 + 2)) (g0b : (s1 + 2) < 2147483648) : Rx k_X5_leans 42 [.inr (.inl (16, 0)), .inl x1, .inl x2, .inl x3] [.inl s1, .inr (.inl (17, 0))] σ = some (some (.inl x3), (up σ 17 0 (((s1 + 2)).toNat) x2)) := by
  have e0 := wr_id (x := (s1 + 2)) g0a g0b
  have raw := r_X5_leans_42 x1 x2 x3 s1 σ (by simp only [e0]; exact h0) (by simp only [e0]; exact h1)
  simp only [e0] at raw
  exact raw
theorem b_X5_moves_0 (x1 : Int) (x2 : Int) (u3 : AV) (u4 : AV) (σ : St) : Rx k_X5_moves 0 [.inr (.inl (16, 0)), .inl x1, .inl x2, u3, u4] [] σ = (Rx k_X5_isThing 0 [.inr (.inl (16, 0)), .inl x1] [] σ).bind fun q => Rx k_X5_moves 5 [.inr (.inl (16, 0)), .inl x1, .inl x2, u3, u4] (q.1.toList ++ []) q.2 := by
  refine (Rx_N (k := 2) (pc' := 2) (ls' := [.inr (.inl (16, 0)), .inl x1, .inl x2, u3, u4]) (st' := [.inl x1, .inr (.inl (16, 0))]) (σ' := σ) rfl).trans ?_
  exact Rx_call (n := 3) (y' := k_X5_isThing) (as := [.inr (.inl (16, 0)), .inl x1]) (rest := []) rfl rfl rfl
theorem b_X5_moves_5 (x1 : Int) (x2 : Int) (u3 : AV) (u4 : AV) (s0 : Int) (σ : St) : Rx k_X5_moves 5 [.inr (.inl (16, 0)), .inl x1, .inl x2, u3, u4] [.inl s0] σ = if s0 = 0 then Rx k_X5_moves 15 [.inr (.inl (16, 0)), .inl x1, .inl x2, u3, u4] [] σ else Rx k_X5_moves 8 [.inr (.inl (16, 0)), .inl x1, .inl x2, u3, u4] [] σ := by
  exact Rx_eq0 (k := 1) rfl
theorem b_X5_moves_8 (x1 : Int) (x2 : Int) (u3 : AV) (u4 : AV) (σ : St) : Rx k_X5_moves 8 [.inr (.inl (16, 0)), .inl x1, .inl x2, u3, u4] [] σ = (Rx k_X5_isPlace 0 [.inl x2] [] σ).bind fun q => Rx k_X5_moves 12 [.inr (.inl (16, 0)), .inl x1, .inl x2, u3, u4] (q.1.toList ++ []) q.2 := by
  refine (Rx_N (k := 1) (pc' := 9) (ls' := [.inr (.inl (16, 0)), .inl x1, .inl x2, u3, u4]) (st' := [.inl x2]) (σ' := σ) rfl).trans ?_
  exact Rx_call (n := 3) (y' := k_X5_isPlace) (as := [.inl x2]) (rest := []) rfl rfl rfl
theorem b_X5_moves_12 (x1 : Int) (x2 : Int) (u3 : AV) (u4 : AV) (s0 : Int) (σ : St) : Rx k_X5_moves 12 [.inr (.inl (16, 0)), .inl x1, .inl x2, u3, u4] [.inl s0] σ = if s0 = 0 then Rx k_X5_moves 15 [.inr (.inl (16, 0)), .inl x1, .inl x2, u3, u4] [] σ else Rx k_X5_moves 21 [.inr (.inl (16, 0)), .inl x1, .inl x2, u3, u4] [] σ := by
  exact Rx_ne0 (k := 1) rfl
theorem b_X5_moves_15 (x1 : Int) (x2 : Int) (u3 : AV) (u4 : AV) (σ : St) : Rx k_X5_moves 15 [.inr (.inl (16, 0)), .inl x1, .inl x2, u3, u4] [] σ = (Rx k_X5_no 0 [.inr (.inl (16, 0)), .inl (-1)] [] σ).bind fun q => Rx k_X5_moves 20 [.inr (.inl (16, 0)), .inl x1, .inl x2, u3, u4] (q.1.toList ++ []) q.2 := by
  refine (Rx_N (k := 2) (pc' := 17) (ls' := [.inr (.inl (16, 0)), .inl x1, .inl x2, u3, u4]) (st' := [.inl (-1), .inr (.inl (16, 0))]) (σ' := σ) rfl).trans ?_
  exact Rx_call (n := 3) (y' := k_X5_no) (as := [.inr (.inl (16, 0)), .inl (-1)]) (rest := []) rfl rfl rfl
theorem b_X5_moves_20 (x1 : Int) (x2 : Int) (u3 : AV) (u4 : AV) (s0 : Int) (σ : St) : Rx k_X5_moves 20 [.inr (.inl (16, 0)), .inl x1, .inl x2, u3, u4] [.inl s0] σ = some (some (.inl s0), σ) := by
  exact Rx_ret rfl rfl
theorem b_X5_moves_21 (x1 : Int) (x2 : Int) (u3 : AV) (u4 : AV) (σ : St) : Rx k_X5_moves 21 [.inr (.inl (16, 0)), .inl x1, .inl x2, u3, u4] [] σ = (Rx k_X5_whoAt 0 [.inr (.inl (17, 0)), .inl x2, uns] [] σ).bind fun q => Rx k_X5_moves 29 [.inr (.inl (16, 0)), .inl x1, .inl x2, u3, u4] (q.1.toList ++ []) q.2 := by
  refine (Rx_N (k := 3) (pc' := 26) (ls' := [.inr (.inl (16, 0)), .inl x1, .inl x2, u3, u4]) (st' := [.inl x2, .inr (.inl (17, 0))]) (σ' := σ) rfl).trans ?_
  exact Rx_call (n := 3) (y' := k_X5_whoAt) (as := [.inr (.inl (17, 0)), .inl x2]) (rest := []) rfl rfl rfl
theorem b_X5_moves_29 (x1 : Int) (x2 : Int) (u3 : AV) (u4 : AV) (s0 : Int) (σ : St) : Rx k_X5_moves 29 [.inr (.inl (16, 0)), .inl x1, .inl x2, u3, u4] [.inl s0] σ = if s0 < 0 then Rx k_X5_moves 46 [.inr (.inl (16, 0)), .inl x1, .inl x2, .inl s0, u4] [] σ else Rx k_X5_moves 34 [.inr (.inl (16, 0)), .inl x1, .inl x2, .inl s0, u4] [] σ := by
  exact Rx_lt0 (k := 3) rfl
theorem b_X5_moves_34 (x1 : Int) (x2 : Int) (x3 : Int) (u4 : AV) (σ : St) : Rx k_X5_moves 34 [.inr (.inl (16, 0)), .inl x1, .inl x2, .inl x3, u4] [] σ = if x3 = x1 then Rx k_X5_moves 46 [.inr (.inl (16, 0)), .inl x1, .inl x2, .inl x3, u4] [] σ else Rx k_X5_moves 39 [.inr (.inl (16, 0)), .inl x1, .inl x2, .inl x3, u4] [] σ := by
  exact Rx_eq0 (k := 3) rfl
theorem b_X5_moves_39 (x1 : Int) (x2 : Int) (x3 : Int) (u4 : AV) (σ : St) : Rx k_X5_moves 39 [.inr (.inl (16, 0)), .inl x1, .inl x2, .inl x3, u4] [] σ = (Rx k_X5_no 0 [.inr (.inl (16, 0)), .inl (-3)] [] σ).bind fun q => Rx k_X5_moves 45 [.inr (.inl (16, 0)), .inl x1, .inl x2, .inl x3, u4] (q.1.toList ++ []) q.2 := by
  refine (Rx_N (k := 2) (pc' := 42) (ls' := [.inr (.inl (16, 0)), .inl x1, .inl x2, .inl x3, u4]) (st' := [.inl (-3), .inr (.inl (16, 0))]) (σ' := σ) rfl).trans ?_
  exact Rx_call (n := 3) (y' := k_X5_no) (as := [.inr (.inl (16, 0)), .inl (-3)]) (rest := []) rfl rfl rfl
theorem b_X5_moves_45 (x1 : Int) (x2 : Int) (x3 : Int) (u4 : AV) (s0 : Int) (σ : St) : Rx k_X5_moves 45 [.inr (.inl (16, 0)), .inl x1, .inl x2, .inl x3, u4] [.inl s0] σ = some (some (.inl s0), σ) := by
  exact Rx_ret rfl rfl
theorem b_X5_moves_46 (x1 : Int) (x2 : Int) (x3 : Int) (u4 : AV) (σ : St) : Rx k_X5_moves 46 [.inr (.inl (16, 0)), .inl x1, .inl x2, .inl x3, u4] [] σ = (Rx k_X5_ofT 0 [.inl x1] [] σ).bind fun q => Rx k_X5_moves 54 [.inr (.inl (16, 0)), .inl x1, .inl x2, .inl x3, u4] (q.1.toList ++ [.inr (.inl (17, 0))]) q.2 := by
  refine (Rx_N (k := 3) (pc' := 51) (ls' := [.inr (.inl (16, 0)), .inl x1, .inl x2, .inl x3, u4]) (st' := [.inl x1, .inr (.inl (17, 0))]) (σ' := σ) rfl).trans ?_
  exact Rx_call (n := 3) (y' := k_X5_ofT) (as := [.inl x1]) (rest := [.inr (.inl (17, 0))]) rfl rfl rfl
theorem r_X5_moves_54 (x1 : Int) (x2 : Int) (x3 : Int) (u4 : AV) (s1 : Int) (σ : St) (h0 : 0 ≤ (wr (s1 + 1))) (h1 : (wr (s1 + 1)) < 58) : Rx k_X5_moves 54 [.inr (.inl (16, 0)), .inl x1, .inl x2, .inl x3, u4] [.inl s1, .inr (.inl (17, 0))] σ = (Rx k_X5_ofT 0 [.inl x1] [] σ).bind fun q => Rx k_X5_moves 67 [.inr (.inl (16, 0)), .inl x1, .inl x2, .inl x3, .inl (σ 17 0 (wr (s1 + 1)).toNat)] (q.1.toList ++ [.inr (.inl (17, 0))]) q.2 := by
  refine (Rx_N (k := 2) (pc' := 56) (ls' := [.inr (.inl (16, 0)), .inl x1, .inl x2, .inl x3, u4]) (st' := [.inl (wr (s1 + 1)), .inr (.inl (17, 0))]) (σ' := σ) rfl).trans ?_
  refine (Rx_ild 58 rfl rfl rfl h0 h1).trans ?_
  refine (Rx_N (k := 4) (pc' := 64) (ls' := [.inr (.inl (16, 0)), .inl x1, .inl x2, .inl x3, .inl (σ 17 0 (wr (s1 + 1)).toNat)]) (st' := [.inl x1, .inr (.inl (17, 0))]) (σ' := σ) rfl).trans ?_
  exact Rx_call (n := 3) (y' := k_X5_ofT) (as := [.inl x1]) (rest := [.inr (.inl (17, 0))]) rfl rfl rfl
theorem b_X5_moves_54 (x1 : Int) (x2 : Int) (x3 : Int) (u4 : AV) (s1 : Int) (σ : St) (h0 : 0 ≤ (s1 + 1)) (h1 : (s1 + 1) < 58) (g0a : -2147483648 ≤ (s1 + 1)) (g0b : (s1 + 1) < 2147483648) : Rx k_X5_moves 54 [.inr (.inl (16, 0)), .inl x1, .inl x2, .inl x3, u4] [.inl s1, .inr (.inl (17, 0))] σ = (Rx k_X5_ofT 0 [.inl x1] [] σ).bind fun q => Rx k_X5_moves 67 [.inr (.inl (16, 0)), .inl x1, .inl x2, .inl x3, .inl (σ 17 0 (s1 + 1).toNat)] (q.1.toList ++ [.inr (.inl (17, 0))]) q.2 := by
  have e0 := wr_id (x := (s1 + 1)) g0a g0b
  have raw := r_X5_moves_54 x1 x2 x3 u4 s1 σ (by simp only [e0]; exact h0) (by simp only [e0]; exact h1)
  simp only [e0] at raw
  exact raw
theorem r_X5_moves_67 (x1 : Int) (x2 : Int) (x3 : Int) (x4 : Int) (s1 : Int) (σ : St) (h0 : 0 ≤ (wr (s1 + 1))) (h1 : (wr (s1 + 1)) < 58) : Rx k_X5_moves 67 [.inr (.inl (16, 0)), .inl x1, .inl x2, .inl x3, .inl x4] [.inl s1, .inr (.inl (17, 0))] σ = some (some (.inl x4), (up σ 17 0 ((wr (s1 + 1)).toNat) x2)) := by
  refine (Rx_N (k := 3) (pc' := 70) (ls' := [.inr (.inl (16, 0)), .inl x1, .inl x2, .inl x3, .inl x4]) (st' := [.inl x2, .inl (wr (s1 + 1)), .inr (.inl (17, 0))]) (σ' := σ) rfl).trans ?_
  refine (Rx_ist 58 rfl rfl h0 h1).trans ?_
  refine (Rx_N (k := 1) (pc' := 73) (ls' := [.inr (.inl (16, 0)), .inl x1, .inl x2, .inl x3, .inl x4]) (st' := [.inl x4]) (σ' := (up σ 17 0 ((wr (s1 + 1)).toNat) x2)) rfl).trans ?_
  exact Rx_ret rfl rfl
theorem b_X5_moves_67 (x1 : Int) (x2 : Int) (x3 : Int) (x4 : Int) (s1 : Int) (σ : St) (h0 : 0 ≤ (s1 + 1)) (h1 : (s1 + 1) < 58) (g0a : -2147483648 ≤ (s1 + 1)) (g0b : (s1 + 1) < 2147483648) : Rx k_X5_moves 67 [.inr (.inl (16, 0)), .inl x1, .inl x2, .inl x3, .inl x4] [.inl s1, .inr (.inl (17, 0))] σ = some (some (.inl x4), (up σ 17 0 (((s1 + 1)).toNat) x2)) := by
  have e0 := wr_id (x := (s1 + 1)) g0a g0b
  have raw := r_X5_moves_67 x1 x2 x3 x4 s1 σ (by simp only [e0]; exact h0) (by simp only [e0]; exact h1)
  simp only [e0] at raw
  exact raw
theorem b_X5_setsUp_0 (x1 : Int) (u2 : AV) (σ : St) : Rx k_X5_setsUp 0 [.inr (.inl (16, 0)), .inl x1, u2] [] σ = (Rx k_X5_isThing 0 [.inr (.inl (16, 0)), .inl x1] [] σ).bind fun q => Rx k_X5_setsUp 5 [.inr (.inl (16, 0)), .inl x1, u2] (q.1.toList ++ []) q.2 := by
  refine (Rx_N (k := 2) (pc' := 2) (ls' := [.inr (.inl (16, 0)), .inl x1, u2]) (st' := [.inl x1, .inr (.inl (16, 0))]) (σ' := σ) rfl).trans ?_
  exact Rx_call (n := 3) (y' := k_X5_isThing) (as := [.inr (.inl (16, 0)), .inl x1]) (rest := []) rfl rfl rfl
theorem b_X5_setsUp_5 (x1 : Int) (u2 : AV) (s0 : Int) (σ : St) : Rx k_X5_setsUp 5 [.inr (.inl (16, 0)), .inl x1, u2] [.inl s0] σ = if s0 = 0 then Rx k_X5_setsUp 8 [.inr (.inl (16, 0)), .inl x1, u2] [] σ else Rx k_X5_setsUp 14 [.inr (.inl (16, 0)), .inl x1, u2] [] σ := by
  exact Rx_ne0 (k := 1) rfl
theorem b_X5_setsUp_8 (x1 : Int) (u2 : AV) (σ : St) : Rx k_X5_setsUp 8 [.inr (.inl (16, 0)), .inl x1, u2] [] σ = (Rx k_X5_no 0 [.inr (.inl (16, 0)), .inl (-1)] [] σ).bind fun q => Rx k_X5_setsUp 13 [.inr (.inl (16, 0)), .inl x1, u2] (q.1.toList ++ []) q.2 := by
  refine (Rx_N (k := 2) (pc' := 10) (ls' := [.inr (.inl (16, 0)), .inl x1, u2]) (st' := [.inl (-1), .inr (.inl (16, 0))]) (σ' := σ) rfl).trans ?_
  exact Rx_call (n := 3) (y' := k_X5_no) (as := [.inr (.inl (16, 0)), .inl (-1)]) (rest := []) rfl rfl rfl
theorem b_X5_setsUp_13 (x1 : Int) (u2 : AV) (s0 : Int) (σ : St) : Rx k_X5_setsUp 13 [.inr (.inl (16, 0)), .inl x1, u2] [.inl s0] σ = some (some (.inl s0), σ) := by
  exact Rx_ret rfl rfl
theorem b_X5_setsUp_14 (x1 : Int) (u2 : AV) (σ : St) : Rx k_X5_setsUp 14 [.inr (.inl (16, 0)), .inl x1, u2] [] σ = (Rx k_X5_ofT 0 [.inl x1] [] σ).bind fun q => Rx k_X5_setsUp 22 [.inr (.inl (16, 0)), .inl x1, u2] (q.1.toList ++ [.inr (.inl (17, 0))]) q.2 := by
  refine (Rx_N (k := 3) (pc' := 19) (ls' := [.inr (.inl (16, 0)), .inl x1, u2]) (st' := [.inl x1, .inr (.inl (17, 0))]) (σ' := σ) rfl).trans ?_
  exact Rx_call (n := 3) (y' := k_X5_ofT) (as := [.inl x1]) (rest := [.inr (.inl (17, 0))]) rfl rfl rfl
theorem r_X5_setsUp_22 (x1 : Int) (u2 : AV) (s1 : Int) (σ : St) (h0 : 0 ≤ (wr (s1 + 3))) (h1 : (wr (s1 + 3)) < 58) : Rx k_X5_setsUp 22 [.inr (.inl (16, 0)), .inl x1, u2] [.inl s1, .inr (.inl (17, 0))] σ = (Rx k_X5_ofT 0 [.inl x1] [] σ).bind fun q => Rx k_X5_setsUp 34 [.inr (.inl (16, 0)), .inl x1, .inl (σ 17 0 (wr (s1 + 3)).toNat)] (q.1.toList ++ [.inr (.inl (17, 0))]) q.2 := by
  refine (Rx_N (k := 2) (pc' := 24) (ls' := [.inr (.inl (16, 0)), .inl x1, u2]) (st' := [.inl (wr (s1 + 3)), .inr (.inl (17, 0))]) (σ' := σ) rfl).trans ?_
  refine (Rx_ild 58 rfl rfl rfl h0 h1).trans ?_
  refine (Rx_N (k := 4) (pc' := 31) (ls' := [.inr (.inl (16, 0)), .inl x1, .inl (σ 17 0 (wr (s1 + 3)).toNat)]) (st' := [.inl x1, .inr (.inl (17, 0))]) (σ' := σ) rfl).trans ?_
  exact Rx_call (n := 3) (y' := k_X5_ofT) (as := [.inl x1]) (rest := [.inr (.inl (17, 0))]) rfl rfl rfl
theorem b_X5_setsUp_22 (x1 : Int) (u2 : AV) (s1 : Int) (σ : St) (h0 : 0 ≤ (s1 + 3)) (h1 : (s1 + 3) < 58) (g0a : -2147483648 ≤ (s1 + 3)) (g0b : (s1 + 3) < 2147483648) : Rx k_X5_setsUp 22 [.inr (.inl (16, 0)), .inl x1, u2] [.inl s1, .inr (.inl (17, 0))] σ = (Rx k_X5_ofT 0 [.inl x1] [] σ).bind fun q => Rx k_X5_setsUp 34 [.inr (.inl (16, 0)), .inl x1, .inl (σ 17 0 (s1 + 3).toNat)] (q.1.toList ++ [.inr (.inl (17, 0))]) q.2 := by
  have e0 := wr_id (x := (s1 + 3)) g0a g0b
  have raw := r_X5_setsUp_22 x1 u2 s1 σ (by simp only [e0]; exact h0) (by simp only [e0]; exact h1)
  simp only [e0] at raw
  exact raw
theorem r_X5_setsUp_34 (x1 : Int) (x2 : Int) (s1 : Int) (σ : St) (h0 : 0 ≤ (wr (s1 + 3))) (h1 : (wr (s1 + 3)) < 58) : Rx k_X5_setsUp 34 [.inr (.inl (16, 0)), .inl x1, .inl x2] [.inl s1, .inr (.inl (17, 0))] σ = some (some (.inl (wr (1 - x2))), (up σ 17 0 ((wr (s1 + 3)).toNat) 1)) := by
  refine (Rx_N (k := 3) (pc' := 37) (ls' := [.inr (.inl (16, 0)), .inl x1, .inl x2]) (st' := [.inl 1, .inl (wr (s1 + 3)), .inr (.inl (17, 0))]) (σ' := σ) rfl).trans ?_
  refine (Rx_ist 58 rfl rfl h0 h1).trans ?_
  refine (Rx_N (k := 3) (pc' := 41) (ls' := [.inr (.inl (16, 0)), .inl x1, .inl x2]) (st' := [.inl (wr (1 - x2))]) (σ' := (up σ 17 0 ((wr (s1 + 3)).toNat) 1)) rfl).trans ?_
  exact Rx_ret rfl rfl
theorem b_X5_setsUp_34 (x1 : Int) (x2 : Int) (s1 : Int) (σ : St) (h0 : 0 ≤ (s1 + 3)) (h1 : (s1 + 3) < 58) (g0a : -2147483648 ≤ (1 - x2)) (g0b : (1 - x2) < 2147483648) (g1a : -2147483648 ≤ (s1 + 3)) (g1b : (s1 + 3) < 2147483648) : Rx k_X5_setsUp 34 [.inr (.inl (16, 0)), .inl x1, .inl x2] [.inl s1, .inr (.inl (17, 0))] σ = some (some (.inl (1 - x2)), (up σ 17 0 (((s1 + 3)).toNat) 1)) := by
  have e0 := wr_id (x := (1 - x2)) g0a g0b
  have e1 := wr_id (x := (s1 + 3)) g1a g1b
  have raw := r_X5_setsUp_34 x1 x2 s1 σ (by simp only [e0, e1]; exact h0) (by simp only [e0, e1]; exact h1)
  simp only [e0, e1] at raw
  exact raw
theorem b_X5_wrongUp_0 (x1 : Int) (σ : St) : Rx k_X5_wrongUp 0 [.inr (.inl (16, 0)), .inl x1] [] σ = (Rx k_X5_isThing 0 [.inr (.inl (16, 0)), .inl x1] [] σ).bind fun q => Rx k_X5_wrongUp 5 [.inr (.inl (16, 0)), .inl x1] (q.1.toList ++ []) q.2 := by
  refine (Rx_N (k := 2) (pc' := 2) (ls' := [.inr (.inl (16, 0)), .inl x1]) (st' := [.inl x1, .inr (.inl (16, 0))]) (σ' := σ) rfl).trans ?_
  exact Rx_call (n := 3) (y' := k_X5_isThing) (as := [.inr (.inl (16, 0)), .inl x1]) (rest := []) rfl rfl rfl
theorem b_X5_wrongUp_5 (x1 : Int) (s0 : Int) (σ : St) : Rx k_X5_wrongUp 5 [.inr (.inl (16, 0)), .inl x1] [.inl s0] σ = if s0 = 0 then Rx k_X5_wrongUp 8 [.inr (.inl (16, 0)), .inl x1] [] σ else Rx k_X5_wrongUp 12 [.inr (.inl (16, 0)), .inl x1] [] σ := by
  exact Rx_ne0 (k := 1) rfl
theorem b_X5_wrongUp_8 (x1 : Int) (σ : St) : Rx k_X5_wrongUp 8 [.inr (.inl (16, 0)), .inl x1] [] σ = some (some (.inl (-1)), σ) := by
  refine (Rx_N (k := 2) (pc' := 29) (ls' := [.inr (.inl (16, 0)), .inl x1]) (st' := [.inl (-1)]) (σ' := σ) rfl).trans ?_
  exact Rx_ret rfl rfl
theorem b_X5_wrongUp_12 (x1 : Int) (σ : St) : Rx k_X5_wrongUp 12 [.inr (.inl (16, 0)), .inl x1] [] σ = (Rx k_X5_isUp 0 [.inr (.inl (17, 0)), .inl x1] [] σ).bind fun q => Rx k_X5_wrongUp 20 [.inr (.inl (16, 0)), .inl x1] (q.1.toList ++ []) q.2 := by
  refine (Rx_N (k := 3) (pc' := 17) (ls' := [.inr (.inl (16, 0)), .inl x1]) (st' := [.inl x1, .inr (.inl (17, 0))]) (σ' := σ) rfl).trans ?_
  exact Rx_call (n := 3) (y' := k_X5_isUp) (as := [.inr (.inl (17, 0)), .inl x1]) (rest := []) rfl rfl rfl
theorem b_X5_wrongUp_20 (x1 : Int) (s0 : Int) (σ : St) : Rx k_X5_wrongUp 20 [.inr (.inl (16, 0)), .inl x1] [.inl s0] σ = if s0 = 0 then Rx k_X5_wrongUp 27 [.inr (.inl (16, 0)), .inl x1] [] σ else Rx k_X5_wrongUp 23 [.inr (.inl (16, 0)), .inl x1] [] σ := by
  exact Rx_eq0 (k := 1) rfl
theorem b_X5_wrongUp_23 (x1 : Int) (σ : St) : Rx k_X5_wrongUp 23 [.inr (.inl (16, 0)), .inl x1] [] σ = some (some (.inl 0), σ) := by
  refine (Rx_N (k := 2) (pc' := 29) (ls' := [.inr (.inl (16, 0)), .inl x1]) (st' := [.inl 0]) (σ' := σ) rfl).trans ?_
  exact Rx_ret rfl rfl
theorem b_X5_wrongUp_27 (x1 : Int) (σ : St) : Rx k_X5_wrongUp 27 [.inr (.inl (16, 0)), .inl x1] [] σ = some (some (.inl (-3)), σ) := by
  refine (Rx_N (k := 1) (pc' := 29) (ls' := [.inr (.inl (16, 0)), .inl x1]) (st' := [.inl (-3)]) (σ' := σ) rfl).trans ?_
  exact Rx_ret rfl rfl
theorem b_X5_pushes_0 (x1 : Int) (u2 : AV) (σ : St) : Rx k_X5_pushes 0 [.inr (.inl (16, 0)), .inl x1, u2] [] σ = (Rx k_X5_wrongUp 0 [.inr (.inl (16, 0)), .inl x1] [] σ).bind fun q => Rx k_X5_pushes 5 [.inr (.inl (16, 0)), .inl x1, u2] (q.1.toList ++ []) q.2 := by
  refine (Rx_N (k := 2) (pc' := 2) (ls' := [.inr (.inl (16, 0)), .inl x1, u2]) (st' := [.inl x1, .inr (.inl (16, 0))]) (σ' := σ) rfl).trans ?_
  exact Rx_call (n := 3) (y' := k_X5_wrongUp) (as := [.inr (.inl (16, 0)), .inl x1]) (rest := []) rfl rfl rfl
theorem b_X5_pushes_5 (x1 : Int) (u2 : AV) (s0 : Int) (σ : St) : Rx k_X5_pushes 5 [.inr (.inl (16, 0)), .inl x1, u2] [.inl s0] σ = if s0 = 0 then Rx k_X5_pushes 18 [.inr (.inl (16, 0)), .inl x1, .inl s0] [] σ else Rx k_X5_pushes 10 [.inr (.inl (16, 0)), .inl x1, .inl s0] [] σ := by
  exact Rx_eq0 (k := 3) rfl
theorem b_X5_pushes_10 (x1 : Int) (x2 : Int) (σ : St) : Rx k_X5_pushes 10 [.inr (.inl (16, 0)), .inl x1, .inl x2] [] σ = (Rx k_X5_no 0 [.inr (.inl (16, 0)), .inl x2] [] σ).bind fun q => Rx k_X5_pushes 15 [.inr (.inl (16, 0)), .inl x1, .inl x2] (q.1.toList ++ []) q.2 := by
  refine (Rx_N (k := 2) (pc' := 12) (ls' := [.inr (.inl (16, 0)), .inl x1, .inl x2]) (st' := [.inl x2, .inr (.inl (16, 0))]) (σ' := σ) rfl).trans ?_
  exact Rx_call (n := 3) (y' := k_X5_no) (as := [.inr (.inl (16, 0)), .inl x2]) (rest := []) rfl rfl rfl
theorem b_X5_pushes_15 (x1 : Int) (x2 : Int) (s0 : Int) (σ : St) : Rx k_X5_pushes 15 [.inr (.inl (16, 0)), .inl x1, .inl x2] [.inl s0] σ = some (some (.inl s0), σ) := by
  refine (Rx_N (k := 1) (pc' := 26) (ls' := [.inr (.inl (16, 0)), .inl x1, .inl x2]) (st' := [.inl s0]) (σ' := σ) rfl).trans ?_
  exact Rx_ret rfl rfl
theorem b_X5_pushes_18 (x1 : Int) (x2 : Int) (σ : St) : Rx k_X5_pushes 18 [.inr (.inl (16, 0)), .inl x1, .inl x2] [] σ = (Rx k_X5_fells 0 [.inr (.inl (17, 0)), .inl x1, uns, uns, uns] [] σ).bind fun q => Rx k_X5_pushes 26 [.inr (.inl (16, 0)), .inl x1, .inl x2] (q.1.toList ++ []) q.2 := by
  refine (Rx_N (k := 3) (pc' := 23) (ls' := [.inr (.inl (16, 0)), .inl x1, .inl x2]) (st' := [.inl x1, .inr (.inl (17, 0))]) (σ' := σ) rfl).trans ?_
  exact Rx_call (n := 3) (y' := k_X5_fells) (as := [.inr (.inl (17, 0)), .inl x1]) (rest := []) rfl rfl rfl
theorem b_X5_pushes_26 (x1 : Int) (x2 : Int) (s0 : Int) (σ : St) : Rx k_X5_pushes 26 [.inr (.inl (16, 0)), .inl x1, .inl x2] [.inl s0] σ = some (some (.inl s0), σ) := by
  exact Rx_ret rfl rfl
theorem b_X5_wrongBy_0 (x0 : Int) (x1 : Int) (σ : St) : Rx k_X5_wrongBy 0 [.inl x0, .inl x1] [] σ = if x0 < 0 then Rx k_X5_wrongBy 4 [.inl x0, .inl x1] [] σ else Rx k_X5_wrongBy 9 [.inl x0, .inl x1] [] σ := by
  exact Rx_ge0 (k := 2) rfl
theorem b_X5_wrongBy_4 (x0 : Int) (x1 : Int) (σ : St) : Rx k_X5_wrongBy 4 [.inl x0, .inl x1] [] σ = some (some (.inl (-4)), σ) := by
  refine (Rx_N (k := 2) (pc' := 20) (ls' := [.inl x0, .inl x1]) (st' := [.inl (-4)]) (σ' := σ) rfl).trans ?_
  exact Rx_ret rfl rfl
theorem b_X5_wrongBy_9 (x0 : Int) (x1 : Int) (σ : St) : Rx k_X5_wrongBy 9 [.inl x0, .inl x1] [] σ = if x1 < x0 then Rx k_X5_wrongBy 14 [.inl x0, .inl x1] [] σ else Rx k_X5_wrongBy 19 [.inl x0, .inl x1] [] σ := by
  exact Rx_le0 (k := 3) rfl
theorem b_X5_wrongBy_14 (x0 : Int) (x1 : Int) (σ : St) : Rx k_X5_wrongBy 14 [.inl x0, .inl x1] [] σ = some (some (.inl (-6)), σ) := by
  refine (Rx_N (k := 2) (pc' := 20) (ls' := [.inl x0, .inl x1]) (st' := [.inl (-6)]) (σ' := σ) rfl).trans ?_
  exact Rx_ret rfl rfl
theorem b_X5_wrongBy_19 (x0 : Int) (x1 : Int) (σ : St) : Rx k_X5_wrongBy 19 [.inl x0, .inl x1] [] σ = some (some (.inl 0), σ) := by
  refine (Rx_N (k := 1) (pc' := 20) (ls' := [.inl x0, .inl x1]) (st' := [.inl 0]) (σ' := σ) rfl).trans ?_
  exact Rx_ret rfl rfl
theorem b_X5_strong_0 (x1 : Int) (x2 : Int) (u3 : AV) (u4 : AV) (σ : St) : Rx k_X5_strong 0 [.inr (.inl (16, 0)), .inl x1, .inl x2, u3, u4] [] σ = (Rx k_X5_isPurpose 0 [.inr (.inl (16, 0)), .inl x1] [] σ).bind fun q => Rx k_X5_strong 5 [.inr (.inl (16, 0)), .inl x1, .inl x2, u3, u4] (q.1.toList ++ []) q.2 := by
  refine (Rx_N (k := 2) (pc' := 2) (ls' := [.inr (.inl (16, 0)), .inl x1, .inl x2, u3, u4]) (st' := [.inl x1, .inr (.inl (16, 0))]) (σ' := σ) rfl).trans ?_
  exact Rx_call (n := 3) (y' := k_X5_isPurpose) (as := [.inr (.inl (16, 0)), .inl x1]) (rest := []) rfl rfl rfl
theorem b_X5_strong_5 (x1 : Int) (x2 : Int) (u3 : AV) (u4 : AV) (s0 : Int) (σ : St) : Rx k_X5_strong 5 [.inr (.inl (16, 0)), .inl x1, .inl x2, u3, u4] [.inl s0] σ = if s0 = 0 then Rx k_X5_strong 17 [.inr (.inl (16, 0)), .inl x1, .inl x2, u3, u4] [] σ else Rx k_X5_strong 8 [.inr (.inl (16, 0)), .inl x1, .inl x2, u3, u4] [] σ := by
  exact Rx_eq0 (k := 1) rfl
theorem b_X5_strong_8 (x1 : Int) (x2 : Int) (u3 : AV) (u4 : AV) (σ : St) : Rx k_X5_strong 8 [.inr (.inl (16, 0)), .inl x1, .inl x2, u3, u4] [] σ = (Rx k_X5_wrongBy 0 [.inl x2, .inl 99] [] σ).bind fun q => Rx k_X5_strong 14 [.inr (.inl (16, 0)), .inl x1, .inl x2, u3, u4] (q.1.toList ++ []) q.2 := by
  refine (Rx_N (k := 2) (pc' := 11) (ls' := [.inr (.inl (16, 0)), .inl x1, .inl x2, u3, u4]) (st' := [.inl 99, .inl x2]) (σ' := σ) rfl).trans ?_
  exact Rx_call (n := 3) (y' := k_X5_wrongBy) (as := [.inl x2, .inl 99]) (rest := []) rfl rfl rfl
theorem b_X5_strong_14 (x1 : Int) (x2 : Int) (u3 : AV) (u4 : AV) (s0 : Int) (σ : St) : Rx k_X5_strong 14 [.inr (.inl (16, 0)), .inl x1, .inl x2, u3, u4] [.inl s0] σ = if s0 = 0 then Rx k_X5_strong 29 [.inr (.inl (16, 0)), .inl x1, .inl x2, .inl s0, u4] [] σ else Rx k_X5_strong 23 [.inr (.inl (16, 0)), .inl x1, .inl x2, .inl s0, u4] [] σ := by
  exact Rx_eq0 (k := 4) rfl
theorem b_X5_strong_17 (x1 : Int) (x2 : Int) (u3 : AV) (u4 : AV) (σ : St) : Rx k_X5_strong 17 [.inr (.inl (16, 0)), .inl x1, .inl x2, u3, u4] [] σ = if ((-1) : Int) = (0 : Int) then Rx k_X5_strong 29 [.inr (.inl (16, 0)), .inl x1, .inl x2, .inl (-1), u4] [] σ else Rx k_X5_strong 23 [.inr (.inl (16, 0)), .inl x1, .inl x2, .inl (-1), u4] [] σ := by
  exact Rx_eq0 (k := 4) rfl
theorem b_X5_strong_23 (x1 : Int) (x2 : Int) (x3 : Int) (u4 : AV) (σ : St) : Rx k_X5_strong 23 [.inr (.inl (16, 0)), .inl x1, .inl x2, .inl x3, u4] [] σ = (Rx k_X5_no 0 [.inr (.inl (16, 0)), .inl x3] [] σ).bind fun q => Rx k_X5_strong 28 [.inr (.inl (16, 0)), .inl x1, .inl x2, .inl x3, u4] (q.1.toList ++ []) q.2 := by
  refine (Rx_N (k := 2) (pc' := 25) (ls' := [.inr (.inl (16, 0)), .inl x1, .inl x2, .inl x3, u4]) (st' := [.inl x3, .inr (.inl (16, 0))]) (σ' := σ) rfl).trans ?_
  exact Rx_call (n := 3) (y' := k_X5_no) (as := [.inr (.inl (16, 0)), .inl x3]) (rest := []) rfl rfl rfl
theorem b_X5_strong_28 (x1 : Int) (x2 : Int) (x3 : Int) (u4 : AV) (s0 : Int) (σ : St) : Rx k_X5_strong 28 [.inr (.inl (16, 0)), .inl x1, .inl x2, .inl x3, u4] [.inl s0] σ = some (some (.inl s0), σ) := by
  exact Rx_ret rfl rfl
theorem b_X5_strong_29 (x1 : Int) (x2 : Int) (x3 : Int) (u4 : AV) (σ : St) : Rx k_X5_strong 29 [.inr (.inl (16, 0)), .inl x1, .inl x2, .inl x3, u4] [] σ = (Rx k_X5_ofP 0 [.inl x1] [] σ).bind fun q => Rx k_X5_strong 37 [.inr (.inl (16, 0)), .inl x1, .inl x2, .inl x3, u4] (q.1.toList ++ [.inr (.inl (17, 0))]) q.2 := by
  refine (Rx_N (k := 3) (pc' := 34) (ls' := [.inr (.inl (16, 0)), .inl x1, .inl x2, .inl x3, u4]) (st' := [.inl x1, .inr (.inl (17, 0))]) (σ' := σ) rfl).trans ?_
  exact Rx_call (n := 3) (y' := k_X5_ofP) (as := [.inl x1]) (rest := [.inr (.inl (17, 0))]) rfl rfl rfl
theorem r_X5_strong_37 (x1 : Int) (x2 : Int) (x3 : Int) (u4 : AV) (s1 : Int) (σ : St) (h0 : 0 ≤ (wr (s1 + 2))) (h1 : (wr (s1 + 2)) < 58) : Rx k_X5_strong 37 [.inr (.inl (16, 0)), .inl x1, .inl x2, .inl x3, u4] [.inl s1, .inr (.inl (17, 0))] σ = (Rx k_X5_ofP 0 [.inl x1] [] σ).bind fun q => Rx k_X5_strong 50 [.inr (.inl (16, 0)), .inl x1, .inl x2, .inl x3, .inl (σ 17 0 (wr (s1 + 2)).toNat)] (q.1.toList ++ [.inr (.inl (17, 0))]) q.2 := by
  refine (Rx_N (k := 2) (pc' := 39) (ls' := [.inr (.inl (16, 0)), .inl x1, .inl x2, .inl x3, u4]) (st' := [.inl (wr (s1 + 2)), .inr (.inl (17, 0))]) (σ' := σ) rfl).trans ?_
  refine (Rx_ild 58 rfl rfl rfl h0 h1).trans ?_
  refine (Rx_N (k := 4) (pc' := 47) (ls' := [.inr (.inl (16, 0)), .inl x1, .inl x2, .inl x3, .inl (σ 17 0 (wr (s1 + 2)).toNat)]) (st' := [.inl x1, .inr (.inl (17, 0))]) (σ' := σ) rfl).trans ?_
  exact Rx_call (n := 3) (y' := k_X5_ofP) (as := [.inl x1]) (rest := [.inr (.inl (17, 0))]) rfl rfl rfl
theorem b_X5_strong_37 (x1 : Int) (x2 : Int) (x3 : Int) (u4 : AV) (s1 : Int) (σ : St) (h0 : 0 ≤ (s1 + 2)) (h1 : (s1 + 2) < 58) (g0a : -2147483648 ≤ (s1 + 2)) (g0b : (s1 + 2) < 2147483648) : Rx k_X5_strong 37 [.inr (.inl (16, 0)), .inl x1, .inl x2, .inl x3, u4] [.inl s1, .inr (.inl (17, 0))] σ = (Rx k_X5_ofP 0 [.inl x1] [] σ).bind fun q => Rx k_X5_strong 50 [.inr (.inl (16, 0)), .inl x1, .inl x2, .inl x3, .inl (σ 17 0 (s1 + 2).toNat)] (q.1.toList ++ [.inr (.inl (17, 0))]) q.2 := by
  have e0 := wr_id (x := (s1 + 2)) g0a g0b
  have raw := r_X5_strong_37 x1 x2 x3 u4 s1 σ (by simp only [e0]; exact h0) (by simp only [e0]; exact h1)
  simp only [e0] at raw
  exact raw
theorem r_X5_strong_50 (x1 : Int) (x2 : Int) (x3 : Int) (x4 : Int) (s1 : Int) (σ : St) (h0 : 0 ≤ (wr (s1 + 2))) (h1 : (wr (s1 + 2)) < 58) : Rx k_X5_strong 50 [.inr (.inl (16, 0)), .inl x1, .inl x2, .inl x3, .inl x4] [.inl s1, .inr (.inl (17, 0))] σ = some (some (.inl x4), (up σ 17 0 ((wr (s1 + 2)).toNat) x2)) := by
  refine (Rx_N (k := 3) (pc' := 53) (ls' := [.inr (.inl (16, 0)), .inl x1, .inl x2, .inl x3, .inl x4]) (st' := [.inl x2, .inl (wr (s1 + 2)), .inr (.inl (17, 0))]) (σ' := σ) rfl).trans ?_
  refine (Rx_ist 58 rfl rfl h0 h1).trans ?_
  refine (Rx_N (k := 1) (pc' := 56) (ls' := [.inr (.inl (16, 0)), .inl x1, .inl x2, .inl x3, .inl x4]) (st' := [.inl x4]) (σ' := (up σ 17 0 ((wr (s1 + 2)).toNat) x2)) rfl).trans ?_
  exact Rx_ret rfl rfl
theorem b_X5_strong_50 (x1 : Int) (x2 : Int) (x3 : Int) (x4 : Int) (s1 : Int) (σ : St) (h0 : 0 ≤ (s1 + 2)) (h1 : (s1 + 2) < 58) (g0a : -2147483648 ≤ (s1 + 2)) (g0b : (s1 + 2) < 2147483648) : Rx k_X5_strong 50 [.inr (.inl (16, 0)), .inl x1, .inl x2, .inl x3, .inl x4] [.inl s1, .inr (.inl (17, 0))] σ = some (some (.inl x4), (up σ 17 0 (((s1 + 2)).toNat) x2)) := by
  have e0 := wr_id (x := (s1 + 2)) g0a g0b
  have raw := r_X5_strong_50 x1 x2 x3 x4 s1 σ (by simp only [e0]; exact h0) (by simp only [e0]; exact h1)
  simp only [e0] at raw
  exact raw
theorem b_X5_turn_0 (x1 : Int) (x2 : Int) (x3 : Int) (u4 : AV) (u5 : AV) (u6 : AV) (σ : St) : Rx k_X5_turn 0 [.inr (.inl (16, 0)), .inl x1, .inl x2, .inl x3, u4, u5, u6] [] σ = (Rx k_X5_isPurpose 0 [.inr (.inl (16, 0)), .inl x1] [] σ).bind fun q => Rx k_X5_turn 5 [.inr (.inl (16, 0)), .inl x1, .inl x2, .inl x3, u4, u5, u6] (q.1.toList ++ []) q.2 := by
  refine (Rx_N (k := 2) (pc' := 2) (ls' := [.inr (.inl (16, 0)), .inl x1, .inl x2, .inl x3, u4, u5, u6]) (st' := [.inl x1, .inr (.inl (16, 0))]) (σ' := σ) rfl).trans ?_
  exact Rx_call (n := 3) (y' := k_X5_isPurpose) (as := [.inr (.inl (16, 0)), .inl x1]) (rest := []) rfl rfl rfl
theorem b_X5_turn_5 (x1 : Int) (x2 : Int) (x3 : Int) (u4 : AV) (u5 : AV) (u6 : AV) (s0 : Int) (σ : St) : Rx k_X5_turn 5 [.inr (.inl (16, 0)), .inl x1, .inl x2, .inl x3, u4, u5, u6] [.inl s0] σ = if s0 = 0 then Rx k_X5_turn 8 [.inr (.inl (16, 0)), .inl x1, .inl x2, .inl x3, u4, u5, u6] [] σ else Rx k_X5_turn 12 [.inr (.inl (16, 0)), .inl x1, .inl x2, .inl x3, u4, u5, u6] [] σ := by
  exact Rx_ne0 (k := 1) rfl
theorem b_X5_turn_8 (x1 : Int) (x2 : Int) (x3 : Int) (u4 : AV) (u5 : AV) (u6 : AV) (σ : St) : Rx k_X5_turn 8 [.inr (.inl (16, 0)), .inl x1, .inl x2, .inl x3, u4, u5, u6] [] σ = if ((-1) : Int) = (0 : Int) then Rx k_X5_turn 46 [.inr (.inl (16, 0)), .inl x1, .inl x2, .inl x3, .inl (-1), u5, u6] [] σ else Rx k_X5_turn 39 [.inr (.inl (16, 0)), .inl x1, .inl x2, .inl x3, .inl (-1), u5, u6] [] σ := by
  exact Rx_eq0 (k := 5) rfl
theorem b_X5_turn_12 (x1 : Int) (x2 : Int) (x3 : Int) (u4 : AV) (u5 : AV) (u6 : AV) (σ : St) : Rx k_X5_turn 12 [.inr (.inl (16, 0)), .inl x1, .inl x2, .inl x3, u4, u5, u6] [] σ = (Rx k_X5_isIn 0 [.inl x2, .inl 0, .inl 5] [] σ).bind fun q => Rx k_X5_turn 18 [.inr (.inl (16, 0)), .inl x1, .inl x2, .inl x3, u4, u5, u6] (q.1.toList ++ []) q.2 := by
  refine (Rx_N (k := 3) (pc' := 15) (ls' := [.inr (.inl (16, 0)), .inl x1, .inl x2, .inl x3, u4, u5, u6]) (st' := [.inl 5, .inl 0, .inl x2]) (σ' := σ) rfl).trans ?_
  exact Rx_call (n := 3) (y' := k_X5_isIn) (as := [.inl x2, .inl 0, .inl 5]) (rest := []) rfl rfl rfl
theorem b_X5_turn_18 (x1 : Int) (x2 : Int) (x3 : Int) (u4 : AV) (u5 : AV) (u6 : AV) (s0 : Int) (σ : St) : Rx k_X5_turn 18 [.inr (.inl (16, 0)), .inl x1, .inl x2, .inl x3, u4, u5, u6] [.inl s0] σ = if s0 = 0 then Rx k_X5_turn 21 [.inr (.inl (16, 0)), .inl x1, .inl x2, .inl x3, u4, u5, u6] [] σ else Rx k_X5_turn 26 [.inr (.inl (16, 0)), .inl x1, .inl x2, .inl x3, u4, u5, u6] [] σ := by
  exact Rx_ne0 (k := 1) rfl
theorem b_X5_turn_21 (x1 : Int) (x2 : Int) (x3 : Int) (u4 : AV) (u5 : AV) (u6 : AV) (σ : St) : Rx k_X5_turn 21 [.inr (.inl (16, 0)), .inl x1, .inl x2, .inl x3, u4, u5, u6] [] σ = if ((-2) : Int) = (0 : Int) then Rx k_X5_turn 46 [.inr (.inl (16, 0)), .inl x1, .inl x2, .inl x3, .inl (-2), u5, u6] [] σ else Rx k_X5_turn 39 [.inr (.inl (16, 0)), .inl x1, .inl x2, .inl x3, .inl (-2), u5, u6] [] σ := by
  exact Rx_eq0 (k := 5) rfl
theorem b_X5_turn_26 (x1 : Int) (x2 : Int) (x3 : Int) (u4 : AV) (u5 : AV) (u6 : AV) (σ : St) : Rx k_X5_turn 26 [.inr (.inl (16, 0)), .inl x1, .inl x2, .inl x3, u4, u5, u6] [] σ = (Rx k_X5_wrongBy 0 [.inl x3, .inl 9] [] σ).bind fun q => Rx k_X5_turn 32 [.inr (.inl (16, 0)), .inl x1, .inl x2, .inl x3, u4, u5, u6] (q.1.toList ++ []) q.2 := by
  refine (Rx_N (k := 2) (pc' := 29) (ls' := [.inr (.inl (16, 0)), .inl x1, .inl x2, .inl x3, u4, u5, u6]) (st' := [.inl 9, .inl x3]) (σ' := σ) rfl).trans ?_
  exact Rx_call (n := 3) (y' := k_X5_wrongBy) (as := [.inl x3, .inl 9]) (rest := []) rfl rfl rfl
theorem b_X5_turn_32 (x1 : Int) (x2 : Int) (x3 : Int) (u4 : AV) (u5 : AV) (u6 : AV) (s0 : Int) (σ : St) : Rx k_X5_turn 32 [.inr (.inl (16, 0)), .inl x1, .inl x2, .inl x3, u4, u5, u6] [.inl s0] σ = if s0 = 0 then Rx k_X5_turn 46 [.inr (.inl (16, 0)), .inl x1, .inl x2, .inl x3, .inl s0, u5, u6] [] σ else Rx k_X5_turn 39 [.inr (.inl (16, 0)), .inl x1, .inl x2, .inl x3, .inl s0, u5, u6] [] σ := by
  exact Rx_eq0 (k := 3) rfl
theorem b_X5_turn_39 (x1 : Int) (x2 : Int) (x3 : Int) (x4 : Int) (u5 : AV) (u6 : AV) (σ : St) : Rx k_X5_turn 39 [.inr (.inl (16, 0)), .inl x1, .inl x2, .inl x3, .inl x4, u5, u6] [] σ = (Rx k_X5_no 0 [.inr (.inl (16, 0)), .inl x4] [] σ).bind fun q => Rx k_X5_turn 45 [.inr (.inl (16, 0)), .inl x1, .inl x2, .inl x3, .inl x4, u5, u6] (q.1.toList ++ []) q.2 := by
  refine (Rx_N (k := 2) (pc' := 42) (ls' := [.inr (.inl (16, 0)), .inl x1, .inl x2, .inl x3, .inl x4, u5, u6]) (st' := [.inl x4, .inr (.inl (16, 0))]) (σ' := σ) rfl).trans ?_
  exact Rx_call (n := 3) (y' := k_X5_no) (as := [.inr (.inl (16, 0)), .inl x4]) (rest := []) rfl rfl rfl
theorem b_X5_turn_45 (x1 : Int) (x2 : Int) (x3 : Int) (x4 : Int) (u5 : AV) (u6 : AV) (s0 : Int) (σ : St) : Rx k_X5_turn 45 [.inr (.inl (16, 0)), .inl x1, .inl x2, .inl x3, .inl x4, u5, u6] [.inl s0] σ = some (some (.inl s0), σ) := by
  exact Rx_ret rfl rfl
theorem b_X5_turn_46 (x1 : Int) (x2 : Int) (x3 : Int) (x4 : Int) (u5 : AV) (u6 : AV) (σ : St) : Rx k_X5_turn 46 [.inr (.inl (16, 0)), .inl x1, .inl x2, .inl x3, .inl x4, u5, u6] [] σ = (Rx k_X5_ofP 0 [.inl x1] [] σ).bind fun q => Rx k_X5_turn 50 [.inr (.inl (16, 0)), .inl x1, .inl x2, .inl x3, .inl x4, u5, u6] (q.1.toList ++ []) q.2 := by
  refine (Rx_N (k := 1) (pc' := 47) (ls' := [.inr (.inl (16, 0)), .inl x1, .inl x2, .inl x3, .inl x4, u5, u6]) (st' := [.inl x1]) (σ' := σ) rfl).trans ?_
  exact Rx_call (n := 3) (y' := k_X5_ofP) (as := [.inl x1]) (rest := []) rfl rfl rfl
theorem r_X5_turn_50 (x1 : Int) (x2 : Int) (x3 : Int) (x4 : Int) (u5 : AV) (u6 : AV) (s0 : Int) (σ : St) (h0 : 0 ≤ (wr (s0 + 0))) (h1 : (wr (s0 + 0)) < 58) (h2 : 0 ≤ (wr (s0 + 1))) (h3 : (wr (s0 + 1)) < 58) : Rx k_X5_turn 50 [.inr (.inl (16, 0)), .inl x1, .inl x2, .inl x3, .inl x4, u5, u6] [.inl s0] σ = some (some (.inl (wr ((wr (10 * (σ 17 0 (wr (s0 + 0)).toNat))) + (σ 17 0 (wr (s0 + 1)).toNat)))), (up (up σ 17 0 ((wr (s0 + 0)).toNat) x2) 17 0 ((wr (s0 + 1)).toNat) x3)) := by
  refine (Rx_N (k := 7) (pc' := 62) (ls' := [.inr (.inl (16, 0)), .inl x1, .inl x2, .inl x3, .inl x4, .inl s0, u6]) (st' := [.inl (wr (s0 + 0)), .inr (.inl (17, 0)), .inl 10]) (σ' := σ) rfl).trans ?_
  refine (Rx_ild 58 rfl rfl rfl h0 h1).trans ?_
  refine (Rx_N (k := 6) (pc' := 72) (ls' := [.inr (.inl (16, 0)), .inl x1, .inl x2, .inl x3, .inl x4, .inl s0, u6]) (st' := [.inl (wr (s0 + 1)), .inr (.inl (17, 0)), .inl (wr (10 * (σ 17 0 (wr (s0 + 0)).toNat)))]) (σ' := σ) rfl).trans ?_
  refine (Rx_ild 58 rfl rfl rfl h2 h3).trans ?_
  refine (Rx_N (k := 8) (pc' := 85) (ls' := [.inr (.inl (16, 0)), .inl x1, .inl x2, .inl x3, .inl x4, .inl s0, .inl (wr ((wr (10 * (σ 17 0 (wr (s0 + 0)).toNat))) + (σ 17 0 (wr (s0 + 1)).toNat)))]) (st' := [.inl x2, .inl (wr (s0 + 0)), .inr (.inl (17, 0))]) (σ' := σ) rfl).trans ?_
  refine (Rx_ist 58 rfl rfl h0 h1).trans ?_
  refine (Rx_N (k := 6) (pc' := 95) (ls' := [.inr (.inl (16, 0)), .inl x1, .inl x2, .inl x3, .inl x4, .inl s0, .inl (wr ((wr (10 * (σ 17 0 (wr (s0 + 0)).toNat))) + (σ 17 0 (wr (s0 + 1)).toNat)))]) (st' := [.inl x3, .inl (wr (s0 + 1)), .inr (.inl (17, 0))]) (σ' := (up σ 17 0 ((wr (s0 + 0)).toNat) x2)) rfl).trans ?_
  refine (Rx_ist 58 rfl rfl h2 h3).trans ?_
  refine (Rx_N (k := 1) (pc' := 98) (ls' := [.inr (.inl (16, 0)), .inl x1, .inl x2, .inl x3, .inl x4, .inl s0, .inl (wr ((wr (10 * (σ 17 0 (wr (s0 + 0)).toNat))) + (σ 17 0 (wr (s0 + 1)).toNat)))]) (st' := [.inl (wr ((wr (10 * (σ 17 0 (wr (s0 + 0)).toNat))) + (σ 17 0 (wr (s0 + 1)).toNat)))]) (σ' := (up (up σ 17 0 ((wr (s0 + 0)).toNat) x2) 17 0 ((wr (s0 + 1)).toNat) x3)) rfl).trans ?_
  exact Rx_ret rfl rfl
theorem b_X5_turn_50 (x1 : Int) (x2 : Int) (x3 : Int) (x4 : Int) (u5 : AV) (u6 : AV) (s0 : Int) (σ : St) (h0 : 0 ≤ (s0 + 0)) (h1 : (s0 + 0) < 58) (h2 : 0 ≤ (s0 + 1)) (h3 : (s0 + 1) < 58) (g0a : -2147483648 ≤ (s0 + 0)) (g0b : (s0 + 0) < 2147483648) (g1a : -2147483648 ≤ (s0 + 1)) (g1b : (s0 + 1) < 2147483648) (g2a : -2147483648 ≤ (10 * (σ 17 0 (s0 + 0).toNat))) (g2b : (10 * (σ 17 0 (s0 + 0).toNat)) < 2147483648) (g3a : -2147483648 ≤ (((10 * (σ 17 0 (s0 + 0).toNat))) + (σ 17 0 (s0 + 1).toNat))) (g3b : (((10 * (σ 17 0 (s0 + 0).toNat))) + (σ 17 0 (s0 + 1).toNat)) < 2147483648) : Rx k_X5_turn 50 [.inr (.inl (16, 0)), .inl x1, .inl x2, .inl x3, .inl x4, u5, u6] [.inl s0] σ = some (some (.inl (((10 * (σ 17 0 (s0 + 0).toNat))) + (σ 17 0 (s0 + 1).toNat))), (up (up σ 17 0 (((s0 + 0)).toNat) x2) 17 0 (((s0 + 1)).toNat) x3)) := by
  have e0 := wr_id (x := (s0 + 0)) g0a g0b
  have e1 := wr_id (x := (s0 + 1)) g1a g1b
  have e2 := wr_id (x := (10 * (σ 17 0 (s0 + 0).toNat))) g2a g2b
  have e3 := wr_id (x := (((10 * (σ 17 0 (s0 + 0).toNat))) + (σ 17 0 (s0 + 1).toNat))) g3a g3b
  have raw := r_X5_turn_50 x1 x2 x3 x4 u5 u6 s0 σ (by simp only [e0, e1, e2, e3]; exact h0) (by simp only [e0, e1, e2, e3]; exact h1) (by simp only [e0, e1, e2, e3]; exact h2) (by simp only [e0, e1, e2, e3]; exact h3)
  simp only [e0, e1, e2, e3] at raw
  exact raw
theorem b_X5_days_0 (x1 : Int) (σ : St) : Rx k_X5_days 0 [.inr (.inl (16, 0)), .inl x1] [] σ = if x1 < 1 then Rx k_X5_days 5 [.inr (.inl (16, 0)), .inl x1] [] σ else Rx k_X5_days 12 [.inr (.inl (16, 0)), .inl x1] [] σ := by
  exact Rx_ge0 (k := 3) rfl
theorem b_X5_days_5 (x1 : Int) (σ : St) : Rx k_X5_days 5 [.inr (.inl (16, 0)), .inl x1] [] σ = (Rx k_X5_no 0 [.inr (.inl (16, 0)), .inl (-4)] [] σ).bind fun q => Rx k_X5_days 11 [.inr (.inl (16, 0)), .inl x1] (q.1.toList ++ []) q.2 := by
  refine (Rx_N (k := 2) (pc' := 8) (ls' := [.inr (.inl (16, 0)), .inl x1]) (st' := [.inl (-4), .inr (.inl (16, 0))]) (σ' := σ) rfl).trans ?_
  exact Rx_call (n := 3) (y' := k_X5_no) (as := [.inr (.inl (16, 0)), .inl (-4)]) (rest := []) rfl rfl rfl
theorem b_X5_days_11 (x1 : Int) (s0 : Int) (σ : St) : Rx k_X5_days 11 [.inr (.inl (16, 0)), .inl x1] [.inl s0] σ = some (some (.inl s0), σ) := by
  exact Rx_ret rfl rfl
theorem b_X5_days_12 (x1 : Int) (σ : St) : Rx k_X5_days 12 [.inr (.inl (16, 0)), .inl x1] [] σ = if 60 < x1 then Rx k_X5_days 32 [.inr (.inl (16, 0)), .inl x1] [] σ else Rx k_X5_days 18 [.inr (.inl (16, 0)), .inl x1] [] σ := by
  exact Rx_gt0 (k := 3) rfl
theorem r_X5_days_18 (x1 : Int) (σ : St) : Rx k_X5_days 18 [.inr (.inl (16, 0)), .inl x1] [] σ = if 999 < (wr ((σ 17 0 2) + x1)) then Rx k_X5_days 32 [.inr (.inl (16, 0)), .inl x1] [] σ else Rx k_X5_days 39 [.inr (.inl (16, 0)), .inl x1] [] σ := by
  exact Rx_le0 (k := 8) rfl
theorem b_X5_days_18 (x1 : Int) (σ : St) (g0a : -2147483648 ≤ ((σ 17 0 2) + x1)) (g0b : ((σ 17 0 2) + x1) < 2147483648) : Rx k_X5_days 18 [.inr (.inl (16, 0)), .inl x1] [] σ = if 999 < ((σ 17 0 2) + x1) then Rx k_X5_days 32 [.inr (.inl (16, 0)), .inl x1] [] σ else Rx k_X5_days 39 [.inr (.inl (16, 0)), .inl x1] [] σ := by
  have e0 := wr_id (x := ((σ 17 0 2) + x1)) g0a g0b
  have raw := r_X5_days_18 x1 σ 
  simp only [e0] at raw
  exact raw
theorem b_X5_days_32 (x1 : Int) (σ : St) : Rx k_X5_days 32 [.inr (.inl (16, 0)), .inl x1] [] σ = (Rx k_X5_no 0 [.inr (.inl (16, 0)), .inl (-6)] [] σ).bind fun q => Rx k_X5_days 38 [.inr (.inl (16, 0)), .inl x1] (q.1.toList ++ []) q.2 := by
  refine (Rx_N (k := 2) (pc' := 35) (ls' := [.inr (.inl (16, 0)), .inl x1]) (st' := [.inl (-6), .inr (.inl (16, 0))]) (σ' := σ) rfl).trans ?_
  exact Rx_call (n := 3) (y' := k_X5_no) (as := [.inr (.inl (16, 0)), .inl (-6)]) (rest := []) rfl rfl rfl
theorem b_X5_days_38 (x1 : Int) (s0 : Int) (σ : St) : Rx k_X5_days 38 [.inr (.inl (16, 0)), .inl x1] [.inl s0] σ = some (some (.inl s0), σ) := by
  exact Rx_ret rfl rfl
theorem b_X5_days_39 (x1 : Int) (σ : St) : Rx k_X5_days 39 [.inr (.inl (16, 0)), .inl x1] [] σ = (Rx k_X5_daysOn 0 [.inr (.inl (16, 0)), .inr (.inl (17, 0)), .inl x1, uns] [] σ).bind fun q => Rx k_X5_days 48 [.inr (.inl (16, 0)), .inl x1] (q.1.toList ++ []) q.2 := by
  refine (Rx_N (k := 4) (pc' := 45) (ls' := [.inr (.inl (16, 0)), .inl x1]) (st' := [.inl x1, .inr (.inl (17, 0)), .inr (.inl (16, 0))]) (σ' := σ) rfl).trans ?_
  exact Rx_call (n := 3) (y' := k_X5_daysOn) (as := [.inr (.inl (16, 0)), .inr (.inl (17, 0)), .inl x1]) (rest := []) rfl rfl rfl
theorem b_X5_days_48 (x1 : Int) (σ : St) : Rx k_X5_days 48 [.inr (.inl (16, 0)), .inl x1] [] σ = (Rx k_X5_upSet 0 [.inr (.inl (17, 0)), uns, uns] [] σ).bind fun q => Rx k_X5_days 55 [.inr (.inl (16, 0)), .inl x1] (q.1.toList ++ []) q.2 := by
  refine (Rx_N (k := 2) (pc' := 52) (ls' := [.inr (.inl (16, 0)), .inl x1]) (st' := [.inr (.inl (17, 0))]) (σ' := σ) rfl).trans ?_
  exact Rx_call (n := 3) (y' := k_X5_upSet) (as := [.inr (.inl (17, 0))]) (rest := []) rfl rfl rfl
theorem b_X5_days_55 (x1 : Int) (s0 : Int) (σ : St) : Rx k_X5_days 55 [.inr (.inl (16, 0)), .inl x1] [.inl s0] σ = (Rx k_X5_bits 0 [.inl s0, uns, uns] [] σ).bind fun q => Rx k_X5_days 58 [.inr (.inl (16, 0)), .inl x1] (q.1.toList ++ []) q.2 := by
  exact Rx_call (n := 3) (y' := k_X5_bits) (as := [.inl s0]) (rest := []) rfl rfl rfl
theorem b_X5_days_58 (x1 : Int) (s0 : Int) (σ : St) : Rx k_X5_days 58 [.inr (.inl (16, 0)), .inl x1] [.inl s0] σ = some (some (.inl s0), σ) := by
  exact Rx_ret rfl rfl
theorem b_X5_takesOn_0 (x1 : Int) (σ : St) : Rx k_X5_takesOn 0 [.inr (.inl (16, 0)), .inl x1] [] σ = (Rx k_X5_copies 0 [.inr (.inl (17, 0)), .inr (.inl (17, 1)), uns] [] σ).bind fun q => Rx k_X5_takesOn 11 [.inr (.inl (16, 0)), .inl x1] (q.1.toList ++ []) q.2 := by
  refine (Rx_N (k := 4) (pc' := 8) (ls' := [.inr (.inl (16, 0)), .inl x1]) (st' := [.inr (.inl (17, 1)), .inr (.inl (17, 0))]) (σ' := σ) rfl).trans ?_
  exact Rx_call (n := 3) (y' := k_X5_copies) (as := [.inr (.inl (17, 0)), .inr (.inl (17, 1))]) (rest := []) rfl rfl rfl
theorem b_X5_takesOn_11 (x1 : Int) (σ : St) : Rx k_X5_takesOn 11 [.inr (.inl (16, 0)), .inl x1] [] σ = (Rx k_X5_daysOn 0 [.inr (.inl (16, 0)), .inr (.inl (17, 1)), .inl x1, uns] [] σ).bind fun q => Rx k_X5_takesOn 20 [.inr (.inl (16, 0)), .inl x1] (q.1.toList ++ []) q.2 := by
  refine (Rx_N (k := 4) (pc' := 17) (ls' := [.inr (.inl (16, 0)), .inl x1]) (st' := [.inl x1, .inr (.inl (17, 1)), .inr (.inl (16, 0))]) (σ' := σ) rfl).trans ?_
  exact Rx_call (n := 3) (y' := k_X5_daysOn) (as := [.inr (.inl (16, 0)), .inr (.inl (17, 1)), .inl x1]) (rest := []) rfl rfl rfl
theorem b_X5_takesOn_20 (x1 : Int) (σ : St) : Rx k_X5_takesOn 20 [.inr (.inl (16, 0)), .inl x1] [] σ = some (none, σ) := by
  exact Rx_ret rfl rfl
theorem b_X5_upThen_0 (x1 : Int) (x2 : Int) (u3 : AV) (σ : St) : Rx k_X5_upThen 0 [.inr (.inl (16, 0)), .inl x1, .inl x2, u3] [] σ = (Rx k_X5_isThing 0 [.inr (.inl (16, 0)), .inl x1] [] σ).bind fun q => Rx k_X5_upThen 5 [.inr (.inl (16, 0)), .inl x1, .inl x2, u3] (q.1.toList ++ []) q.2 := by
  refine (Rx_N (k := 2) (pc' := 2) (ls' := [.inr (.inl (16, 0)), .inl x1, .inl x2, u3]) (st' := [.inl x1, .inr (.inl (16, 0))]) (σ' := σ) rfl).trans ?_
  exact Rx_call (n := 3) (y' := k_X5_isThing) (as := [.inr (.inl (16, 0)), .inl x1]) (rest := []) rfl rfl rfl
theorem b_X5_upThen_5 (x1 : Int) (x2 : Int) (u3 : AV) (s0 : Int) (σ : St) : Rx k_X5_upThen 5 [.inr (.inl (16, 0)), .inl x1, .inl x2, u3] [.inl s0] σ = if s0 = 0 then Rx k_X5_upThen 17 [.inr (.inl (16, 0)), .inl x1, .inl x2, u3] [] σ else Rx k_X5_upThen 8 [.inr (.inl (16, 0)), .inl x1, .inl x2, u3] [] σ := by
  exact Rx_eq0 (k := 1) rfl
theorem b_X5_upThen_8 (x1 : Int) (x2 : Int) (u3 : AV) (σ : St) : Rx k_X5_upThen 8 [.inr (.inl (16, 0)), .inl x1, .inl x2, u3] [] σ = (Rx k_X5_wrongBy 0 [.inl x2, .inl 99] [] σ).bind fun q => Rx k_X5_upThen 14 [.inr (.inl (16, 0)), .inl x1, .inl x2, u3] (q.1.toList ++ []) q.2 := by
  refine (Rx_N (k := 2) (pc' := 11) (ls' := [.inr (.inl (16, 0)), .inl x1, .inl x2, u3]) (st' := [.inl 99, .inl x2]) (σ' := σ) rfl).trans ?_
  exact Rx_call (n := 3) (y' := k_X5_wrongBy) (as := [.inl x2, .inl 99]) (rest := []) rfl rfl rfl
theorem b_X5_upThen_14 (x1 : Int) (x2 : Int) (u3 : AV) (s0 : Int) (σ : St) : Rx k_X5_upThen 14 [.inr (.inl (16, 0)), .inl x1, .inl x2, u3] [.inl s0] σ = if s0 = 0 then Rx k_X5_upThen 29 [.inr (.inl (16, 0)), .inl x1, .inl x2, .inl s0] [] σ else Rx k_X5_upThen 23 [.inr (.inl (16, 0)), .inl x1, .inl x2, .inl s0] [] σ := by
  exact Rx_eq0 (k := 4) rfl
theorem b_X5_upThen_17 (x1 : Int) (x2 : Int) (u3 : AV) (σ : St) : Rx k_X5_upThen 17 [.inr (.inl (16, 0)), .inl x1, .inl x2, u3] [] σ = if ((-1) : Int) = (0 : Int) then Rx k_X5_upThen 29 [.inr (.inl (16, 0)), .inl x1, .inl x2, .inl (-1)] [] σ else Rx k_X5_upThen 23 [.inr (.inl (16, 0)), .inl x1, .inl x2, .inl (-1)] [] σ := by
  exact Rx_eq0 (k := 4) rfl
theorem b_X5_upThen_23 (x1 : Int) (x2 : Int) (x3 : Int) (σ : St) : Rx k_X5_upThen 23 [.inr (.inl (16, 0)), .inl x1, .inl x2, .inl x3] [] σ = (Rx k_X5_no 0 [.inr (.inl (16, 0)), .inl x3] [] σ).bind fun q => Rx k_X5_upThen 28 [.inr (.inl (16, 0)), .inl x1, .inl x2, .inl x3] (q.1.toList ++ []) q.2 := by
  refine (Rx_N (k := 2) (pc' := 25) (ls' := [.inr (.inl (16, 0)), .inl x1, .inl x2, .inl x3]) (st' := [.inl x3, .inr (.inl (16, 0))]) (σ' := σ) rfl).trans ?_
  exact Rx_call (n := 3) (y' := k_X5_no) (as := [.inr (.inl (16, 0)), .inl x3]) (rest := []) rfl rfl rfl
theorem b_X5_upThen_28 (x1 : Int) (x2 : Int) (x3 : Int) (s0 : Int) (σ : St) : Rx k_X5_upThen 28 [.inr (.inl (16, 0)), .inl x1, .inl x2, .inl x3] [.inl s0] σ = some (some (.inl s0), σ) := by
  exact Rx_ret rfl rfl
theorem b_X5_upThen_29 (x1 : Int) (x2 : Int) (x3 : Int) (σ : St) : Rx k_X5_upThen 29 [.inr (.inl (16, 0)), .inl x1, .inl x2, .inl x3] [] σ = (Rx k_X5_takesOn 0 [.inr (.inl (16, 0)), .inl x2] [] σ).bind fun q => Rx k_X5_upThen 34 [.inr (.inl (16, 0)), .inl x1, .inl x2, .inl x3] (q.1.toList ++ []) q.2 := by
  refine (Rx_N (k := 2) (pc' := 31) (ls' := [.inr (.inl (16, 0)), .inl x1, .inl x2, .inl x3]) (st' := [.inl x2, .inr (.inl (16, 0))]) (σ' := σ) rfl).trans ?_
  exact Rx_call (n := 3) (y' := k_X5_takesOn) (as := [.inr (.inl (16, 0)), .inl x2]) (rest := []) rfl rfl rfl
theorem b_X5_upThen_34 (x1 : Int) (x2 : Int) (x3 : Int) (σ : St) : Rx k_X5_upThen 34 [.inr (.inl (16, 0)), .inl x1, .inl x2, .inl x3] [] σ = (Rx k_X5_ofT 0 [.inl x1] [] σ).bind fun q => Rx k_X5_upThen 42 [.inr (.inl (16, 0)), .inl x1, .inl x2, .inl x3] (q.1.toList ++ [.inr (.inl (17, 1))]) q.2 := by
  refine (Rx_N (k := 3) (pc' := 39) (ls' := [.inr (.inl (16, 0)), .inl x1, .inl x2, .inl x3]) (st' := [.inl x1, .inr (.inl (17, 1))]) (σ' := σ) rfl).trans ?_
  exact Rx_call (n := 3) (y' := k_X5_ofT) (as := [.inl x1]) (rest := [.inr (.inl (17, 1))]) rfl rfl rfl
theorem r_X5_upThen_42 (x1 : Int) (x2 : Int) (x3 : Int) (s1 : Int) (σ : St) (h0 : 0 ≤ (wr (s1 + 3))) (h1 : (wr (s1 + 3)) < 58) : Rx k_X5_upThen 42 [.inr (.inl (16, 0)), .inl x1, .inl x2, .inl x3] [.inl s1, .inr (.inl (17, 1))] σ = some (some (.inl (σ 17 1 (wr (s1 + 3)).toNat)), σ) := by
  refine (Rx_N (k := 2) (pc' := 44) (ls' := [.inr (.inl (16, 0)), .inl x1, .inl x2, .inl x3]) (st' := [.inl (wr (s1 + 3)), .inr (.inl (17, 1))]) (σ' := σ) rfl).trans ?_
  refine (Rx_ild 58 rfl rfl rfl h0 h1).trans ?_
  exact Rx_ret rfl rfl
theorem b_X5_upThen_42 (x1 : Int) (x2 : Int) (x3 : Int) (s1 : Int) (σ : St) (h0 : 0 ≤ (s1 + 3)) (h1 : (s1 + 3) < 58) (g0a : -2147483648 ≤ (s1 + 3)) (g0b : (s1 + 3) < 2147483648) : Rx k_X5_upThen 42 [.inr (.inl (16, 0)), .inl x1, .inl x2, .inl x3] [.inl s1, .inr (.inl (17, 1))] σ = some (some (.inl (σ 17 1 (s1 + 3).toNat)), σ) := by
  have e0 := wr_id (x := (s1 + 3)) g0a g0b
  have raw := r_X5_upThen_42 x1 x2 x3 s1 σ (by simp only [e0]; exact h0) (by simp only [e0]; exact h1)
  simp only [e0] at raw
  exact raw
theorem b_X5_allThen_0 (x1 : Int) (u2 : AV) (σ : St) : Rx k_X5_allThen 0 [.inr (.inl (16, 0)), .inl x1, u2] [] σ = (Rx k_X5_wrongBy 0 [.inl x1, .inl 99] [] σ).bind fun q => Rx k_X5_allThen 6 [.inr (.inl (16, 0)), .inl x1, u2] (q.1.toList ++ []) q.2 := by
  refine (Rx_N (k := 2) (pc' := 3) (ls' := [.inr (.inl (16, 0)), .inl x1, u2]) (st' := [.inl 99, .inl x1]) (σ' := σ) rfl).trans ?_
  exact Rx_call (n := 3) (y' := k_X5_wrongBy) (as := [.inl x1, .inl 99]) (rest := []) rfl rfl rfl
theorem b_X5_allThen_6 (x1 : Int) (u2 : AV) (s0 : Int) (σ : St) : Rx k_X5_allThen 6 [.inr (.inl (16, 0)), .inl x1, u2] [.inl s0] σ = if s0 = 0 then Rx k_X5_allThen 17 [.inr (.inl (16, 0)), .inl x1, .inl s0] [] σ else Rx k_X5_allThen 11 [.inr (.inl (16, 0)), .inl x1, .inl s0] [] σ := by
  exact Rx_eq0 (k := 3) rfl
theorem b_X5_allThen_11 (x1 : Int) (x2 : Int) (σ : St) : Rx k_X5_allThen 11 [.inr (.inl (16, 0)), .inl x1, .inl x2] [] σ = (Rx k_X5_no 0 [.inr (.inl (16, 0)), .inl x2] [] σ).bind fun q => Rx k_X5_allThen 16 [.inr (.inl (16, 0)), .inl x1, .inl x2] (q.1.toList ++ []) q.2 := by
  refine (Rx_N (k := 2) (pc' := 13) (ls' := [.inr (.inl (16, 0)), .inl x1, .inl x2]) (st' := [.inl x2, .inr (.inl (16, 0))]) (σ' := σ) rfl).trans ?_
  exact Rx_call (n := 3) (y' := k_X5_no) (as := [.inr (.inl (16, 0)), .inl x2]) (rest := []) rfl rfl rfl
theorem b_X5_allThen_16 (x1 : Int) (x2 : Int) (s0 : Int) (σ : St) : Rx k_X5_allThen 16 [.inr (.inl (16, 0)), .inl x1, .inl x2] [.inl s0] σ = some (some (.inl s0), σ) := by
  exact Rx_ret rfl rfl
theorem b_X5_allThen_17 (x1 : Int) (x2 : Int) (σ : St) : Rx k_X5_allThen 17 [.inr (.inl (16, 0)), .inl x1, .inl x2] [] σ = (Rx k_X5_copies 0 [.inr (.inl (17, 0)), .inr (.inl (17, 1)), uns] [] σ).bind fun q => Rx k_X5_allThen 28 [.inr (.inl (16, 0)), .inl x1, .inl x2] (q.1.toList ++ []) q.2 := by
  refine (Rx_N (k := 4) (pc' := 25) (ls' := [.inr (.inl (16, 0)), .inl x1, .inl x2]) (st' := [.inr (.inl (17, 1)), .inr (.inl (17, 0))]) (σ' := σ) rfl).trans ?_
  exact Rx_call (n := 3) (y' := k_X5_copies) (as := [.inr (.inl (17, 0)), .inr (.inl (17, 1))]) (rest := []) rfl rfl rfl
theorem b_X5_allThen_28 (x1 : Int) (x2 : Int) (σ : St) : Rx k_X5_allThen 28 [.inr (.inl (16, 0)), .inl x1, .inl x2] [] σ = (Rx k_X5_upIn 0 [.inr (.inl (16, 0)), .inl x1] [] σ).bind fun q => Rx k_X5_allThen 33 [.inr (.inl (16, 0)), .inl x1, .inl x2] (q.1.toList ++ []) q.2 := by
  refine (Rx_N (k := 2) (pc' := 30) (ls' := [.inr (.inl (16, 0)), .inl x1, .inl x2]) (st' := [.inl x1, .inr (.inl (16, 0))]) (σ' := σ) rfl).trans ?_
  exact Rx_call (n := 3) (y' := k_X5_upIn) (as := [.inr (.inl (16, 0)), .inl x1]) (rest := []) rfl rfl rfl
theorem b_X5_allThen_33 (x1 : Int) (x2 : Int) (s0 : Int) (σ : St) : Rx k_X5_allThen 33 [.inr (.inl (16, 0)), .inl x1, .inl x2] [.inl s0] σ = some (some (.inl s0), σ) := by
  exact Rx_ret rfl rfl
theorem b_X5_purposeThen_0 (x1 : Int) (x2 : Int) (x3 : Int) (u4 : AV) (σ : St) : Rx k_X5_purposeThen 0 [.inr (.inl (16, 0)), .inl x1, .inl x2, .inl x3, u4] [] σ = (Rx k_X5_isPurpose 0 [.inr (.inl (16, 0)), .inl x1] [] σ).bind fun q => Rx k_X5_purposeThen 5 [.inr (.inl (16, 0)), .inl x1, .inl x2, .inl x3, u4] (q.1.toList ++ []) q.2 := by
  refine (Rx_N (k := 2) (pc' := 2) (ls' := [.inr (.inl (16, 0)), .inl x1, .inl x2, .inl x3, u4]) (st' := [.inl x1, .inr (.inl (16, 0))]) (σ' := σ) rfl).trans ?_
  exact Rx_call (n := 3) (y' := k_X5_isPurpose) (as := [.inr (.inl (16, 0)), .inl x1]) (rest := []) rfl rfl rfl
theorem b_X5_purposeThen_5 (x1 : Int) (x2 : Int) (x3 : Int) (u4 : AV) (s0 : Int) (σ : St) : Rx k_X5_purposeThen 5 [.inr (.inl (16, 0)), .inl x1, .inl x2, .inl x3, u4] [.inl s0] σ = if s0 = 0 then Rx k_X5_purposeThen 17 [.inr (.inl (16, 0)), .inl x1, .inl x2, .inl x3, u4] [] σ else Rx k_X5_purposeThen 8 [.inr (.inl (16, 0)), .inl x1, .inl x2, .inl x3, u4] [] σ := by
  exact Rx_eq0 (k := 1) rfl
theorem b_X5_purposeThen_8 (x1 : Int) (x2 : Int) (x3 : Int) (u4 : AV) (σ : St) : Rx k_X5_purposeThen 8 [.inr (.inl (16, 0)), .inl x1, .inl x2, .inl x3, u4] [] σ = (Rx k_X5_wrongBy 0 [.inl x2, .inl 99] [] σ).bind fun q => Rx k_X5_purposeThen 14 [.inr (.inl (16, 0)), .inl x1, .inl x2, .inl x3, u4] (q.1.toList ++ []) q.2 := by
  refine (Rx_N (k := 2) (pc' := 11) (ls' := [.inr (.inl (16, 0)), .inl x1, .inl x2, .inl x3, u4]) (st' := [.inl 99, .inl x2]) (σ' := σ) rfl).trans ?_
  exact Rx_call (n := 3) (y' := k_X5_wrongBy) (as := [.inl x2, .inl 99]) (rest := []) rfl rfl rfl
theorem b_X5_purposeThen_14 (x1 : Int) (x2 : Int) (x3 : Int) (u4 : AV) (s0 : Int) (σ : St) : Rx k_X5_purposeThen 14 [.inr (.inl (16, 0)), .inl x1, .inl x2, .inl x3, u4] [.inl s0] σ = if s0 = 0 then Rx k_X5_purposeThen 25 [.inr (.inl (16, 0)), .inl x1, .inl x2, .inl x3, .inl s0] [] σ else Rx k_X5_purposeThen 38 [.inr (.inl (16, 0)), .inl x1, .inl x2, .inl x3, .inl s0] [] σ := by
  exact Rx_ne0 (k := 4) rfl
theorem b_X5_purposeThen_17 (x1 : Int) (x2 : Int) (x3 : Int) (u4 : AV) (σ : St) : Rx k_X5_purposeThen 17 [.inr (.inl (16, 0)), .inl x1, .inl x2, .inl x3, u4] [] σ = if ((-1) : Int) = (0 : Int) then Rx k_X5_purposeThen 25 [.inr (.inl (16, 0)), .inl x1, .inl x2, .inl x3, .inl (-1)] [] σ else Rx k_X5_purposeThen 38 [.inr (.inl (16, 0)), .inl x1, .inl x2, .inl x3, .inl (-1)] [] σ := by
  exact Rx_ne0 (k := 4) rfl
theorem b_X5_purposeThen_25 (x1 : Int) (x2 : Int) (x3 : Int) (x4 : Int) (σ : St) : Rx k_X5_purposeThen 25 [.inr (.inl (16, 0)), .inl x1, .inl x2, .inl x3, .inl x4] [] σ = (Rx k_X5_isIn 0 [.inl x3, .inl 0, .inl 1] [] σ).bind fun q => Rx k_X5_purposeThen 31 [.inr (.inl (16, 0)), .inl x1, .inl x2, .inl x3, .inl x4] (q.1.toList ++ []) q.2 := by
  refine (Rx_N (k := 3) (pc' := 28) (ls' := [.inr (.inl (16, 0)), .inl x1, .inl x2, .inl x3, .inl x4]) (st' := [.inl 1, .inl 0, .inl x3]) (σ' := σ) rfl).trans ?_
  exact Rx_call (n := 3) (y' := k_X5_isIn) (as := [.inl x3, .inl 0, .inl 1]) (rest := []) rfl rfl rfl
theorem b_X5_purposeThen_31 (x1 : Int) (x2 : Int) (x3 : Int) (x4 : Int) (s0 : Int) (σ : St) : Rx k_X5_purposeThen 31 [.inr (.inl (16, 0)), .inl x1, .inl x2, .inl x3, .inl x4] [.inl s0] σ = if s0 = 0 then Rx k_X5_purposeThen 34 [.inr (.inl (16, 0)), .inl x1, .inl x2, .inl x3, .inl x4] [] σ else Rx k_X5_purposeThen 38 [.inr (.inl (16, 0)), .inl x1, .inl x2, .inl x3, .inl x4] [] σ := by
  exact Rx_ne0 (k := 1) rfl
theorem b_X5_purposeThen_34 (x1 : Int) (x2 : Int) (x3 : Int) (x4 : Int) (σ : St) : Rx k_X5_purposeThen 34 [.inr (.inl (16, 0)), .inl x1, .inl x2, .inl x3, .inl x4] [] σ = if ((-2) : Int) = (0 : Int) then Rx k_X5_purposeThen 50 [.inr (.inl (16, 0)), .inl x1, .inl x2, .inl x3, .inl (-2)] [] σ else Rx k_X5_purposeThen 43 [.inr (.inl (16, 0)), .inl x1, .inl x2, .inl x3, .inl (-2)] [] σ := by
  exact Rx_eq0 (k := 4) rfl
theorem b_X5_purposeThen_38 (x1 : Int) (x2 : Int) (x3 : Int) (x4 : Int) (σ : St) : Rx k_X5_purposeThen 38 [.inr (.inl (16, 0)), .inl x1, .inl x2, .inl x3, .inl x4] [] σ = if x4 = 0 then Rx k_X5_purposeThen 50 [.inr (.inl (16, 0)), .inl x1, .inl x2, .inl x3, .inl x4] [] σ else Rx k_X5_purposeThen 43 [.inr (.inl (16, 0)), .inl x1, .inl x2, .inl x3, .inl x4] [] σ := by
  exact Rx_eq0 (k := 2) rfl
theorem b_X5_purposeThen_43 (x1 : Int) (x2 : Int) (x3 : Int) (x4 : Int) (σ : St) : Rx k_X5_purposeThen 43 [.inr (.inl (16, 0)), .inl x1, .inl x2, .inl x3, .inl x4] [] σ = (Rx k_X5_no 0 [.inr (.inl (16, 0)), .inl x4] [] σ).bind fun q => Rx k_X5_purposeThen 49 [.inr (.inl (16, 0)), .inl x1, .inl x2, .inl x3, .inl x4] (q.1.toList ++ []) q.2 := by
  refine (Rx_N (k := 2) (pc' := 46) (ls' := [.inr (.inl (16, 0)), .inl x1, .inl x2, .inl x3, .inl x4]) (st' := [.inl x4, .inr (.inl (16, 0))]) (σ' := σ) rfl).trans ?_
  exact Rx_call (n := 3) (y' := k_X5_no) (as := [.inr (.inl (16, 0)), .inl x4]) (rest := []) rfl rfl rfl
theorem b_X5_purposeThen_49 (x1 : Int) (x2 : Int) (x3 : Int) (x4 : Int) (s0 : Int) (σ : St) : Rx k_X5_purposeThen 49 [.inr (.inl (16, 0)), .inl x1, .inl x2, .inl x3, .inl x4] [.inl s0] σ = some (some (.inl s0), σ) := by
  exact Rx_ret rfl rfl
theorem b_X5_purposeThen_50 (x1 : Int) (x2 : Int) (x3 : Int) (x4 : Int) (σ : St) : Rx k_X5_purposeThen 50 [.inr (.inl (16, 0)), .inl x1, .inl x2, .inl x3, .inl x4] [] σ = (Rx k_X5_takesOn 0 [.inr (.inl (16, 0)), .inl x2] [] σ).bind fun q => Rx k_X5_purposeThen 55 [.inr (.inl (16, 0)), .inl x1, .inl x2, .inl x3, .inl x4] (q.1.toList ++ []) q.2 := by
  refine (Rx_N (k := 2) (pc' := 52) (ls' := [.inr (.inl (16, 0)), .inl x1, .inl x2, .inl x3, .inl x4]) (st' := [.inl x2, .inr (.inl (16, 0))]) (σ' := σ) rfl).trans ?_
  exact Rx_call (n := 3) (y' := k_X5_takesOn) (as := [.inr (.inl (16, 0)), .inl x2]) (rest := []) rfl rfl rfl
theorem b_X5_purposeThen_55 (x1 : Int) (x2 : Int) (x3 : Int) (x4 : Int) (σ : St) : Rx k_X5_purposeThen 55 [.inr (.inl (16, 0)), .inl x1, .inl x2, .inl x3, .inl x4] [] σ = if x3 = 0 then Rx k_X5_purposeThen 59 [.inr (.inl (16, 0)), .inl x1, .inl x2, .inl x3, .inl x4] [] σ else Rx k_X5_purposeThen 73 [.inr (.inl (16, 0)), .inl x1, .inl x2, .inl x3, .inl x4] [] σ := by
  exact Rx_ne0 (k := 2) rfl
theorem b_X5_purposeThen_59 (x1 : Int) (x2 : Int) (x3 : Int) (x4 : Int) (σ : St) : Rx k_X5_purposeThen 59 [.inr (.inl (16, 0)), .inl x1, .inl x2, .inl x3, .inl x4] [] σ = (Rx k_X5_ofP 0 [.inl x1] [] σ).bind fun q => Rx k_X5_purposeThen 67 [.inr (.inl (16, 0)), .inl x1, .inl x2, .inl x3, .inl x4] (q.1.toList ++ [.inr (.inl (17, 1))]) q.2 := by
  refine (Rx_N (k := 3) (pc' := 64) (ls' := [.inr (.inl (16, 0)), .inl x1, .inl x2, .inl x3, .inl x4]) (st' := [.inl x1, .inr (.inl (17, 1))]) (σ' := σ) rfl).trans ?_
  exact Rx_call (n := 3) (y' := k_X5_ofP) (as := [.inl x1]) (rest := [.inr (.inl (17, 1))]) rfl rfl rfl
theorem r_X5_purposeThen_67 (x1 : Int) (x2 : Int) (x3 : Int) (x4 : Int) (s1 : Int) (σ : St) (h0 : 0 ≤ (wr (s1 + 2))) (h1 : (wr (s1 + 2)) < 58) : Rx k_X5_purposeThen 67 [.inr (.inl (16, 0)), .inl x1, .inl x2, .inl x3, .inl x4] [.inl s1, .inr (.inl (17, 1))] σ = some (some (.inl (σ 17 1 (wr (s1 + 2)).toNat)), σ) := by
  refine (Rx_N (k := 2) (pc' := 69) (ls' := [.inr (.inl (16, 0)), .inl x1, .inl x2, .inl x3, .inl x4]) (st' := [.inl (wr (s1 + 2)), .inr (.inl (17, 1))]) (σ' := σ) rfl).trans ?_
  refine (Rx_ild 58 rfl rfl rfl h0 h1).trans ?_
  refine (Rx_N (k := 1) (pc' := 81) (ls' := [.inr (.inl (16, 0)), .inl x1, .inl x2, .inl x3, .inl x4]) (st' := [.inl (σ 17 1 (wr (s1 + 2)).toNat)]) (σ' := σ) rfl).trans ?_
  exact Rx_ret rfl rfl
theorem b_X5_purposeThen_67 (x1 : Int) (x2 : Int) (x3 : Int) (x4 : Int) (s1 : Int) (σ : St) (h0 : 0 ≤ (s1 + 2)) (h1 : (s1 + 2) < 58) (g0a : -2147483648 ≤ (s1 + 2)) (g0b : (s1 + 2) < 2147483648) : Rx k_X5_purposeThen 67 [.inr (.inl (16, 0)), .inl x1, .inl x2, .inl x3, .inl x4] [.inl s1, .inr (.inl (17, 1))] σ = some (some (.inl (σ 17 1 (s1 + 2).toNat)), σ) := by
  have e0 := wr_id (x := (s1 + 2)) g0a g0b
  have raw := r_X5_purposeThen_67 x1 x2 x3 x4 s1 σ (by simp only [e0]; exact h0) (by simp only [e0]; exact h1)
  simp only [e0] at raw
  exact raw
theorem b_X5_purposeThen_73 (x1 : Int) (x2 : Int) (x3 : Int) (x4 : Int) (σ : St) : Rx k_X5_purposeThen 73 [.inr (.inl (16, 0)), .inl x1, .inl x2, .inl x3, .inl x4] [] σ = (Rx k_X5_loadOf 0 [.inr (.inl (17, 1)), .inl x1, uns, uns] [] σ).bind fun q => Rx k_X5_purposeThen 81 [.inr (.inl (16, 0)), .inl x1, .inl x2, .inl x3, .inl x4] (q.1.toList ++ []) q.2 := by
  refine (Rx_N (k := 3) (pc' := 78) (ls' := [.inr (.inl (16, 0)), .inl x1, .inl x2, .inl x3, .inl x4]) (st' := [.inl x1, .inr (.inl (17, 1))]) (σ' := σ) rfl).trans ?_
  exact Rx_call (n := 3) (y' := k_X5_loadOf) (as := [.inr (.inl (17, 1)), .inl x1]) (rest := []) rfl rfl rfl
theorem b_X5_purposeThen_81 (x1 : Int) (x2 : Int) (x3 : Int) (x4 : Int) (s0 : Int) (σ : St) : Rx k_X5_purposeThen 81 [.inr (.inl (16, 0)), .inl x1, .inl x2, .inl x3, .inl x4] [.inl s0] σ = some (some (.inl s0), σ) := by
  exact Rx_ret rfl rfl
theorem b_X5_downIn_0 (x1 : Int) (x2 : Int) (u3 : AV) (u4 : AV) (σ : St) : Rx k_X5_downIn 0 [.inr (.inl (16, 0)), .inl x1, .inl x2, u3, u4] [] σ = Rx k_X5_downIn 2 [.inr (.inl (16, 0)), .inl x1, .inl x2, .inl 0, u4] [] σ := by
  refine (Rx_N (k := 2) (pc' := 2) (ls' := [.inr (.inl (16, 0)), .inl x1, .inl x2, .inl 0, u4]) (st' := []) (σ' := σ) rfl).trans ?_
  rfl
theorem b_X5_downIn_2 (x1 : Int) (x2 : Int) (x3 : Int) (u4 : AV) (σ : St) : Rx k_X5_downIn 2 [.inr (.inl (16, 0)), .inl x1, .inl x2, .inl x3, u4] [] σ = if 99 < x3 then Rx k_X5_downIn 53 [.inr (.inl (16, 0)), .inl x1, .inl x2, .inl x3, u4] [] σ else Rx k_X5_downIn 8 [.inr (.inl (16, 0)), .inl x1, .inl x2, .inl x3, u4] [] σ := by
  exact Rx_gt0 (k := 3) rfl
theorem b_X5_downIn_8 (x1 : Int) (x2 : Int) (x3 : Int) (u4 : AV) (σ : St) : Rx k_X5_downIn 8 [.inr (.inl (16, 0)), .inl x1, .inl x2, .inl x3, u4] [] σ = (Rx k_X5_upSet 0 [.inr (.inl (17, 1)), uns, uns] [] σ).bind fun q => Rx k_X5_downIn 15 [.inr (.inl (16, 0)), .inl x1, .inl x2, .inl x3, u4] (q.1.toList ++ []) q.2 := by
  refine (Rx_N (k := 2) (pc' := 12) (ls' := [.inr (.inl (16, 0)), .inl x1, .inl x2, .inl x3, u4]) (st' := [.inr (.inl (17, 1))]) (σ' := σ) rfl).trans ?_
  exact Rx_call (n := 3) (y' := k_X5_upSet) (as := [.inr (.inl (17, 1))]) (rest := []) rfl rfl rfl
theorem b_X5_downIn_15 (x1 : Int) (x2 : Int) (x3 : Int) (u4 : AV) (s0 : Int) (σ : St) : Rx k_X5_downIn 15 [.inr (.inl (16, 0)), .inl x1, .inl x2, .inl x3, u4] [.inl s0] σ = if x2 = 0 then Rx k_X5_downIn 31 [.inr (.inl (16, 0)), .inl x1, .inl x2, .inl x3, .inl (bAnd s0 x1)] [] σ else Rx k_X5_downIn 23 [.inr (.inl (16, 0)), .inl x1, .inl x2, .inl x3, .inl (bAnd s0 x1)] [] σ := by
  exact Rx_eq0 (k := 5) rfl
theorem b_X5_downIn_23 (x1 : Int) (x2 : Int) (x3 : Int) (x4 : Int) (σ : St) : Rx k_X5_downIn 23 [.inr (.inl (16, 0)), .inl x1, .inl x2, .inl x3, .inl x4] [] σ = if x4 = 0 then Rx k_X5_downIn 28 [.inr (.inl (16, 0)), .inl x1, .inl x2, .inl x3, .inl x4] [] σ else Rx k_X5_downIn 39 [.inr (.inl (16, 0)), .inl x1, .inl x2, .inl x3, .inl x4] [] σ := by
  exact Rx_ne0 (k := 2) rfl
theorem b_X5_downIn_28 (x1 : Int) (x2 : Int) (x3 : Int) (x4 : Int) (σ : St) : Rx k_X5_downIn 28 [.inr (.inl (16, 0)), .inl x1, .inl x2, .inl x3, .inl x4] [] σ = some (some (.inl x3), σ) := by
  refine (Rx_N (k := 2) (pc' := 38) (ls' := [.inr (.inl (16, 0)), .inl x1, .inl x2, .inl x3, .inl x4]) (st' := [.inl x3]) (σ' := σ) rfl).trans ?_
  exact Rx_ret rfl rfl
theorem b_X5_downIn_31 (x1 : Int) (x2 : Int) (x3 : Int) (x4 : Int) (σ : St) : Rx k_X5_downIn 31 [.inr (.inl (16, 0)), .inl x1, .inl x2, .inl x3, .inl x4] [] σ = if x4 = x1 then Rx k_X5_downIn 39 [.inr (.inl (16, 0)), .inl x1, .inl x2, .inl x3, .inl x4] [] σ else Rx k_X5_downIn 37 [.inr (.inl (16, 0)), .inl x1, .inl x2, .inl x3, .inl x4] [] σ := by
  exact Rx_eq0 (k := 3) rfl
theorem b_X5_downIn_37 (x1 : Int) (x2 : Int) (x3 : Int) (x4 : Int) (σ : St) : Rx k_X5_downIn 37 [.inr (.inl (16, 0)), .inl x1, .inl x2, .inl x3, .inl x4] [] σ = some (some (.inl x3), σ) := by
  refine (Rx_N (k := 1) (pc' := 38) (ls' := [.inr (.inl (16, 0)), .inl x1, .inl x2, .inl x3, .inl x4]) (st' := [.inl x3]) (σ' := σ) rfl).trans ?_
  exact Rx_ret rfl rfl
theorem b_X5_downIn_39 (x1 : Int) (x2 : Int) (x3 : Int) (x4 : Int) (σ : St) : Rx k_X5_downIn 39 [.inr (.inl (16, 0)), .inl x1, .inl x2, .inl x3, .inl x4] [] σ = (Rx k_X5_day 0 [.inr (.inl (16, 0)), .inr (.inl (17, 1)), uns, uns, uns] [] σ).bind fun q => Rx k_X5_downIn 47 [.inr (.inl (16, 0)), .inl x1, .inl x2, .inl x3, .inl x4] (q.1.toList ++ []) q.2 := by
  refine (Rx_N (k := 3) (pc' := 44) (ls' := [.inr (.inl (16, 0)), .inl x1, .inl x2, .inl x3, .inl x4]) (st' := [.inr (.inl (17, 1)), .inr (.inl (16, 0))]) (σ' := σ) rfl).trans ?_
  exact Rx_call (n := 3) (y' := k_X5_day) (as := [.inr (.inl (16, 0)), .inr (.inl (17, 1))]) (rest := []) rfl rfl rfl
theorem r_X5_downIn_47 (x1 : Int) (x2 : Int) (x3 : Int) (x4 : Int) (σ : St) : Rx k_X5_downIn 47 [.inr (.inl (16, 0)), .inl x1, .inl x2, .inl x3, .inl x4] [] σ = Rx k_X5_downIn 2 [.inr (.inl (16, 0)), .inl x1, .inl x2, .inl (wr (x3 + 1)), .inl x4] [] σ := by
  refine (Rx_N (k := 2) (pc' := 2) (ls' := [.inr (.inl (16, 0)), .inl x1, .inl x2, .inl (wr (x3 + 1)), .inl x4]) (st' := []) (σ' := σ) rfl).trans ?_
  rfl
theorem b_X5_downIn_47 (x1 : Int) (x2 : Int) (x3 : Int) (x4 : Int) (σ : St) (g0a : -2147483648 ≤ (x3 + 1)) (g0b : (x3 + 1) < 2147483648) : Rx k_X5_downIn 47 [.inr (.inl (16, 0)), .inl x1, .inl x2, .inl x3, .inl x4] [] σ = Rx k_X5_downIn 2 [.inr (.inl (16, 0)), .inl x1, .inl x2, .inl (x3 + 1), .inl x4] [] σ := by
  have e0 := wr_id (x := (x3 + 1)) g0a g0b
  have raw := r_X5_downIn_47 x1 x2 x3 x4 σ 
  simp only [e0] at raw
  exact raw
theorem b_X5_downIn_53 (x1 : Int) (x2 : Int) (x3 : Int) (u4 : AV) (σ : St) : Rx k_X5_downIn 53 [.inr (.inl (16, 0)), .inl x1, .inl x2, .inl x3, u4] [] σ = some (some (.inl (-9)), σ) := by
  refine (Rx_N (k := 1) (pc' := 55) (ls' := [.inr (.inl (16, 0)), .inl x1, .inl x2, .inl x3, u4]) (st' := [.inl (-9)]) (σ' := σ) rfl).trans ?_
  exact Rx_ret rfl rfl
theorem b_X5_fallsOf_0 (x1 : Int) (σ : St) : Rx k_X5_fallsOf 0 [.inr (.inl (16, 0)), .inl x1] [] σ = (Rx k_X5_copies 0 [.inr (.inl (17, 0)), .inr (.inl (17, 1)), uns] [] σ).bind fun q => Rx k_X5_fallsOf 11 [.inr (.inl (16, 0)), .inl x1] (q.1.toList ++ []) q.2 := by
  refine (Rx_N (k := 4) (pc' := 8) (ls' := [.inr (.inl (16, 0)), .inl x1]) (st' := [.inr (.inl (17, 1)), .inr (.inl (17, 0))]) (σ' := σ) rfl).trans ?_
  exact Rx_call (n := 3) (y' := k_X5_copies) (as := [.inr (.inl (17, 0)), .inr (.inl (17, 1))]) (rest := []) rfl rfl rfl
theorem b_X5_fallsOf_11 (x1 : Int) (σ : St) : Rx k_X5_fallsOf 11 [.inr (.inl (16, 0)), .inl x1] [] σ = (Rx k_X5_downIn 0 [.inr (.inl (16, 0)), .inl (bShl 1 x1), .inl 1, uns, uns] [] σ).bind fun q => Rx k_X5_fallsOf 19 [.inr (.inl (16, 0)), .inl x1] (q.1.toList ++ []) q.2 := by
  refine (Rx_N (k := 5) (pc' := 16) (ls' := [.inr (.inl (16, 0)), .inl x1]) (st' := [.inl 1, .inl (bShl 1 x1), .inr (.inl (16, 0))]) (σ' := σ) rfl).trans ?_
  exact Rx_call (n := 3) (y' := k_X5_downIn) (as := [.inr (.inl (16, 0)), .inl (bShl 1 x1), .inl 1]) (rest := []) rfl rfl rfl
theorem b_X5_fallsOf_19 (x1 : Int) (s0 : Int) (σ : St) : Rx k_X5_fallsOf 19 [.inr (.inl (16, 0)), .inl x1] [.inl s0] σ = some (some (.inl s0), σ) := by
  exact Rx_ret rfl rfl
