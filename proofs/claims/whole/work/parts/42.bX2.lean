theorem b_X2_become_0 (r0 : Nat) (r1 : Nat) (σ : St) : Rx k_X2_become 0 [.inr (.inl (7, r0)), .inr (.inl (7, r1))] [] σ = some (none, (cpy (cpy (cpy (cpy (cpy (cpy (cpy (cpy (up (up (up (up σ 7 r0 0 (σ 7 r1 0)) 7 r0 1 ((up σ 7 r0 0 (σ 7 r1 0)) 7 r1 1)) 7 r0 2 ((up (up σ 7 r0 0 (σ 7 r1 0)) 7 r0 1 ((up σ 7 r0 0 (σ 7 r1 0)) 7 r1 1)) 7 r1 2)) 7 r0 3 ((up (up (up σ 7 r0 0 (σ 7 r1 0)) 7 r0 1 ((up σ 7 r0 0 (σ 7 r1 0)) 7 r1 1)) 7 r0 2 ((up (up σ 7 r0 0 (σ 7 r1 0)) 7 r0 1 ((up σ 7 r0 0 (σ 7 r1 0)) 7 r1 1)) 7 r1 2)) 7 r1 3)) 8 r1 0 8 r0 0 5) 9 r1 0 9 r0 0 5) 10 r1 0 10 r0 0 5) 11 r1 0 11 r0 0 5) 12 r1 0 12 r0 0 10) 13 r1 0 13 r0 0 10) 14 r1 0 14 r0 0 10) 15 r1 0 15 r0 0 20)) := by
  refine (Rx_N (k := 80) (pc' := 148) (ls' := [.inr (.inl (7, r0)), .inr (.inl (7, r1))]) (st' := []) (σ' := (cpy (cpy (cpy (cpy (cpy (cpy (cpy (cpy (up (up (up (up σ 7 r0 0 (σ 7 r1 0)) 7 r0 1 ((up σ 7 r0 0 (σ 7 r1 0)) 7 r1 1)) 7 r0 2 ((up (up σ 7 r0 0 (σ 7 r1 0)) 7 r0 1 ((up σ 7 r0 0 (σ 7 r1 0)) 7 r1 1)) 7 r1 2)) 7 r0 3 ((up (up (up σ 7 r0 0 (σ 7 r1 0)) 7 r0 1 ((up σ 7 r0 0 (σ 7 r1 0)) 7 r1 1)) 7 r0 2 ((up (up σ 7 r0 0 (σ 7 r1 0)) 7 r0 1 ((up σ 7 r0 0 (σ 7 r1 0)) 7 r1 1)) 7 r1 2)) 7 r1 3)) 8 r1 0 8 r0 0 5) 9 r1 0 9 r0 0 5) 10 r1 0 10 r0 0 5) 11 r1 0 11 r0 0 5) 12 r1 0 12 r0 0 10) 13 r1 0 13 r0 0 10) 14 r1 0 14 r0 0 10) 15 r1 0 15 r0 0 20)) rfl).trans ?_
  exact Rx_ret rfl rfl
theorem b_X2_isPurpose_0 (r0 : Nat) (x1 : Int) (σ : St) : Rx k_X2_isPurpose 0 [.inr (.inl (7, r0)), .inl x1] [] σ = if x1 < 0 then Rx k_X2_isPurpose 21 [.inr (.inl (7, r0)), .inl x1] [] σ else Rx k_X2_isPurpose 4 [.inr (.inl (7, r0)), .inl x1] [] σ := by
  exact Rx_lt0 (k := 2) rfl
theorem b_X2_isPurpose_4 (r0 : Nat) (x1 : Int) (σ : St) : Rx k_X2_isPurpose 4 [.inr (.inl (7, r0)), .inl x1] [] σ = if x1 < (σ 7 r0 0) then Rx k_X2_isPurpose 12 [.inr (.inl (7, r0)), .inl x1] [] σ else Rx k_X2_isPurpose 21 [.inr (.inl (7, r0)), .inl x1] [] σ := by
  exact Rx_ge0 (k := 4) rfl
theorem b_X2_isPurpose_12 (r0 : Nat) (x1 : Int) (σ : St) : Rx k_X2_isPurpose 12 [.inr (.inl (7, r0)), .inl x1] [] σ = if x1 < 5 then Rx k_X2_isPurpose 17 [.inr (.inl (7, r0)), .inl x1] [] σ else Rx k_X2_isPurpose 21 [.inr (.inl (7, r0)), .inl x1] [] σ := by
  exact Rx_ge0 (k := 3) rfl
theorem b_X2_isPurpose_17 (r0 : Nat) (x1 : Int) (σ : St) : Rx k_X2_isPurpose 17 [.inr (.inl (7, r0)), .inl x1] [] σ = some (some (.inl 1), σ) := by
  refine (Rx_N (k := 2) (pc' := 22) (ls' := [.inr (.inl (7, r0)), .inl x1]) (st' := [.inl 1]) (σ' := σ) rfl).trans ?_
  exact Rx_ret rfl rfl
theorem b_X2_isPurpose_21 (r0 : Nat) (x1 : Int) (σ : St) : Rx k_X2_isPurpose 21 [.inr (.inl (7, r0)), .inl x1] [] σ = some (some (.inl 0), σ) := by
  refine (Rx_N (k := 1) (pc' := 22) (ls' := [.inr (.inl (7, r0)), .inl x1]) (st' := [.inl 0]) (σ' := σ) rfl).trans ?_
  exact Rx_ret rfl rfl
theorem b_X2_isThing_0 (r0 : Nat) (x1 : Int) (σ : St) : Rx k_X2_isThing 0 [.inr (.inl (7, r0)), .inl x1] [] σ = if x1 < 0 then Rx k_X2_isThing 22 [.inr (.inl (7, r0)), .inl x1] [] σ else Rx k_X2_isThing 4 [.inr (.inl (7, r0)), .inl x1] [] σ := by
  exact Rx_lt0 (k := 2) rfl
theorem b_X2_isThing_4 (r0 : Nat) (x1 : Int) (σ : St) : Rx k_X2_isThing 4 [.inr (.inl (7, r0)), .inl x1] [] σ = if x1 < (σ 7 r0 1) then Rx k_X2_isThing 12 [.inr (.inl (7, r0)), .inl x1] [] σ else Rx k_X2_isThing 22 [.inr (.inl (7, r0)), .inl x1] [] σ := by
  exact Rx_ge0 (k := 4) rfl
theorem b_X2_isThing_12 (r0 : Nat) (x1 : Int) (σ : St) : Rx k_X2_isThing 12 [.inr (.inl (7, r0)), .inl x1] [] σ = if x1 < 10 then Rx k_X2_isThing 18 [.inr (.inl (7, r0)), .inl x1] [] σ else Rx k_X2_isThing 22 [.inr (.inl (7, r0)), .inl x1] [] σ := by
  exact Rx_ge0 (k := 3) rfl
theorem b_X2_isThing_18 (r0 : Nat) (x1 : Int) (σ : St) : Rx k_X2_isThing 18 [.inr (.inl (7, r0)), .inl x1] [] σ = some (some (.inl 1), σ) := by
  refine (Rx_N (k := 2) (pc' := 23) (ls' := [.inr (.inl (7, r0)), .inl x1]) (st' := [.inl 1]) (σ' := σ) rfl).trans ?_
  exact Rx_ret rfl rfl
theorem b_X2_isThing_22 (r0 : Nat) (x1 : Int) (σ : St) : Rx k_X2_isThing 22 [.inr (.inl (7, r0)), .inl x1] [] σ = some (some (.inl 0), σ) := by
  refine (Rx_N (k := 1) (pc' := 23) (ls' := [.inr (.inl (7, r0)), .inl x1]) (st' := [.inl 0]) (σ' := σ) rfl).trans ?_
  exact Rx_ret rfl rfl
theorem b_X2_isUp_0 (r0 : Nat) (x1 : Int) (σ : St) : Rx k_X2_isUp 0 [.inr (.inl (7, r0)), .inl x1] [] σ = if x1 < 0 then Rx k_X2_isUp 34 [.inr (.inl (7, r0)), .inl x1] [] σ else Rx k_X2_isUp 4 [.inr (.inl (7, r0)), .inl x1] [] σ := by
  exact Rx_lt0 (k := 2) rfl
theorem b_X2_isUp_4 (r0 : Nat) (x1 : Int) (σ : St) : Rx k_X2_isUp 4 [.inr (.inl (7, r0)), .inl x1] [] σ = if x1 < (σ 7 r0 1) then Rx k_X2_isUp 12 [.inr (.inl (7, r0)), .inl x1] [] σ else Rx k_X2_isUp 34 [.inr (.inl (7, r0)), .inl x1] [] σ := by
  exact Rx_ge0 (k := 4) rfl
theorem b_X2_isUp_12 (r0 : Nat) (x1 : Int) (σ : St) : Rx k_X2_isUp 12 [.inr (.inl (7, r0)), .inl x1] [] σ = if x1 < 10 then Rx k_X2_isUp 18 [.inr (.inl (7, r0)), .inl x1] [] σ else Rx k_X2_isUp 34 [.inr (.inl (7, r0)), .inl x1] [] σ := by
  exact Rx_ge0 (k := 3) rfl
theorem b_X2_isUp_18 (r0 : Nat) (x1 : Int) (σ : St) : Rx k_X2_isUp 18 [.inr (.inl (7, r0)), .inl x1] [] σ = if (bAnd (bUshr (σ 7 r0 3) x1) 1) = 1 then Rx k_X2_isUp 30 [.inr (.inl (7, r0)), .inl x1] [] σ else Rx k_X2_isUp 34 [.inr (.inl (7, r0)), .inl x1] [] σ := by
  exact Rx_ne0 (k := 8) rfl
theorem b_X2_isUp_30 (r0 : Nat) (x1 : Int) (σ : St) : Rx k_X2_isUp 30 [.inr (.inl (7, r0)), .inl x1] [] σ = some (some (.inl 1), σ) := by
  refine (Rx_N (k := 2) (pc' := 35) (ls' := [.inr (.inl (7, r0)), .inl x1]) (st' := [.inl 1]) (σ' := σ) rfl).trans ?_
  exact Rx_ret rfl rfl
theorem b_X2_isUp_34 (r0 : Nat) (x1 : Int) (σ : St) : Rx k_X2_isUp 34 [.inr (.inl (7, r0)), .inl x1] [] σ = some (some (.inl 0), σ) := by
  refine (Rx_N (k := 1) (pc' := 35) (ls' := [.inr (.inl (7, r0)), .inl x1]) (st' := [.inl 0]) (σ' := σ) rfl).trans ?_
  exact Rx_ret rfl rfl
theorem b_X2_isFreeFor_0 (r0 : Nat) (x1 : Int) (x2 : Int) (σ : St) : Rx k_X2_isFreeFor 0 [.inr (.inl (7, r0)), .inl x1, .inl x2] [] σ = (Rx k_X4_isPlace 0 [.inl x2] [] σ).bind fun q => Rx k_X2_isFreeFor 4 [.inr (.inl (7, r0)), .inl x1, .inl x2] (q.1.toList ++ []) q.2 := by
  refine (Rx_N (k := 1) (pc' := 1) (ls' := [.inr (.inl (7, r0)), .inl x1, .inl x2]) (st' := [.inl x2]) (σ' := σ) rfl).trans ?_
  exact Rx_call (n := 3) (y' := k_X4_isPlace) (as := [.inl x2]) (rest := []) rfl rfl rfl
theorem b_X2_isFreeFor_4 (r0 : Nat) (x1 : Int) (x2 : Int) (s0 : Int) (σ : St) : Rx k_X2_isFreeFor 4 [.inr (.inl (7, r0)), .inl x1, .inl x2] [.inl s0] σ = if s0 = 0 then Rx k_X2_isFreeFor 32 [.inr (.inl (7, r0)), .inl x1, .inl x2] [] σ else Rx k_X2_isFreeFor 7 [.inr (.inl (7, r0)), .inl x1, .inl x2] [] σ := by
  exact Rx_eq0 (k := 1) rfl
theorem b_X2_isFreeFor_7 (r0 : Nat) (x1 : Int) (x2 : Int) (σ : St) (h0 : 0 ≤ x2) (h1 : x2 < 20) : Rx k_X2_isFreeFor 7 [.inr (.inl (7, r0)), .inl x1, .inl x2] [] σ = if (σ 15 r0 x2.toNat) = (-9) then Rx k_X2_isFreeFor 28 [.inr (.inl (7, r0)), .inl x1, .inl x2] [] σ else Rx k_X2_isFreeFor 18 [.inr (.inl (7, r0)), .inl x1, .inl x2] [] σ := by
  refine (Rx_N (k := 3) (pc' := 12) (ls' := [.inr (.inl (7, r0)), .inl x1, .inl x2]) (st' := [.inl x2, .inr (.inl (15, r0))]) (σ' := σ) rfl).trans ?_
  refine (Rx_ild 20 rfl rfl rfl h0 h1).trans ?_
  exact Rx_eq0 (k := 2) rfl
theorem b_X2_isFreeFor_18 (r0 : Nat) (x1 : Int) (x2 : Int) (σ : St) (h0 : 0 ≤ x2) (h1 : x2 < 20) : Rx k_X2_isFreeFor 18 [.inr (.inl (7, r0)), .inl x1, .inl x2] [] σ = if (σ 15 r0 x2.toNat) = x1 then Rx k_X2_isFreeFor 28 [.inr (.inl (7, r0)), .inl x1, .inl x2] [] σ else Rx k_X2_isFreeFor 32 [.inr (.inl (7, r0)), .inl x1, .inl x2] [] σ := by
  refine (Rx_N (k := 3) (pc' := 23) (ls' := [.inr (.inl (7, r0)), .inl x1, .inl x2]) (st' := [.inl x2, .inr (.inl (15, r0))]) (σ' := σ) rfl).trans ?_
  refine (Rx_ild 20 rfl rfl rfl h0 h1).trans ?_
  exact Rx_ne0 (k := 2) rfl
theorem b_X2_isFreeFor_28 (r0 : Nat) (x1 : Int) (x2 : Int) (σ : St) : Rx k_X2_isFreeFor 28 [.inr (.inl (7, r0)), .inl x1, .inl x2] [] σ = some (some (.inl 1), σ) := by
  refine (Rx_N (k := 2) (pc' := 33) (ls' := [.inr (.inl (7, r0)), .inl x1, .inl x2]) (st' := [.inl 1]) (σ' := σ) rfl).trans ?_
  exact Rx_ret rfl rfl
theorem b_X2_isFreeFor_32 (r0 : Nat) (x1 : Int) (x2 : Int) (σ : St) : Rx k_X2_isFreeFor 32 [.inr (.inl (7, r0)), .inl x1, .inl x2] [] σ = some (some (.inl 0), σ) := by
  refine (Rx_N (k := 1) (pc' := 33) (ls' := [.inr (.inl (7, r0)), .inl x1, .inl x2]) (st' := [.inl 0]) (σ' := σ) rfl).trans ?_
  exact Rx_ret rfl rfl
theorem b_X2_standing_0 (r0 : Nat) (σ : St) : Rx k_X2_standing 0 [.inr (.inl (7, r0))] [] σ = (Rx k_J6_bitCount_0f7a4 0 [.inl (σ 7 r0 3)] [] σ).bind fun q => Rx k_X2_standing 7 [.inr (.inl (7, r0))] (q.1.toList ++ []) q.2 := by
  refine (Rx_N (k := 2) (pc' := 4) (ls' := [.inr (.inl (7, r0))]) (st' := [.inl (σ 7 r0 3)]) (σ' := σ) rfl).trans ?_
  exact Rx_call (n := 3) (y' := k_J6_bitCount_0f7a4) (as := [.inl (σ 7 r0 3)]) (rest := []) rfl rfl rfl
theorem b_X2_standing_7 (r0 : Nat) (s0 : Int) (σ : St) : Rx k_X2_standing 7 [.inr (.inl (7, r0))] [.inl s0] σ = some (some (.inl s0), σ) := by
  exact Rx_ret rfl rfl
theorem b_X2_spareOf_0 (r0 : Nat) (x1 : Int) (σ : St) : Rx k_X2_spareOf 0 [.inr (.inl (7, r0)), .inl x1] [] σ = (Rx k_X2_isPurpose 0 [.inr (.inl (7, r0)), .inl x1] [] σ).bind fun q => Rx k_X2_spareOf 5 [.inr (.inl (7, r0)), .inl x1] (q.1.toList ++ []) q.2 := by
  refine (Rx_N (k := 2) (pc' := 2) (ls' := [.inr (.inl (7, r0)), .inl x1]) (st' := [.inl x1, .inr (.inl (7, r0))]) (σ' := σ) rfl).trans ?_
  exact Rx_call (n := 3) (y' := k_X2_isPurpose) (as := [.inr (.inl (7, r0)), .inl x1]) (rest := []) rfl rfl rfl
theorem b_X2_spareOf_5 (r0 : Nat) (x1 : Int) (s0 : Int) (σ : St) : Rx k_X2_spareOf 5 [.inr (.inl (7, r0)), .inl x1] [.inl s0] σ = if s0 = 0 then Rx k_X2_spareOf 24 [.inr (.inl (7, r0)), .inl x1] [] σ else Rx k_X2_spareOf 8 [.inr (.inl (7, r0)), .inl x1] [] σ := by
  exact Rx_eq0 (k := 1) rfl
theorem r_X2_spareOf_8 (r0 : Nat) (x1 : Int) (σ : St) (h0 : 0 ≤ x1) (h1 : x1 < 5) : Rx k_X2_spareOf 8 [.inr (.inl (7, r0)), .inl x1] [] σ = some (some (.inl (wr ((σ 10 r0 x1.toNat) - (σ 11 r0 x1.toNat)))), σ) := by
  refine (Rx_N (k := 3) (pc' := 13) (ls' := [.inr (.inl (7, r0)), .inl x1]) (st' := [.inl x1, .inr (.inl (10, r0))]) (σ' := σ) rfl).trans ?_
  refine (Rx_ild 5 rfl rfl rfl h0 h1).trans ?_
  refine (Rx_N (k := 3) (pc' := 19) (ls' := [.inr (.inl (7, r0)), .inl x1]) (st' := [.inl x1, .inr (.inl (11, r0)), .inl (σ 10 r0 x1.toNat)]) (σ' := σ) rfl).trans ?_
  refine (Rx_ild 5 rfl rfl rfl h0 h1).trans ?_
  refine (Rx_N (k := 2) (pc' := 25) (ls' := [.inr (.inl (7, r0)), .inl x1]) (st' := [.inl (wr ((σ 10 r0 x1.toNat) - (σ 11 r0 x1.toNat)))]) (σ' := σ) rfl).trans ?_
  exact Rx_ret rfl rfl
theorem b_X2_spareOf_8 (r0 : Nat) (x1 : Int) (σ : St) (h0 : 0 ≤ x1) (h1 : x1 < 5) (g0a : -2147483648 ≤ ((σ 10 r0 x1.toNat) - (σ 11 r0 x1.toNat))) (g0b : ((σ 10 r0 x1.toNat) - (σ 11 r0 x1.toNat)) < 2147483648) : Rx k_X2_spareOf 8 [.inr (.inl (7, r0)), .inl x1] [] σ = some (some (.inl ((σ 10 r0 x1.toNat) - (σ 11 r0 x1.toNat))), σ) := by
  have e0 := wr_id (x := ((σ 10 r0 x1.toNat) - (σ 11 r0 x1.toNat))) g0a g0b
  have raw := r_X2_spareOf_8 r0 x1 σ h0 h1
  simp only [e0] at raw
  exact raw
theorem b_X2_spareOf_24 (r0 : Nat) (x1 : Int) (σ : St) : Rx k_X2_spareOf 24 [.inr (.inl (7, r0)), .inl x1] [] σ = some (some (.inl 0), σ) := by
  refine (Rx_N (k := 1) (pc' := 25) (ls' := [.inr (.inl (7, r0)), .inl x1]) (st' := [.inl 0]) (σ' := σ) rfl).trans ?_
  exact Rx_ret rfl rfl
theorem b_X2_allStrength_0 (r0 : Nat) (u1 : AV) (u2 : AV) (σ : St) : Rx k_X2_allStrength 0 [.inr (.inl (7, r0)), u1, u2] [] σ = Rx k_X2_allStrength 4 [.inr (.inl (7, r0)), .inl 0, .inl 0] [] σ := by
  refine (Rx_N (k := 4) (pc' := 4) (ls' := [.inr (.inl (7, r0)), .inl 0, .inl 0]) (st' := []) (σ' := σ) rfl).trans ?_
  rfl
theorem b_X2_allStrength_4 (r0 : Nat) (x1 : Int) (x2 : Int) (σ : St) : Rx k_X2_allStrength 4 [.inr (.inl (7, r0)), .inl x1, .inl x2] [] σ = if x2 < (σ 7 r0 0) then Rx k_X2_allStrength 12 [.inr (.inl (7, r0)), .inl x1, .inl x2] [] σ else Rx k_X2_allStrength 32 [.inr (.inl (7, r0)), .inl x1, .inl x2] [] σ := by
  exact Rx_ge0 (k := 4) rfl
theorem b_X2_allStrength_12 (r0 : Nat) (x1 : Int) (x2 : Int) (σ : St) : Rx k_X2_allStrength 12 [.inr (.inl (7, r0)), .inl x1, .inl x2] [] σ = if x2 < 5 then Rx k_X2_allStrength 17 [.inr (.inl (7, r0)), .inl x1, .inl x2] [] σ else Rx k_X2_allStrength 32 [.inr (.inl (7, r0)), .inl x1, .inl x2] [] σ := by
  exact Rx_ge0 (k := 3) rfl
theorem r_X2_allStrength_17 (r0 : Nat) (x1 : Int) (x2 : Int) (σ : St) (h0 : 0 ≤ x2) (h1 : x2 < 5) : Rx k_X2_allStrength 17 [.inr (.inl (7, r0)), .inl x1, .inl x2] [] σ = Rx k_X2_allStrength 4 [.inr (.inl (7, r0)), .inl (wr (x1 + (σ 10 r0 x2.toNat))), .inl (wr (x2 + 1))] [] σ := by
  refine (Rx_N (k := 4) (pc' := 23) (ls' := [.inr (.inl (7, r0)), .inl x1, .inl x2]) (st' := [.inl x2, .inr (.inl (10, r0)), .inl x1]) (σ' := σ) rfl).trans ?_
  refine (Rx_ild 5 rfl rfl rfl h0 h1).trans ?_
  refine (Rx_N (k := 4) (pc' := 4) (ls' := [.inr (.inl (7, r0)), .inl (wr (x1 + (σ 10 r0 x2.toNat))), .inl (wr (x2 + 1))]) (st' := []) (σ' := σ) rfl).trans ?_
  rfl
theorem b_X2_allStrength_17 (r0 : Nat) (x1 : Int) (x2 : Int) (σ : St) (h0 : 0 ≤ x2) (h1 : x2 < 5) (g0a : -2147483648 ≤ (x2 + 1)) (g0b : (x2 + 1) < 2147483648) (g1a : -2147483648 ≤ (x1 + (σ 10 r0 x2.toNat))) (g1b : (x1 + (σ 10 r0 x2.toNat)) < 2147483648) : Rx k_X2_allStrength 17 [.inr (.inl (7, r0)), .inl x1, .inl x2] [] σ = Rx k_X2_allStrength 4 [.inr (.inl (7, r0)), .inl (x1 + (σ 10 r0 x2.toNat)), .inl (x2 + 1)] [] σ := by
  have e0 := wr_id (x := (x2 + 1)) g0a g0b
  have e1 := wr_id (x := (x1 + (σ 10 r0 x2.toNat))) g1a g1b
  have raw := r_X2_allStrength_17 r0 x1 x2 σ h0 h1
  simp only [e0, e1] at raw
  exact raw
theorem b_X2_allStrength_32 (r0 : Nat) (x1 : Int) (x2 : Int) (σ : St) : Rx k_X2_allStrength 32 [.inr (.inl (7, r0)), .inl x1, .inl x2] [] σ = some (some (.inl x1), σ) := by
  refine (Rx_N (k := 1) (pc' := 33) (ls' := [.inr (.inl (7, r0)), .inl x1, .inl x2]) (st' := [.inl x1]) (σ' := σ) rfl).trans ?_
  exact Rx_ret rfl rfl
theorem b_X2_allLoad_0 (r0 : Nat) (u1 : AV) (u2 : AV) (σ : St) : Rx k_X2_allLoad 0 [.inr (.inl (7, r0)), u1, u2] [] σ = Rx k_X2_allLoad 4 [.inr (.inl (7, r0)), .inl 0, .inl 0] [] σ := by
  refine (Rx_N (k := 4) (pc' := 4) (ls' := [.inr (.inl (7, r0)), .inl 0, .inl 0]) (st' := []) (σ' := σ) rfl).trans ?_
  rfl
theorem b_X2_allLoad_4 (r0 : Nat) (x1 : Int) (x2 : Int) (σ : St) : Rx k_X2_allLoad 4 [.inr (.inl (7, r0)), .inl x1, .inl x2] [] σ = if x2 < (σ 7 r0 0) then Rx k_X2_allLoad 12 [.inr (.inl (7, r0)), .inl x1, .inl x2] [] σ else Rx k_X2_allLoad 32 [.inr (.inl (7, r0)), .inl x1, .inl x2] [] σ := by
  exact Rx_ge0 (k := 4) rfl
theorem b_X2_allLoad_12 (r0 : Nat) (x1 : Int) (x2 : Int) (σ : St) : Rx k_X2_allLoad 12 [.inr (.inl (7, r0)), .inl x1, .inl x2] [] σ = if x2 < 5 then Rx k_X2_allLoad 17 [.inr (.inl (7, r0)), .inl x1, .inl x2] [] σ else Rx k_X2_allLoad 32 [.inr (.inl (7, r0)), .inl x1, .inl x2] [] σ := by
  exact Rx_ge0 (k := 3) rfl
theorem r_X2_allLoad_17 (r0 : Nat) (x1 : Int) (x2 : Int) (σ : St) (h0 : 0 ≤ x2) (h1 : x2 < 5) : Rx k_X2_allLoad 17 [.inr (.inl (7, r0)), .inl x1, .inl x2] [] σ = Rx k_X2_allLoad 4 [.inr (.inl (7, r0)), .inl (wr (x1 + (σ 11 r0 x2.toNat))), .inl (wr (x2 + 1))] [] σ := by
  refine (Rx_N (k := 4) (pc' := 23) (ls' := [.inr (.inl (7, r0)), .inl x1, .inl x2]) (st' := [.inl x2, .inr (.inl (11, r0)), .inl x1]) (σ' := σ) rfl).trans ?_
  refine (Rx_ild 5 rfl rfl rfl h0 h1).trans ?_
  refine (Rx_N (k := 4) (pc' := 4) (ls' := [.inr (.inl (7, r0)), .inl (wr (x1 + (σ 11 r0 x2.toNat))), .inl (wr (x2 + 1))]) (st' := []) (σ' := σ) rfl).trans ?_
  rfl
theorem b_X2_allLoad_17 (r0 : Nat) (x1 : Int) (x2 : Int) (σ : St) (h0 : 0 ≤ x2) (h1 : x2 < 5) (g0a : -2147483648 ≤ (x2 + 1)) (g0b : (x2 + 1) < 2147483648) (g1a : -2147483648 ≤ (x1 + (σ 11 r0 x2.toNat))) (g1b : (x1 + (σ 11 r0 x2.toNat)) < 2147483648) : Rx k_X2_allLoad 17 [.inr (.inl (7, r0)), .inl x1, .inl x2] [] σ = Rx k_X2_allLoad 4 [.inr (.inl (7, r0)), .inl (x1 + (σ 11 r0 x2.toNat)), .inl (x2 + 1)] [] σ := by
  have e0 := wr_id (x := (x2 + 1)) g0a g0b
  have e1 := wr_id (x := (x1 + (σ 11 r0 x2.toNat))) g1a g1b
  have raw := r_X2_allLoad_17 r0 x1 x2 σ h0 h1
  simp only [e0, e1] at raw
  exact raw
theorem b_X2_allLoad_32 (r0 : Nat) (x1 : Int) (x2 : Int) (σ : St) : Rx k_X2_allLoad 32 [.inr (.inl (7, r0)), .inl x1, .inl x2] [] σ = some (some (.inl x1), σ) := by
  refine (Rx_N (k := 1) (pc' := 33) (ls' := [.inr (.inl (7, r0)), .inl x1, .inl x2]) (st' := [.inl x1]) (σ' := σ) rfl).trans ?_
  exact Rx_ret rfl rfl
theorem b_X2_addPurpose_0 (r0 : Nat) (x1 : Int) (x2 : Int) (x3 : Int) (σ : St) : Rx k_X2_addPurpose 0 [.inr (.inl (7, r0)), .inl x1, .inl x2, .inl x3] [] σ = if (σ 7 r0 0) < 0 then Rx k_X2_addPurpose 15 [.inr (.inl (7, r0)), .inl x1, .inl x2, .inl x3] [] σ else Rx k_X2_addPurpose 7 [.inr (.inl (7, r0)), .inl x1, .inl x2, .inl x3] [] σ := by
  exact Rx_lt0 (k := 3) rfl
theorem b_X2_addPurpose_7 (r0 : Nat) (x1 : Int) (x2 : Int) (x3 : Int) (σ : St) : Rx k_X2_addPurpose 7 [.inr (.inl (7, r0)), .inl x1, .inl x2, .inl x3] [] σ = if (σ 7 r0 0) < 5 then Rx k_X2_addPurpose 17 [.inr (.inl (7, r0)), .inl x1, .inl x2, .inl x3] [] σ else Rx k_X2_addPurpose 15 [.inr (.inl (7, r0)), .inl x1, .inl x2, .inl x3] [] σ := by
  exact Rx_lt0 (k := 4) rfl
theorem b_X2_addPurpose_15 (r0 : Nat) (x1 : Int) (x2 : Int) (x3 : Int) (σ : St) : Rx k_X2_addPurpose 15 [.inr (.inl (7, r0)), .inl x1, .inl x2, .inl x3] [] σ = some (some (.inl 0), σ) := by
  refine (Rx_N (k := 1) (pc' := 16) (ls' := [.inr (.inl (7, r0)), .inl x1, .inl x2, .inl x3]) (st' := [.inl 0]) (σ' := σ) rfl).trans ?_
  exact Rx_ret rfl rfl
theorem r_X2_addPurpose_17 (r0 : Nat) (x1 : Int) (x2 : Int) (x3 : Int) (σ : St) (h0 : 0 ≤ (σ 7 r0 0)) (h1 : (σ 7 r0 0) < 5) (h2 : 0 ≤ ((up σ 8 r0 ((σ 7 r0 0).toNat) x1) 7 r0 0)) (h3 : ((up σ 8 r0 ((σ 7 r0 0).toNat) x1) 7 r0 0) < 5) (h4 : 0 ≤ ((up (up σ 8 r0 ((σ 7 r0 0).toNat) x1) 9 r0 (((up σ 8 r0 ((σ 7 r0 0).toNat) x1) 7 r0 0).toNat) x2) 7 r0 0)) (h5 : ((up (up σ 8 r0 ((σ 7 r0 0).toNat) x1) 9 r0 (((up σ 8 r0 ((σ 7 r0 0).toNat) x1) 7 r0 0).toNat) x2) 7 r0 0) < 5) (h6 : 0 ≤ ((up (up (up σ 8 r0 ((σ 7 r0 0).toNat) x1) 9 r0 (((up σ 8 r0 ((σ 7 r0 0).toNat) x1) 7 r0 0).toNat) x2) 10 r0 (((up (up σ 8 r0 ((σ 7 r0 0).toNat) x1) 9 r0 (((up σ 8 r0 ((σ 7 r0 0).toNat) x1) 7 r0 0).toNat) x2) 7 r0 0).toNat) x3) 7 r0 0)) (h7 : ((up (up (up σ 8 r0 ((σ 7 r0 0).toNat) x1) 9 r0 (((up σ 8 r0 ((σ 7 r0 0).toNat) x1) 7 r0 0).toNat) x2) 10 r0 (((up (up σ 8 r0 ((σ 7 r0 0).toNat) x1) 9 r0 (((up σ 8 r0 ((σ 7 r0 0).toNat) x1) 7 r0 0).toNat) x2) 7 r0 0).toNat) x3) 7 r0 0) < 5) : Rx k_X2_addPurpose 17 [.inr (.inl (7, r0)), .inl x1, .inl x2, .inl x3] [] σ = some (some (.inl 1), (up (up (up (up (up σ 8 r0 ((σ 7 r0 0).toNat) x1) 9 r0 (((up σ 8 r0 ((σ 7 r0 0).toNat) x1) 7 r0 0).toNat) x2) 10 r0 (((up (up σ 8 r0 ((σ 7 r0 0).toNat) x1) 9 r0 (((up σ 8 r0 ((σ 7 r0 0).toNat) x1) 7 r0 0).toNat) x2) 7 r0 0).toNat) x3) 11 r0 (((up (up (up σ 8 r0 ((σ 7 r0 0).toNat) x1) 9 r0 (((up σ 8 r0 ((σ 7 r0 0).toNat) x1) 7 r0 0).toNat) x2) 10 r0 (((up (up σ 8 r0 ((σ 7 r0 0).toNat) x1) 9 r0 (((up σ 8 r0 ((σ 7 r0 0).toNat) x1) 7 r0 0).toNat) x2) 7 r0 0).toNat) x3) 7 r0 0).toNat) 0) 7 r0 0 (wr (((up (up (up (up σ 8 r0 ((σ 7 r0 0).toNat) x1) 9 r0 (((up σ 8 r0 ((σ 7 r0 0).toNat) x1) 7 r0 0).toNat) x2) 10 r0 (((up (up σ 8 r0 ((σ 7 r0 0).toNat) x1) 9 r0 (((up σ 8 r0 ((σ 7 r0 0).toNat) x1) 7 r0 0).toNat) x2) 7 r0 0).toNat) x3) 11 r0 (((up (up (up σ 8 r0 ((σ 7 r0 0).toNat) x1) 9 r0 (((up σ 8 r0 ((σ 7 r0 0).toNat) x1) 7 r0 0).toNat) x2) 10 r0 (((up (up σ 8 r0 ((σ 7 r0 0).toNat) x1) 9 r0 (((up σ 8 r0 ((σ 7 r0 0).toNat) x1) 7 r0 0).toNat) x2) 7 r0 0).toNat) x3) 7 r0 0).toNat) 0) 7 r0 0) + 1)))) := by
  refine (Rx_N (k := 5) (pc' := 26) (ls' := [.inr (.inl (7, r0)), .inl x1, .inl x2, .inl x3]) (st' := [.inl x1, .inl (σ 7 r0 0), .inr (.inl (8, r0))]) (σ' := σ) rfl).trans ?_
  refine (Rx_ist 5 rfl rfl h0 h1).trans ?_
  refine (Rx_N (k := 5) (pc' := 36) (ls' := [.inr (.inl (7, r0)), .inl x1, .inl x2, .inl x3]) (st' := [.inl x2, .inl ((up σ 8 r0 ((σ 7 r0 0).toNat) x1) 7 r0 0), .inr (.inl (9, r0))]) (σ' := (up σ 8 r0 ((σ 7 r0 0).toNat) x1)) rfl).trans ?_
  refine (Rx_ist 5 rfl rfl h2 h3).trans ?_
  refine (Rx_N (k := 5) (pc' := 46) (ls' := [.inr (.inl (7, r0)), .inl x1, .inl x2, .inl x3]) (st' := [.inl x3, .inl ((up (up σ 8 r0 ((σ 7 r0 0).toNat) x1) 9 r0 (((up σ 8 r0 ((σ 7 r0 0).toNat) x1) 7 r0 0).toNat) x2) 7 r0 0), .inr (.inl (10, r0))]) (σ' := (up (up σ 8 r0 ((σ 7 r0 0).toNat) x1) 9 r0 (((up σ 8 r0 ((σ 7 r0 0).toNat) x1) 7 r0 0).toNat) x2)) rfl).trans ?_
  refine (Rx_ist 5 rfl rfl h4 h5).trans ?_
  refine (Rx_N (k := 5) (pc' := 56) (ls' := [.inr (.inl (7, r0)), .inl x1, .inl x2, .inl x3]) (st' := [.inl 0, .inl ((up (up (up σ 8 r0 ((σ 7 r0 0).toNat) x1) 9 r0 (((up σ 8 r0 ((σ 7 r0 0).toNat) x1) 7 r0 0).toNat) x2) 10 r0 (((up (up σ 8 r0 ((σ 7 r0 0).toNat) x1) 9 r0 (((up σ 8 r0 ((σ 7 r0 0).toNat) x1) 7 r0 0).toNat) x2) 7 r0 0).toNat) x3) 7 r0 0), .inr (.inl (11, r0))]) (σ' := (up (up (up σ 8 r0 ((σ 7 r0 0).toNat) x1) 9 r0 (((up σ 8 r0 ((σ 7 r0 0).toNat) x1) 7 r0 0).toNat) x2) 10 r0 (((up (up σ 8 r0 ((σ 7 r0 0).toNat) x1) 9 r0 (((up σ 8 r0 ((σ 7 r0 0).toNat) x1) 7 r0 0).toNat) x2) 7 r0 0).toNat) x3)) rfl).trans ?_
  refine (Rx_ist 5 rfl rfl h6 h7).trans ?_
  refine (Rx_N (k := 7) (pc' := 68) (ls' := [.inr (.inl (7, r0)), .inl x1, .inl x2, .inl x3]) (st' := [.inl 1]) (σ' := (up (up (up (up (up σ 8 r0 ((σ 7 r0 0).toNat) x1) 9 r0 (((up σ 8 r0 ((σ 7 r0 0).toNat) x1) 7 r0 0).toNat) x2) 10 r0 (((up (up σ 8 r0 ((σ 7 r0 0).toNat) x1) 9 r0 (((up σ 8 r0 ((σ 7 r0 0).toNat) x1) 7 r0 0).toNat) x2) 7 r0 0).toNat) x3) 11 r0 (((up (up (up σ 8 r0 ((σ 7 r0 0).toNat) x1) 9 r0 (((up σ 8 r0 ((σ 7 r0 0).toNat) x1) 7 r0 0).toNat) x2) 10 r0 (((up (up σ 8 r0 ((σ 7 r0 0).toNat) x1) 9 r0 (((up σ 8 r0 ((σ 7 r0 0).toNat) x1) 7 r0 0).toNat) x2) 7 r0 0).toNat) x3) 7 r0 0).toNat) 0) 7 r0 0 (wr (((up (up (up (up σ 8 r0 ((σ 7 r0 0).toNat) x1) 9 r0 (((up σ 8 r0 ((σ 7 r0 0).toNat) x1) 7 r0 0).toNat) x2) 10 r0 (((up (up σ 8 r0 ((σ 7 r0 0).toNat) x1) 9 r0 (((up σ 8 r0 ((σ 7 r0 0).toNat) x1) 7 r0 0).toNat) x2) 7 r0 0).toNat) x3) 11 r0 (((up (up (up σ 8 r0 ((σ 7 r0 0).toNat) x1) 9 r0 (((up σ 8 r0 ((σ 7 r0 0).toNat) x1) 7 r0 0).toNat) x2) 10 r0 (((up (up σ 8 r0 ((σ 7 r0 0).toNat) x1) 9 r0 (((up σ 8 r0 ((σ 7 r0 0).toNat) x1) 7 r0 0).toNat) x2) 7 r0 0).toNat) x3) 7 r0 0).toNat) 0) 7 r0 0) + 1)))) rfl).trans ?_
  exact Rx_ret rfl rfl
theorem b_X2_addPurpose_17 (r0 : Nat) (x1 : Int) (x2 : Int) (x3 : Int) (σ : St) (h0 : 0 ≤ (σ 7 r0 0)) (h1 : (σ 7 r0 0) < 5) (h2 : 0 ≤ ((up σ 8 r0 ((σ 7 r0 0).toNat) x1) 7 r0 0)) (h3 : ((up σ 8 r0 ((σ 7 r0 0).toNat) x1) 7 r0 0) < 5) (h4 : 0 ≤ ((up (up σ 8 r0 ((σ 7 r0 0).toNat) x1) 9 r0 (((up σ 8 r0 ((σ 7 r0 0).toNat) x1) 7 r0 0).toNat) x2) 7 r0 0)) (h5 : ((up (up σ 8 r0 ((σ 7 r0 0).toNat) x1) 9 r0 (((up σ 8 r0 ((σ 7 r0 0).toNat) x1) 7 r0 0).toNat) x2) 7 r0 0) < 5) (h6 : 0 ≤ ((up (up (up σ 8 r0 ((σ 7 r0 0).toNat) x1) 9 r0 (((up σ 8 r0 ((σ 7 r0 0).toNat) x1) 7 r0 0).toNat) x2) 10 r0 (((up (up σ 8 r0 ((σ 7 r0 0).toNat) x1) 9 r0 (((up σ 8 r0 ((σ 7 r0 0).toNat) x1) 7 r0 0).toNat) x2) 7 r0 0).toNat) x3) 7 r0 0)) (h7 : ((up (up (up σ 8 r0 ((σ 7 r0 0).toNat) x1) 9 r0 (((up σ 8 r0 ((σ 7 r0 0).toNat) x1) 7 r0 0).toNat) x2) 10 r0 (((up (up σ 8 r0 ((σ 7 r0 0).toNat) x1) 9 r0 (((up σ 8 r0 ((σ 7 r0 0).toNat) x1) 7 r0 0).toNat) x2) 7 r0 0).toNat) x3) 7 r0 0) < 5) (g0a : -2147483648 ≤ (((up (up (up (up σ 8 r0 ((σ 7 r0 0).toNat) x1) 9 r0 (((up σ 8 r0 ((σ 7 r0 0).toNat) x1) 7 r0 0).toNat) x2) 10 r0 (((up (up σ 8 r0 ((σ 7 r0 0).toNat) x1) 9 r0 (((up σ 8 r0 ((σ 7 r0 0).toNat) x1) 7 r0 0).toNat) x2) 7 r0 0).toNat) x3) 11 r0 (((up (up (up σ 8 r0 ((σ 7 r0 0).toNat) x1) 9 r0 (((up σ 8 r0 ((σ 7 r0 0).toNat) x1) 7 r0 0).toNat) x2) 10 r0 (((up (up σ 8 r0 ((σ 7 r0 0).toNat) x1) 9 r0 (((up σ 8 r0 ((σ 7 r0 0).toNat) x1) 7 r0 0).toNat) x2) 7 r0 0).toNat) x3) 7 r0 0).toNat) 0) 7 r0 0) + 1)) (g0b : (((up (up (up (up σ 8 r0 ((σ 7 r0 0).toNat) x1) 9 r0 (((up σ 8 r0 ((σ 7 r0 0).toNat) x1) 7 r0 0).toNat) x2) 10 r0 (((up (up σ 8 r0 ((σ 7 r0 0).toNat) x1) 9 r0 (((up σ 8 r0 ((σ 7 r0 0).toNat) x1) 7 r0 0).toNat) x2) 7 r0 0).toNat) x3) 11 r0 (((up (up (up σ 8 r0 ((σ 7 r0 0).toNat) x1) 9 r0 (((up σ 8 r0 ((σ 7 r0 0).toNat) x1) 7 r0 0).toNat) x2) 10 r0 (((up (up σ 8 r0 ((σ 7 r0 0).toNat) x1) 9 r0 (((up σ 8 r0 ((σ 7 r0 0).toNat) x1) 7 r0 0).toNat) x2) 7 r0 0).toNat) x3) 7 r0 0).toNat) 0) 7 r0 0) + 1) < 2147483648) : Rx k_X2_addPurpose 17 [.inr (.inl (7, r0)), .inl x1, .inl x2, .inl x3] [] σ = some (some (.inl 1), (up (up (up (up (up σ 8 r0 ((σ 7 r0 0).toNat) x1) 9 r0 (((up σ 8 r0 ((σ 7 r0 0).toNat) x1) 7 r0 0).toNat) x2) 10 r0 (((up (up σ 8 r0 ((σ 7 r0 0).toNat) x1) 9 r0 (((up σ 8 r0 ((σ 7 r0 0).toNat) x1) 7 r0 0).toNat) x2) 7 r0 0).toNat) x3) 11 r0 (((up (up (up σ 8 r0 ((σ 7 r0 0).toNat) x1) 9 r0 (((up σ 8 r0 ((σ 7 r0 0).toNat) x1) 7 r0 0).toNat) x2) 10 r0 (((up (up σ 8 r0 ((σ 7 r0 0).toNat) x1) 9 r0 (((up σ 8 r0 ((σ 7 r0 0).toNat) x1) 7 r0 0).toNat) x2) 7 r0 0).toNat) x3) 7 r0 0).toNat) 0) 7 r0 0 (((up (up (up (up σ 8 r0 ((σ 7 r0 0).toNat) x1) 9 r0 (((up σ 8 r0 ((σ 7 r0 0).toNat) x1) 7 r0 0).toNat) x2) 10 r0 (((up (up σ 8 r0 ((σ 7 r0 0).toNat) x1) 9 r0 (((up σ 8 r0 ((σ 7 r0 0).toNat) x1) 7 r0 0).toNat) x2) 7 r0 0).toNat) x3) 11 r0 (((up (up (up σ 8 r0 ((σ 7 r0 0).toNat) x1) 9 r0 (((up σ 8 r0 ((σ 7 r0 0).toNat) x1) 7 r0 0).toNat) x2) 10 r0 (((up (up σ 8 r0 ((σ 7 r0 0).toNat) x1) 9 r0 (((up σ 8 r0 ((σ 7 r0 0).toNat) x1) 7 r0 0).toNat) x2) 7 r0 0).toNat) x3) 7 r0 0).toNat) 0) 7 r0 0) + 1))) := by
  have e0 := wr_id (x := (((up (up (up (up σ 8 r0 ((σ 7 r0 0).toNat) x1) 9 r0 (((up σ 8 r0 ((σ 7 r0 0).toNat) x1) 7 r0 0).toNat) x2) 10 r0 (((up (up σ 8 r0 ((σ 7 r0 0).toNat) x1) 9 r0 (((up σ 8 r0 ((σ 7 r0 0).toNat) x1) 7 r0 0).toNat) x2) 7 r0 0).toNat) x3) 11 r0 (((up (up (up σ 8 r0 ((σ 7 r0 0).toNat) x1) 9 r0 (((up σ 8 r0 ((σ 7 r0 0).toNat) x1) 7 r0 0).toNat) x2) 10 r0 (((up (up σ 8 r0 ((σ 7 r0 0).toNat) x1) 9 r0 (((up σ 8 r0 ((σ 7 r0 0).toNat) x1) 7 r0 0).toNat) x2) 7 r0 0).toNat) x3) 7 r0 0).toNat) 0) 7 r0 0) + 1)) g0a g0b
  have raw := r_X2_addPurpose_17 r0 x1 x2 x3 σ h0 h1 h2 h3 h4 h5 h6 h7
  simp only [e0] at raw
  exact raw
theorem b_X2_addThing_0 (r0 : Nat) (x1 : Int) (x2 : Int) (x3 : Int) (u4 : AV) (σ : St) : Rx k_X2_addThing 0 [.inr (.inl (7, r0)), .inl x1, .inl x2, .inl x3, u4] [] σ = if (σ 7 r0 1) < 0 then Rx k_X2_addThing 41 [.inr (.inl (7, r0)), .inl x1, .inl x2, .inl x3, .inl (σ 7 r0 1)] [] σ else Rx k_X2_addThing 11 [.inr (.inl (7, r0)), .inl x1, .inl x2, .inl x3, .inl (σ 7 r0 1)] [] σ := by
  exact Rx_lt0 (k := 5) rfl
theorem b_X2_addThing_11 (r0 : Nat) (x1 : Int) (x2 : Int) (x3 : Int) (x4 : Int) (σ : St) : Rx k_X2_addThing 11 [.inr (.inl (7, r0)), .inl x1, .inl x2, .inl x3, .inl x4] [] σ = if x4 < 10 then Rx k_X2_addThing 18 [.inr (.inl (7, r0)), .inl x1, .inl x2, .inl x3, .inl x4] [] σ else Rx k_X2_addThing 41 [.inr (.inl (7, r0)), .inl x1, .inl x2, .inl x3, .inl x4] [] σ := by
  exact Rx_ge0 (k := 3) rfl
theorem b_X2_addThing_18 (r0 : Nat) (x1 : Int) (x2 : Int) (x3 : Int) (x4 : Int) (σ : St) : Rx k_X2_addThing 18 [.inr (.inl (7, r0)), .inl x1, .inl x2, .inl x3, .inl x4] [] σ = if x1 < 1 then Rx k_X2_addThing 41 [.inr (.inl (7, r0)), .inl x1, .inl x2, .inl x3, .inl x4] [] σ else Rx k_X2_addThing 23 [.inr (.inl (7, r0)), .inl x1, .inl x2, .inl x3, .inl x4] [] σ := by
  exact Rx_lt0 (k := 3) rfl
theorem b_X2_addThing_23 (r0 : Nat) (x1 : Int) (x2 : Int) (x3 : Int) (x4 : Int) (σ : St) : Rx k_X2_addThing 23 [.inr (.inl (7, r0)), .inl x1, .inl x2, .inl x3, .inl x4] [] σ = (Rx k_X2_isPurpose 0 [.inr (.inl (7, r0)), .inl x3] [] σ).bind fun q => Rx k_X2_addThing 28 [.inr (.inl (7, r0)), .inl x1, .inl x2, .inl x3, .inl x4] (q.1.toList ++ []) q.2 := by
  refine (Rx_N (k := 2) (pc' := 25) (ls' := [.inr (.inl (7, r0)), .inl x1, .inl x2, .inl x3, .inl x4]) (st' := [.inl x3, .inr (.inl (7, r0))]) (σ' := σ) rfl).trans ?_
  exact Rx_call (n := 3) (y' := k_X2_isPurpose) (as := [.inr (.inl (7, r0)), .inl x3]) (rest := []) rfl rfl rfl
theorem b_X2_addThing_28 (r0 : Nat) (x1 : Int) (x2 : Int) (x3 : Int) (x4 : Int) (s0 : Int) (σ : St) : Rx k_X2_addThing 28 [.inr (.inl (7, r0)), .inl x1, .inl x2, .inl x3, .inl x4] [.inl s0] σ = if s0 = 0 then Rx k_X2_addThing 41 [.inr (.inl (7, r0)), .inl x1, .inl x2, .inl x3, .inl x4] [] σ else Rx k_X2_addThing 31 [.inr (.inl (7, r0)), .inl x1, .inl x2, .inl x3, .inl x4] [] σ := by
  exact Rx_eq0 (k := 1) rfl
theorem b_X2_addThing_31 (r0 : Nat) (x1 : Int) (x2 : Int) (x3 : Int) (x4 : Int) (σ : St) : Rx k_X2_addThing 31 [.inr (.inl (7, r0)), .inl x1, .inl x2, .inl x3, .inl x4] [] σ = (Rx k_X2_isFreeFor 0 [.inr (.inl (7, r0)), .inl (-9), .inl x2] [] σ).bind fun q => Rx k_X2_addThing 38 [.inr (.inl (7, r0)), .inl x1, .inl x2, .inl x3, .inl x4] (q.1.toList ++ []) q.2 := by
  refine (Rx_N (k := 3) (pc' := 35) (ls' := [.inr (.inl (7, r0)), .inl x1, .inl x2, .inl x3, .inl x4]) (st' := [.inl x2, .inl (-9), .inr (.inl (7, r0))]) (σ' := σ) rfl).trans ?_
  exact Rx_call (n := 3) (y' := k_X2_isFreeFor) (as := [.inr (.inl (7, r0)), .inl (-9), .inl x2]) (rest := []) rfl rfl rfl
theorem b_X2_addThing_38 (r0 : Nat) (x1 : Int) (x2 : Int) (x3 : Int) (x4 : Int) (s0 : Int) (σ : St) : Rx k_X2_addThing 38 [.inr (.inl (7, r0)), .inl x1, .inl x2, .inl x3, .inl x4] [.inl s0] σ = if s0 = 0 then Rx k_X2_addThing 41 [.inr (.inl (7, r0)), .inl x1, .inl x2, .inl x3, .inl x4] [] σ else Rx k_X2_addThing 43 [.inr (.inl (7, r0)), .inl x1, .inl x2, .inl x3, .inl x4] [] σ := by
  exact Rx_ne0 (k := 1) rfl
theorem b_X2_addThing_41 (r0 : Nat) (x1 : Int) (x2 : Int) (x3 : Int) (x4 : Int) (σ : St) : Rx k_X2_addThing 41 [.inr (.inl (7, r0)), .inl x1, .inl x2, .inl x3, .inl x4] [] σ = some (some (.inl 0), σ) := by
  refine (Rx_N (k := 1) (pc' := 42) (ls' := [.inr (.inl (7, r0)), .inl x1, .inl x2, .inl x3, .inl x4]) (st' := [.inl 0]) (σ' := σ) rfl).trans ?_
  exact Rx_ret rfl rfl
theorem r_X2_addThing_43 (r0 : Nat) (x1 : Int) (x2 : Int) (x3 : Int) (x4 : Int) (σ : St) (h0 : 0 ≤ x4) (h1 : x4 < 10) (h2 : 0 ≤ x2) (h3 : x2 < 20) : Rx k_X2_addThing 43 [.inr (.inl (7, r0)), .inl x1, .inl x2, .inl x3, .inl x4] [] σ = (Rx k_X2_raise 0 [.inr (.inl (7, r0)), .inl x4] [] (up (up (up (up (up σ 7 r0 1 (wr ((σ 7 r0 1) + 1))) 12 r0 x4.toNat x1) 13 r0 x4.toNat x2) 15 r0 x2.toNat x4) 14 r0 x4.toNat x3)).bind fun q => Rx k_X2_addThing 91 [.inr (.inl (7, r0)), .inl x1, .inl x2, .inl x3, .inl x4] (q.1.toList ++ []) q.2 := by
  refine (Rx_N (k := 10) (pc' := 60) (ls' := [.inr (.inl (7, r0)), .inl x1, .inl x2, .inl x3, .inl x4]) (st' := [.inl x1, .inl x4, .inr (.inl (12, r0))]) (σ' := (up σ 7 r0 1 (wr ((σ 7 r0 1) + 1)))) rfl).trans ?_
  refine (Rx_ist 10 rfl rfl h0 h1).trans ?_
  refine (Rx_N (k := 4) (pc' := 68) (ls' := [.inr (.inl (7, r0)), .inl x1, .inl x2, .inl x3, .inl x4]) (st' := [.inl x2, .inl x4, .inr (.inl (13, r0))]) (σ' := (up (up σ 7 r0 1 (wr ((σ 7 r0 1) + 1))) 12 r0 x4.toNat x1)) rfl).trans ?_
  refine (Rx_ist 10 rfl rfl h0 h1).trans ?_
  refine (Rx_N (k := 4) (pc' := 76) (ls' := [.inr (.inl (7, r0)), .inl x1, .inl x2, .inl x3, .inl x4]) (st' := [.inl x4, .inl x2, .inr (.inl (15, r0))]) (σ' := (up (up (up σ 7 r0 1 (wr ((σ 7 r0 1) + 1))) 12 r0 x4.toNat x1) 13 r0 x4.toNat x2)) rfl).trans ?_
  refine (Rx_ist 20 rfl rfl h2 h3).trans ?_
  refine (Rx_N (k := 4) (pc' := 84) (ls' := [.inr (.inl (7, r0)), .inl x1, .inl x2, .inl x3, .inl x4]) (st' := [.inl x3, .inl x4, .inr (.inl (14, r0))]) (σ' := (up (up (up (up σ 7 r0 1 (wr ((σ 7 r0 1) + 1))) 12 r0 x4.toNat x1) 13 r0 x4.toNat x2) 15 r0 x2.toNat x4)) rfl).trans ?_
  refine (Rx_ist 10 rfl rfl h0 h1).trans ?_
  refine (Rx_N (k := 2) (pc' := 88) (ls' := [.inr (.inl (7, r0)), .inl x1, .inl x2, .inl x3, .inl x4]) (st' := [.inl x4, .inr (.inl (7, r0))]) (σ' := (up (up (up (up (up σ 7 r0 1 (wr ((σ 7 r0 1) + 1))) 12 r0 x4.toNat x1) 13 r0 x4.toNat x2) 15 r0 x2.toNat x4) 14 r0 x4.toNat x3)) rfl).trans ?_
  exact Rx_call (n := 3) (y' := k_X2_raise) (as := [.inr (.inl (7, r0)), .inl x4]) (rest := []) rfl rfl rfl
theorem b_X2_addThing_43 (r0 : Nat) (x1 : Int) (x2 : Int) (x3 : Int) (x4 : Int) (σ : St) (h0 : 0 ≤ x4) (h1 : x4 < 10) (h2 : 0 ≤ x2) (h3 : x2 < 20) (g0a : -2147483648 ≤ ((σ 7 r0 1) + 1)) (g0b : ((σ 7 r0 1) + 1) < 2147483648) : Rx k_X2_addThing 43 [.inr (.inl (7, r0)), .inl x1, .inl x2, .inl x3, .inl x4] [] σ = (Rx k_X2_raise 0 [.inr (.inl (7, r0)), .inl x4] [] (up (up (up (up (up σ 7 r0 1 ((σ 7 r0 1) + 1)) 12 r0 x4.toNat x1) 13 r0 x4.toNat x2) 15 r0 x2.toNat x4) 14 r0 x4.toNat x3)).bind fun q => Rx k_X2_addThing 91 [.inr (.inl (7, r0)), .inl x1, .inl x2, .inl x3, .inl x4] (q.1.toList ++ []) q.2 := by
  have e0 := wr_id (x := ((σ 7 r0 1) + 1)) g0a g0b
  have raw := r_X2_addThing_43 r0 x1 x2 x3 x4 σ h0 h1 h2 h3
  simp only [e0] at raw
  exact raw
theorem b_X2_addThing_91 (r0 : Nat) (x1 : Int) (x2 : Int) (x3 : Int) (x4 : Int) (s0 : Int) (σ : St) : Rx k_X2_addThing 91 [.inr (.inl (7, r0)), .inl x1, .inl x2, .inl x3, .inl x4] [.inl s0] σ = some (some (.inl 1), σ) := by
  refine (Rx_N (k := 2) (pc' := 93) (ls' := [.inr (.inl (7, r0)), .inl x1, .inl x2, .inl x3, .inl x4]) (st' := [.inl 1]) (σ' := σ) rfl).trans ?_
  exact Rx_ret rfl rfl
theorem b_X2_leanOn_0 (r0 : Nat) (x1 : Int) (x2 : Int) (σ : St) : Rx k_X2_leanOn 0 [.inr (.inl (7, r0)), .inl x1, .inl x2] [] σ = (Rx k_X2_isThing 0 [.inr (.inl (7, r0)), .inl x1] [] σ).bind fun q => Rx k_X2_leanOn 5 [.inr (.inl (7, r0)), .inl x1, .inl x2] (q.1.toList ++ []) q.2 := by
  refine (Rx_N (k := 2) (pc' := 2) (ls' := [.inr (.inl (7, r0)), .inl x1, .inl x2]) (st' := [.inl x1, .inr (.inl (7, r0))]) (σ' := σ) rfl).trans ?_
  exact Rx_call (n := 3) (y' := k_X2_isThing) (as := [.inr (.inl (7, r0)), .inl x1]) (rest := []) rfl rfl rfl
theorem b_X2_leanOn_5 (r0 : Nat) (x1 : Int) (x2 : Int) (s0 : Int) (σ : St) : Rx k_X2_leanOn 5 [.inr (.inl (7, r0)), .inl x1, .inl x2] [.inl s0] σ = if s0 = 0 then Rx k_X2_leanOn 16 [.inr (.inl (7, r0)), .inl x1, .inl x2] [] σ else Rx k_X2_leanOn 8 [.inr (.inl (7, r0)), .inl x1, .inl x2] [] σ := by
  exact Rx_eq0 (k := 1) rfl
theorem b_X2_leanOn_8 (r0 : Nat) (x1 : Int) (x2 : Int) (σ : St) : Rx k_X2_leanOn 8 [.inr (.inl (7, r0)), .inl x1, .inl x2] [] σ = (Rx k_X2_isPurpose 0 [.inr (.inl (7, r0)), .inl x2] [] σ).bind fun q => Rx k_X2_leanOn 13 [.inr (.inl (7, r0)), .inl x1, .inl x2] (q.1.toList ++ []) q.2 := by
  refine (Rx_N (k := 2) (pc' := 10) (ls' := [.inr (.inl (7, r0)), .inl x1, .inl x2]) (st' := [.inl x2, .inr (.inl (7, r0))]) (σ' := σ) rfl).trans ?_
  exact Rx_call (n := 3) (y' := k_X2_isPurpose) (as := [.inr (.inl (7, r0)), .inl x2]) (rest := []) rfl rfl rfl
theorem b_X2_leanOn_13 (r0 : Nat) (x1 : Int) (x2 : Int) (s0 : Int) (σ : St) : Rx k_X2_leanOn 13 [.inr (.inl (7, r0)), .inl x1, .inl x2] [.inl s0] σ = if s0 = 0 then Rx k_X2_leanOn 16 [.inr (.inl (7, r0)), .inl x1, .inl x2] [] σ else Rx k_X2_leanOn 18 [.inr (.inl (7, r0)), .inl x1, .inl x2] [] σ := by
  exact Rx_ne0 (k := 1) rfl
theorem b_X2_leanOn_16 (r0 : Nat) (x1 : Int) (x2 : Int) (σ : St) : Rx k_X2_leanOn 16 [.inr (.inl (7, r0)), .inl x1, .inl x2] [] σ = some (some (.inl 0), σ) := by
  refine (Rx_N (k := 1) (pc' := 17) (ls' := [.inr (.inl (7, r0)), .inl x1, .inl x2]) (st' := [.inl 0]) (σ' := σ) rfl).trans ?_
  exact Rx_ret rfl rfl
theorem b_X2_leanOn_18 (r0 : Nat) (x1 : Int) (x2 : Int) (σ : St) : Rx k_X2_leanOn 18 [.inr (.inl (7, r0)), .inl x1, .inl x2] [] σ = (Rx k_X2_isUp 0 [.inr (.inl (7, r0)), .inl x1] [] σ).bind fun q => Rx k_X2_leanOn 23 [.inr (.inl (7, r0)), .inl x1, .inl x2] (q.1.toList ++ []) q.2 := by
  refine (Rx_N (k := 2) (pc' := 20) (ls' := [.inr (.inl (7, r0)), .inl x1, .inl x2]) (st' := [.inl x1, .inr (.inl (7, r0))]) (σ' := σ) rfl).trans ?_
  exact Rx_call (n := 3) (y' := k_X2_isUp) (as := [.inr (.inl (7, r0)), .inl x1]) (rest := []) rfl rfl rfl
theorem b_X2_leanOn_23 (r0 : Nat) (x1 : Int) (x2 : Int) (s0 : Int) (σ : St) : Rx k_X2_leanOn 23 [.inr (.inl (7, r0)), .inl x1, .inl x2] [.inl s0] σ = if s0 = 0 then Rx k_X2_leanOn 32 [.inr (.inl (7, r0)), .inl x1, .inl x2] [] σ else Rx k_X2_leanOn 26 [.inr (.inl (7, r0)), .inl x1, .inl x2] [] σ := by
  exact Rx_eq0 (k := 1) rfl
theorem b_X2_leanOn_26 (r0 : Nat) (x1 : Int) (x2 : Int) (σ : St) : Rx k_X2_leanOn 26 [.inr (.inl (7, r0)), .inl x1, .inl x2] [] σ = (Rx k_X2_weigh 0 [.inr (.inl (7, r0)), .inl x1, .inl (-1), uns] [] σ).bind fun q => Rx k_X2_leanOn 32 [.inr (.inl (7, r0)), .inl x1, .inl x2] (q.1.toList ++ []) q.2 := by
  refine (Rx_N (k := 3) (pc' := 29) (ls' := [.inr (.inl (7, r0)), .inl x1, .inl x2]) (st' := [.inl (-1), .inl x1, .inr (.inl (7, r0))]) (σ' := σ) rfl).trans ?_
  exact Rx_call (n := 3) (y' := k_X2_weigh) (as := [.inr (.inl (7, r0)), .inl x1, .inl (-1)]) (rest := []) rfl rfl rfl
theorem b_X2_leanOn_32 (r0 : Nat) (x1 : Int) (x2 : Int) (σ : St) (h0 : 0 ≤ x1) (h1 : x1 < 10) : Rx k_X2_leanOn 32 [.inr (.inl (7, r0)), .inl x1, .inl x2] [] σ = (Rx k_X2_isUp 0 [.inr (.inl (7, r0)), .inl x1] [] (up σ 14 r0 x1.toNat x2)).bind fun q => Rx k_X2_leanOn 44 [.inr (.inl (7, r0)), .inl x1, .inl x2] (q.1.toList ++ []) q.2 := by
  refine (Rx_N (k := 4) (pc' := 38) (ls' := [.inr (.inl (7, r0)), .inl x1, .inl x2]) (st' := [.inl x2, .inl x1, .inr (.inl (14, r0))]) (σ' := σ) rfl).trans ?_
  refine (Rx_ist 10 rfl rfl h0 h1).trans ?_
  refine (Rx_N (k := 2) (pc' := 41) (ls' := [.inr (.inl (7, r0)), .inl x1, .inl x2]) (st' := [.inl x1, .inr (.inl (7, r0))]) (σ' := (up σ 14 r0 x1.toNat x2)) rfl).trans ?_
  exact Rx_call (n := 3) (y' := k_X2_isUp) (as := [.inr (.inl (7, r0)), .inl x1]) (rest := []) rfl rfl rfl
theorem b_X2_leanOn_44 (r0 : Nat) (x1 : Int) (x2 : Int) (s0 : Int) (σ : St) : Rx k_X2_leanOn 44 [.inr (.inl (7, r0)), .inl x1, .inl x2] [.inl s0] σ = if s0 = 0 then Rx k_X2_leanOn 53 [.inr (.inl (7, r0)), .inl x1, .inl x2] [] σ else Rx k_X2_leanOn 47 [.inr (.inl (7, r0)), .inl x1, .inl x2] [] σ := by
  exact Rx_eq0 (k := 1) rfl
theorem b_X2_leanOn_47 (r0 : Nat) (x1 : Int) (x2 : Int) (σ : St) : Rx k_X2_leanOn 47 [.inr (.inl (7, r0)), .inl x1, .inl x2] [] σ = (Rx k_X2_weigh 0 [.inr (.inl (7, r0)), .inl x1, .inl 1, uns] [] σ).bind fun q => Rx k_X2_leanOn 53 [.inr (.inl (7, r0)), .inl x1, .inl x2] (q.1.toList ++ []) q.2 := by
  refine (Rx_N (k := 3) (pc' := 50) (ls' := [.inr (.inl (7, r0)), .inl x1, .inl x2]) (st' := [.inl 1, .inl x1, .inr (.inl (7, r0))]) (σ' := σ) rfl).trans ?_
  exact Rx_call (n := 3) (y' := k_X2_weigh) (as := [.inr (.inl (7, r0)), .inl x1, .inl 1]) (rest := []) rfl rfl rfl
theorem b_X2_leanOn_53 (r0 : Nat) (x1 : Int) (x2 : Int) (σ : St) : Rx k_X2_leanOn 53 [.inr (.inl (7, r0)), .inl x1, .inl x2] [] σ = some (some (.inl 1), σ) := by
  refine (Rx_N (k := 1) (pc' := 54) (ls' := [.inr (.inl (7, r0)), .inl x1, .inl x2]) (st' := [.inl 1]) (σ' := σ) rfl).trans ?_
  exact Rx_ret rfl rfl
theorem b_X2_raise_0 (r0 : Nat) (x1 : Int) (σ : St) : Rx k_X2_raise 0 [.inr (.inl (7, r0)), .inl x1] [] σ = (Rx k_X2_isThing 0 [.inr (.inl (7, r0)), .inl x1] [] σ).bind fun q => Rx k_X2_raise 5 [.inr (.inl (7, r0)), .inl x1] (q.1.toList ++ []) q.2 := by
  refine (Rx_N (k := 2) (pc' := 2) (ls' := [.inr (.inl (7, r0)), .inl x1]) (st' := [.inl x1, .inr (.inl (7, r0))]) (σ' := σ) rfl).trans ?_
  exact Rx_call (n := 3) (y' := k_X2_isThing) (as := [.inr (.inl (7, r0)), .inl x1]) (rest := []) rfl rfl rfl
theorem b_X2_raise_5 (r0 : Nat) (x1 : Int) (s0 : Int) (σ : St) : Rx k_X2_raise 5 [.inr (.inl (7, r0)), .inl x1] [.inl s0] σ = if s0 = 0 then Rx k_X2_raise 34 [.inr (.inl (7, r0)), .inl x1] [] σ else Rx k_X2_raise 8 [.inr (.inl (7, r0)), .inl x1] [] σ := by
  exact Rx_eq0 (k := 1) rfl
theorem b_X2_raise_8 (r0 : Nat) (x1 : Int) (σ : St) : Rx k_X2_raise 8 [.inr (.inl (7, r0)), .inl x1] [] σ = (Rx k_X2_isUp 0 [.inr (.inl (7, r0)), .inl x1] [] σ).bind fun q => Rx k_X2_raise 13 [.inr (.inl (7, r0)), .inl x1] (q.1.toList ++ []) q.2 := by
  refine (Rx_N (k := 2) (pc' := 10) (ls' := [.inr (.inl (7, r0)), .inl x1]) (st' := [.inl x1, .inr (.inl (7, r0))]) (σ' := σ) rfl).trans ?_
  exact Rx_call (n := 3) (y' := k_X2_isUp) (as := [.inr (.inl (7, r0)), .inl x1]) (rest := []) rfl rfl rfl
theorem b_X2_raise_13 (r0 : Nat) (x1 : Int) (s0 : Int) (σ : St) : Rx k_X2_raise 13 [.inr (.inl (7, r0)), .inl x1] [.inl s0] σ = if s0 = 0 then Rx k_X2_raise 16 [.inr (.inl (7, r0)), .inl x1] [] σ else Rx k_X2_raise 34 [.inr (.inl (7, r0)), .inl x1] [] σ := by
  exact Rx_ne0 (k := 1) rfl
theorem b_X2_raise_16 (r0 : Nat) (x1 : Int) (σ : St) : Rx k_X2_raise 16 [.inr (.inl (7, r0)), .inl x1] [] σ = (Rx k_X2_weigh 0 [.inr (.inl (7, r0)), .inl x1, .inl 1, uns] [] (up σ 7 r0 3 (bOr (σ 7 r0 3) (bShl 1 x1)))).bind fun q => Rx k_X2_raise 34 [.inr (.inl (7, r0)), .inl x1] (q.1.toList ++ []) q.2 := by
  refine (Rx_N (k := 11) (pc' := 31) (ls' := [.inr (.inl (7, r0)), .inl x1]) (st' := [.inl 1, .inl x1, .inr (.inl (7, r0))]) (σ' := (up σ 7 r0 3 (bOr (σ 7 r0 3) (bShl 1 x1)))) rfl).trans ?_
  exact Rx_call (n := 3) (y' := k_X2_weigh) (as := [.inr (.inl (7, r0)), .inl x1, .inl 1]) (rest := []) rfl rfl rfl
theorem b_X2_raise_34 (r0 : Nat) (x1 : Int) (σ : St) : Rx k_X2_raise 34 [.inr (.inl (7, r0)), .inl x1] [] σ = (Rx k_X2_isThing 0 [.inr (.inl (7, r0)), .inl x1] [] σ).bind fun q => Rx k_X2_raise 39 [.inr (.inl (7, r0)), .inl x1] (q.1.toList ++ []) q.2 := by
  refine (Rx_N (k := 2) (pc' := 36) (ls' := [.inr (.inl (7, r0)), .inl x1]) (st' := [.inl x1, .inr (.inl (7, r0))]) (σ' := σ) rfl).trans ?_
  exact Rx_call (n := 3) (y' := k_X2_isThing) (as := [.inr (.inl (7, r0)), .inl x1]) (rest := []) rfl rfl rfl
theorem b_X2_raise_39 (r0 : Nat) (x1 : Int) (s0 : Int) (σ : St) (h0 : rkOK 2 s0 = true) : Rx k_X2_raise 39 [.inr (.inl (7, r0)), .inl x1] [.inl s0] σ = some (some (.inl s0), σ) := by
  exact Rx_ret rfl (if_pos h0)
theorem b_X2_strengthen_0 (r0 : Nat) (x1 : Int) (x2 : Int) (σ : St) : Rx k_X2_strengthen 0 [.inr (.inl (7, r0)), .inl x1, .inl x2] [] σ = (Rx k_X2_isPurpose 0 [.inr (.inl (7, r0)), .inl x1] [] σ).bind fun q => Rx k_X2_strengthen 5 [.inr (.inl (7, r0)), .inl x1, .inl x2] (q.1.toList ++ []) q.2 := by
  refine (Rx_N (k := 2) (pc' := 2) (ls' := [.inr (.inl (7, r0)), .inl x1, .inl x2]) (st' := [.inl x1, .inr (.inl (7, r0))]) (σ' := σ) rfl).trans ?_
  exact Rx_call (n := 3) (y' := k_X2_isPurpose) (as := [.inr (.inl (7, r0)), .inl x1]) (rest := []) rfl rfl rfl
theorem b_X2_strengthen_5 (r0 : Nat) (x1 : Int) (x2 : Int) (s0 : Int) (σ : St) : Rx k_X2_strengthen 5 [.inr (.inl (7, r0)), .inl x1, .inl x2] [.inl s0] σ = if s0 = 0 then Rx k_X2_strengthen 8 [.inr (.inl (7, r0)), .inl x1, .inl x2] [] σ else Rx k_X2_strengthen 10 [.inr (.inl (7, r0)), .inl x1, .inl x2] [] σ := by
  exact Rx_ne0 (k := 1) rfl
theorem b_X2_strengthen_8 (r0 : Nat) (x1 : Int) (x2 : Int) (σ : St) : Rx k_X2_strengthen 8 [.inr (.inl (7, r0)), .inl x1, .inl x2] [] σ = some (some (.inl 0), σ) := by
  refine (Rx_N (k := 1) (pc' := 9) (ls' := [.inr (.inl (7, r0)), .inl x1, .inl x2]) (st' := [.inl 0]) (σ' := σ) rfl).trans ?_
  exact Rx_ret rfl rfl
theorem b_X2_strengthen_10 (r0 : Nat) (x1 : Int) (x2 : Int) (σ : St) (h0 : 0 ≤ x1) (h1 : x1 < 5) : Rx k_X2_strengthen 10 [.inr (.inl (7, r0)), .inl x1, .inl x2] [] σ = some (some (.inl 1), (up σ 10 r0 x1.toNat x2)) := by
  refine (Rx_N (k := 4) (pc' := 16) (ls' := [.inr (.inl (7, r0)), .inl x1, .inl x2]) (st' := [.inl x2, .inl x1, .inr (.inl (10, r0))]) (σ' := σ) rfl).trans ?_
  refine (Rx_ist 5 rfl rfl h0 h1).trans ?_
  refine (Rx_N (k := 1) (pc' := 18) (ls' := [.inr (.inl (7, r0)), .inl x1, .inl x2]) (st' := [.inl 1]) (σ' := (up σ 10 r0 x1.toNat x2)) rfl).trans ?_
  exact Rx_ret rfl rfl
theorem b_X2_moveTo_0 (r0 : Nat) (x1 : Int) (x2 : Int) (σ : St) : Rx k_X2_moveTo 0 [.inr (.inl (7, r0)), .inl x1, .inl x2] [] σ = (Rx k_X2_isThing 0 [.inr (.inl (7, r0)), .inl x1] [] σ).bind fun q => Rx k_X2_moveTo 5 [.inr (.inl (7, r0)), .inl x1, .inl x2] (q.1.toList ++ []) q.2 := by
  refine (Rx_N (k := 2) (pc' := 2) (ls' := [.inr (.inl (7, r0)), .inl x1, .inl x2]) (st' := [.inl x1, .inr (.inl (7, r0))]) (σ' := σ) rfl).trans ?_
  exact Rx_call (n := 3) (y' := k_X2_isThing) (as := [.inr (.inl (7, r0)), .inl x1]) (rest := []) rfl rfl rfl
theorem b_X2_moveTo_5 (r0 : Nat) (x1 : Int) (x2 : Int) (s0 : Int) (σ : St) : Rx k_X2_moveTo 5 [.inr (.inl (7, r0)), .inl x1, .inl x2] [.inl s0] σ = if s0 = 0 then Rx k_X2_moveTo 56 [.inr (.inl (7, r0)), .inl x1, .inl x2] [] σ else Rx k_X2_moveTo 8 [.inr (.inl (7, r0)), .inl x1, .inl x2] [] σ := by
  exact Rx_eq0 (k := 1) rfl
theorem b_X2_moveTo_8 (r0 : Nat) (x1 : Int) (x2 : Int) (σ : St) : Rx k_X2_moveTo 8 [.inr (.inl (7, r0)), .inl x1, .inl x2] [] σ = (Rx k_X2_isFreeFor 0 [.inr (.inl (7, r0)), .inl x1, .inl x2] [] σ).bind fun q => Rx k_X2_moveTo 14 [.inr (.inl (7, r0)), .inl x1, .inl x2] (q.1.toList ++ []) q.2 := by
  refine (Rx_N (k := 3) (pc' := 11) (ls' := [.inr (.inl (7, r0)), .inl x1, .inl x2]) (st' := [.inl x2, .inl x1, .inr (.inl (7, r0))]) (σ' := σ) rfl).trans ?_
  exact Rx_call (n := 3) (y' := k_X2_isFreeFor) (as := [.inr (.inl (7, r0)), .inl x1, .inl x2]) (rest := []) rfl rfl rfl
theorem b_X2_moveTo_14 (r0 : Nat) (x1 : Int) (x2 : Int) (s0 : Int) (σ : St) : Rx k_X2_moveTo 14 [.inr (.inl (7, r0)), .inl x1, .inl x2] [.inl s0] σ = if s0 = 0 then Rx k_X2_moveTo 56 [.inr (.inl (7, r0)), .inl x1, .inl x2] [] σ else Rx k_X2_moveTo 17 [.inr (.inl (7, r0)), .inl x1, .inl x2] [] σ := by
  exact Rx_eq0 (k := 1) rfl
theorem b_X2_moveTo_17 (r0 : Nat) (x1 : Int) (x2 : Int) (σ : St) (h0 : 0 ≤ x1) (h1 : x1 < 10) : Rx k_X2_moveTo 17 [.inr (.inl (7, r0)), .inl x1, .inl x2] [] σ = (Rx k_X4_isPlace 0 [.inl (σ 13 r0 x1.toNat)] [] σ).bind fun q => Rx k_X2_moveTo 26 [.inr (.inl (7, r0)), .inl x1, .inl x2] (q.1.toList ++ []) q.2 := by
  refine (Rx_N (k := 3) (pc' := 22) (ls' := [.inr (.inl (7, r0)), .inl x1, .inl x2]) (st' := [.inl x1, .inr (.inl (13, r0))]) (σ' := σ) rfl).trans ?_
  refine (Rx_ild 10 rfl rfl rfl h0 h1).trans ?_
  exact Rx_call (n := 3) (y' := k_X4_isPlace) (as := [.inl (σ 13 r0 x1.toNat)]) (rest := []) rfl rfl rfl
theorem b_X2_moveTo_26 (r0 : Nat) (x1 : Int) (x2 : Int) (s0 : Int) (σ : St) : Rx k_X2_moveTo 26 [.inr (.inl (7, r0)), .inl x1, .inl x2] [.inl s0] σ = if s0 = 0 then Rx k_X2_moveTo 56 [.inr (.inl (7, r0)), .inl x1, .inl x2] [] σ else Rx k_X2_moveTo 29 [.inr (.inl (7, r0)), .inl x1, .inl x2] [] σ := by
  exact Rx_eq0 (k := 1) rfl
theorem b_X2_moveTo_29 (r0 : Nat) (x1 : Int) (x2 : Int) (σ : St) (h0 : 0 ≤ x1) (h1 : x1 < 10) (h2 : 0 ≤ (σ 13 r0 x1.toNat)) (h3 : (σ 13 r0 x1.toNat) < 20) (h4 : 0 ≤ x2) (h5 : x2 < 20) : Rx k_X2_moveTo 29 [.inr (.inl (7, r0)), .inl x1, .inl x2] [] σ = some (none, (up (up (up σ 15 r0 ((σ 13 r0 x1.toNat).toNat) (-9)) 13 r0 x1.toNat x2) 15 r0 x2.toNat x1)) := by
  refine (Rx_N (k := 5) (pc' := 38) (ls' := [.inr (.inl (7, r0)), .inl x1, .inl x2]) (st' := [.inl x1, .inr (.inl (13, r0)), .inr (.inl (15, r0))]) (σ' := σ) rfl).trans ?_
  refine (Rx_ild 10 rfl rfl rfl h0 h1).trans ?_
  refine (Rx_N (k := 1) (pc' := 41) (ls' := [.inr (.inl (7, r0)), .inl x1, .inl x2]) (st' := [.inl (-9), .inl (σ 13 r0 x1.toNat), .inr (.inl (15, r0))]) (σ' := σ) rfl).trans ?_
  refine (Rx_ist 20 rfl rfl h2 h3).trans ?_
  refine (Rx_N (k := 4) (pc' := 48) (ls' := [.inr (.inl (7, r0)), .inl x1, .inl x2]) (st' := [.inl x2, .inl x1, .inr (.inl (13, r0))]) (σ' := (up σ 15 r0 ((σ 13 r0 x1.toNat).toNat) (-9))) rfl).trans ?_
  refine (Rx_ist 10 rfl rfl h0 h1).trans ?_
  refine (Rx_N (k := 4) (pc' := 55) (ls' := [.inr (.inl (7, r0)), .inl x1, .inl x2]) (st' := [.inl x1, .inl x2, .inr (.inl (15, r0))]) (σ' := (up (up σ 15 r0 ((σ 13 r0 x1.toNat).toNat) (-9)) 13 r0 x1.toNat x2)) rfl).trans ?_
  refine (Rx_ist 20 rfl rfl h4 h5).trans ?_
  exact Rx_ret rfl rfl
theorem b_X2_moveTo_56 (r0 : Nat) (x1 : Int) (x2 : Int) (σ : St) : Rx k_X2_moveTo 56 [.inr (.inl (7, r0)), .inl x1, .inl x2] [] σ = some (none, σ) := by
  exact Rx_ret rfl rfl
theorem b_X2_weigh_0 (r0 : Nat) (x1 : Int) (x2 : Int) (u3 : AV) (σ : St) : Rx k_X2_weigh 0 [.inr (.inl (7, r0)), .inl x1, .inl x2, u3] [] σ = if x1 < 0 then Rx k_X2_weigh 10 [.inr (.inl (7, r0)), .inl x1, .inl x2, u3] [] σ else Rx k_X2_weigh 4 [.inr (.inl (7, r0)), .inl x1, .inl x2, u3] [] σ := by
  exact Rx_lt0 (k := 2) rfl
theorem b_X2_weigh_4 (r0 : Nat) (x1 : Int) (x2 : Int) (u3 : AV) (σ : St) : Rx k_X2_weigh 4 [.inr (.inl (7, r0)), .inl x1, .inl x2, u3] [] σ = if x1 < 10 then Rx k_X2_weigh 11 [.inr (.inl (7, r0)), .inl x1, .inl x2, u3] [] σ else Rx k_X2_weigh 10 [.inr (.inl (7, r0)), .inl x1, .inl x2, u3] [] σ := by
  exact Rx_lt0 (k := 3) rfl
theorem b_X2_weigh_10 (r0 : Nat) (x1 : Int) (x2 : Int) (u3 : AV) (σ : St) : Rx k_X2_weigh 10 [.inr (.inl (7, r0)), .inl x1, .inl x2, u3] [] σ = some (none, σ) := by
  exact Rx_ret rfl rfl
theorem b_X2_weigh_11 (r0 : Nat) (x1 : Int) (x2 : Int) (u3 : AV) (σ : St) (h0 : 0 ≤ x1) (h1 : x1 < 10) : Rx k_X2_weigh 11 [.inr (.inl (7, r0)), .inl x1, .inl x2, u3] [] σ = if (σ 14 r0 x1.toNat) < 0 then Rx k_X2_weigh 44 [.inr (.inl (7, r0)), .inl x1, .inl x2, .inl (σ 14 r0 x1.toNat)] [] σ else Rx k_X2_weigh 22 [.inr (.inl (7, r0)), .inl x1, .inl x2, .inl (σ 14 r0 x1.toNat)] [] σ := by
  refine (Rx_N (k := 3) (pc' := 16) (ls' := [.inr (.inl (7, r0)), .inl x1, .inl x2, u3]) (st' := [.inl x1, .inr (.inl (14, r0))]) (σ' := σ) rfl).trans ?_
  refine (Rx_ild 10 rfl rfl rfl h0 h1).trans ?_
  exact Rx_lt0 (k := 3) rfl
theorem b_X2_weigh_22 (r0 : Nat) (x1 : Int) (x2 : Int) (x3 : Int) (σ : St) : Rx k_X2_weigh 22 [.inr (.inl (7, r0)), .inl x1, .inl x2, .inl x3] [] σ = if x3 < 5 then Rx k_X2_weigh 27 [.inr (.inl (7, r0)), .inl x1, .inl x2, .inl x3] [] σ else Rx k_X2_weigh 44 [.inr (.inl (7, r0)), .inl x1, .inl x2, .inl x3] [] σ := by
  exact Rx_ge0 (k := 3) rfl
theorem r_X2_weigh_27 (r0 : Nat) (x1 : Int) (x2 : Int) (x3 : Int) (σ : St) (h0 : 0 ≤ x3) (h1 : x3 < 5) (h2 : 0 ≤ x1) (h3 : x1 < 10) : Rx k_X2_weigh 27 [.inr (.inl (7, r0)), .inl x1, .inl x2, .inl x3] [] σ = some (none, (up σ 11 r0 x3.toNat (wr ((σ 11 r0 x3.toNat) + (wr (x2 * (σ 12 r0 x1.toNat))))))) := by
  refine (Rx_N (k := 4) (pc' := 33) (ls' := [.inr (.inl (7, r0)), .inl x1, .inl x2, .inl x3]) (st' := [.inl x3, .inr (.inl (11, r0)), .inl x3, .inr (.inl (11, r0))]) (σ' := σ) rfl).trans ?_
  refine (Rx_ild 5 rfl rfl rfl h0 h1).trans ?_
  refine (Rx_N (k := 4) (pc' := 40) (ls' := [.inr (.inl (7, r0)), .inl x1, .inl x2, .inl x3]) (st' := [.inl x1, .inr (.inl (12, r0)), .inl x2, .inl (σ 11 r0 x3.toNat), .inl x3, .inr (.inl (11, r0))]) (σ' := σ) rfl).trans ?_
  refine (Rx_ild 10 rfl rfl rfl h2 h3).trans ?_
  refine (Rx_N (k := 2) (pc' := 43) (ls' := [.inr (.inl (7, r0)), .inl x1, .inl x2, .inl x3]) (st' := [.inl (wr ((σ 11 r0 x3.toNat) + (wr (x2 * (σ 12 r0 x1.toNat))))), .inl x3, .inr (.inl (11, r0))]) (σ' := σ) rfl).trans ?_
  refine (Rx_ist 5 rfl rfl h0 h1).trans ?_
  exact Rx_ret rfl rfl
theorem b_X2_weigh_27 (r0 : Nat) (x1 : Int) (x2 : Int) (x3 : Int) (σ : St) (h0 : 0 ≤ x3) (h1 : x3 < 5) (h2 : 0 ≤ x1) (h3 : x1 < 10) (g0a : -2147483648 ≤ (x2 * (σ 12 r0 x1.toNat))) (g0b : (x2 * (σ 12 r0 x1.toNat)) < 2147483648) (g1a : -2147483648 ≤ ((σ 11 r0 x3.toNat) + (x2 * (σ 12 r0 x1.toNat)))) (g1b : ((σ 11 r0 x3.toNat) + (x2 * (σ 12 r0 x1.toNat))) < 2147483648) : Rx k_X2_weigh 27 [.inr (.inl (7, r0)), .inl x1, .inl x2, .inl x3] [] σ = some (none, (up σ 11 r0 x3.toNat ((σ 11 r0 x3.toNat) + (x2 * (σ 12 r0 x1.toNat))))) := by
  have e0 := wr_id (x := (x2 * (σ 12 r0 x1.toNat))) g0a g0b
  have e1 := wr_id (x := ((σ 11 r0 x3.toNat) + (x2 * (σ 12 r0 x1.toNat)))) g1a g1b
  have raw := r_X2_weigh_27 r0 x1 x2 x3 σ h0 h1 h2 h3
  simp only [e0, e1] at raw
  exact raw
theorem b_X2_weigh_44 (r0 : Nat) (x1 : Int) (x2 : Int) (x3 : Int) (σ : St) : Rx k_X2_weigh 44 [.inr (.inl (7, r0)), .inl x1, .inl x2, .inl x3] [] σ = some (none, σ) := by
  exact Rx_ret rfl rfl
theorem b_X2_passDays_0 (r0 : Nat) (x1 : Int) (u2 : AV) (σ : St) : Rx k_X2_passDays 0 [.inr (.inl (7, r0)), .inl x1, u2] [] σ = Rx k_X2_passDays 2 [.inr (.inl (7, r0)), .inl x1, .inl 0] [] σ := by
  refine (Rx_N (k := 2) (pc' := 2) (ls' := [.inr (.inl (7, r0)), .inl x1, .inl 0]) (st' := []) (σ' := σ) rfl).trans ?_
  rfl
theorem b_X2_passDays_2 (r0 : Nat) (x1 : Int) (x2 : Int) (σ : St) : Rx k_X2_passDays 2 [.inr (.inl (7, r0)), .inl x1, .inl x2] [] σ = if x2 < x1 then Rx k_X2_passDays 7 [.inr (.inl (7, r0)), .inl x1, .inl x2] [] σ else Rx k_X2_passDays 17 [.inr (.inl (7, r0)), .inl x1, .inl x2] [] σ := by
  exact Rx_ge0 (k := 3) rfl
theorem b_X2_passDays_7 (r0 : Nat) (x1 : Int) (x2 : Int) (σ : St) : Rx k_X2_passDays 7 [.inr (.inl (7, r0)), .inl x1, .inl x2] [] σ = (Rx k_X2_passDay 0 [.inr (.inl (7, r0)), uns, uns] [] σ).bind fun q => Rx k_X2_passDays 11 [.inr (.inl (7, r0)), .inl x1, .inl x2] (q.1.toList ++ []) q.2 := by
  refine (Rx_N (k := 1) (pc' := 8) (ls' := [.inr (.inl (7, r0)), .inl x1, .inl x2]) (st' := [.inr (.inl (7, r0))]) (σ' := σ) rfl).trans ?_
  exact Rx_call (n := 3) (y' := k_X2_passDay) (as := [.inr (.inl (7, r0))]) (rest := []) rfl rfl rfl
theorem r_X2_passDays_11 (r0 : Nat) (x1 : Int) (x2 : Int) (σ : St) : Rx k_X2_passDays 11 [.inr (.inl (7, r0)), .inl x1, .inl x2] [] σ = Rx k_X2_passDays 2 [.inr (.inl (7, r0)), .inl x1, .inl (wr (x2 + 1))] [] σ := by
  refine (Rx_N (k := 2) (pc' := 2) (ls' := [.inr (.inl (7, r0)), .inl x1, .inl (wr (x2 + 1))]) (st' := []) (σ' := σ) rfl).trans ?_
  rfl
theorem b_X2_passDays_11 (r0 : Nat) (x1 : Int) (x2 : Int) (σ : St) (g0a : -2147483648 ≤ (x2 + 1)) (g0b : (x2 + 1) < 2147483648) : Rx k_X2_passDays 11 [.inr (.inl (7, r0)), .inl x1, .inl x2] [] σ = Rx k_X2_passDays 2 [.inr (.inl (7, r0)), .inl x1, .inl (x2 + 1)] [] σ := by
  have e0 := wr_id (x := (x2 + 1)) g0a g0b
  have raw := r_X2_passDays_11 r0 x1 x2 σ 
  simp only [e0] at raw
  exact raw
theorem b_X2_passDays_17 (r0 : Nat) (x1 : Int) (x2 : Int) (σ : St) : Rx k_X2_passDays 17 [.inr (.inl (7, r0)), .inl x1, .inl x2] [] σ = some (none, σ) := by
  exact Rx_ret rfl rfl
theorem r_X2_passDay_0 (r0 : Nat) (u1 : AV) (u2 : AV) (σ : St) : Rx k_X2_passDay 0 [.inr (.inl (7, r0)), u1, u2] [] σ = Rx k_X2_passDay 12 [.inr (.inl (7, r0)), .inl 0, u2] [] (up σ 7 r0 2 (wr ((σ 7 r0 2) + 1))) := by
  refine (Rx_N (k := 8) (pc' := 12) (ls' := [.inr (.inl (7, r0)), .inl 0, u2]) (st' := []) (σ' := (up σ 7 r0 2 (wr ((σ 7 r0 2) + 1)))) rfl).trans ?_
  rfl
theorem b_X2_passDay_0 (r0 : Nat) (u1 : AV) (u2 : AV) (σ : St) (g0a : -2147483648 ≤ ((σ 7 r0 2) + 1)) (g0b : ((σ 7 r0 2) + 1) < 2147483648) : Rx k_X2_passDay 0 [.inr (.inl (7, r0)), u1, u2] [] σ = Rx k_X2_passDay 12 [.inr (.inl (7, r0)), .inl 0, u2] [] (up σ 7 r0 2 ((σ 7 r0 2) + 1)) := by
  have e0 := wr_id (x := ((σ 7 r0 2) + 1)) g0a g0b
  have raw := r_X2_passDay_0 r0 u1 u2 σ 
  simp only [e0] at raw
  exact raw
theorem b_X2_passDay_12 (r0 : Nat) (x1 : Int) (u2 : AV) (σ : St) : Rx k_X2_passDay 12 [.inr (.inl (7, r0)), .inl x1, u2] [] σ = if x1 < (σ 7 r0 0) then Rx k_X2_passDay 20 [.inr (.inl (7, r0)), .inl x1, u2] [] σ else Rx k_X2_passDay 81 [.inr (.inl (7, r0)), .inl x1, u2] [] σ := by
  exact Rx_ge0 (k := 4) rfl
theorem b_X2_passDay_20 (r0 : Nat) (x1 : Int) (u2 : AV) (σ : St) : Rx k_X2_passDay 20 [.inr (.inl (7, r0)), .inl x1, u2] [] σ = if x1 < 5 then Rx k_X2_passDay 25 [.inr (.inl (7, r0)), .inl x1, u2] [] σ else Rx k_X2_passDay 81 [.inr (.inl (7, r0)), .inl x1, u2] [] σ := by
  exact Rx_ge0 (k := 3) rfl
theorem b_X2_passDay_25 (r0 : Nat) (x1 : Int) (u2 : AV) (σ : St) (h0 : 0 ≤ x1) (h1 : x1 < 5) : Rx k_X2_passDay 25 [.inr (.inl (7, r0)), .inl x1, u2] [] σ = (Rx k_X3_by 0 [.inl (σ 8 r0 x1.toNat), .inl (σ 9 r0 x1.toNat), .inl (σ 10 r0 x1.toNat), .inl (σ 11 r0 x1.toNat), .inl (σ 7 r0 2), uns, uns, uns] [] σ).bind fun q => Rx k_X2_passDay 56 [.inr (.inl (7, r0)), .inl x1, u2] (q.1.toList ++ []) q.2 := by
  refine (Rx_N (k := 3) (pc' := 30) (ls' := [.inr (.inl (7, r0)), .inl x1, u2]) (st' := [.inl x1, .inr (.inl (8, r0))]) (σ' := σ) rfl).trans ?_
  refine (Rx_ild 5 rfl rfl rfl h0 h1).trans ?_
  refine (Rx_N (k := 3) (pc' := 36) (ls' := [.inr (.inl (7, r0)), .inl x1, u2]) (st' := [.inl x1, .inr (.inl (9, r0)), .inl (σ 8 r0 x1.toNat)]) (σ' := σ) rfl).trans ?_
  refine (Rx_ild 5 rfl rfl rfl h0 h1).trans ?_
  refine (Rx_N (k := 3) (pc' := 42) (ls' := [.inr (.inl (7, r0)), .inl x1, u2]) (st' := [.inl x1, .inr (.inl (10, r0)), .inl (σ 9 r0 x1.toNat), .inl (σ 8 r0 x1.toNat)]) (σ' := σ) rfl).trans ?_
  refine (Rx_ild 5 rfl rfl rfl h0 h1).trans ?_
  refine (Rx_N (k := 3) (pc' := 48) (ls' := [.inr (.inl (7, r0)), .inl x1, u2]) (st' := [.inl x1, .inr (.inl (11, r0)), .inl (σ 10 r0 x1.toNat), .inl (σ 9 r0 x1.toNat), .inl (σ 8 r0 x1.toNat)]) (σ' := σ) rfl).trans ?_
  refine (Rx_ild 5 rfl rfl rfl h0 h1).trans ?_
  refine (Rx_N (k := 2) (pc' := 53) (ls' := [.inr (.inl (7, r0)), .inl x1, u2]) (st' := [.inl (σ 7 r0 2), .inl (σ 11 r0 x1.toNat), .inl (σ 10 r0 x1.toNat), .inl (σ 9 r0 x1.toNat), .inl (σ 8 r0 x1.toNat)]) (σ' := σ) rfl).trans ?_
  exact Rx_call (n := 3) (y' := k_X3_by) (as := [.inl (σ 8 r0 x1.toNat), .inl (σ 9 r0 x1.toNat), .inl (σ 10 r0 x1.toNat), .inl (σ 11 r0 x1.toNat), .inl (σ 7 r0 2)]) (rest := []) rfl rfl rfl
theorem r_X2_passDay_56 (r0 : Nat) (x1 : Int) (u2 : AV) (s0 : Int) (σ : St) (h0 : 0 ≤ x1) (h1 : x1 < 5) : Rx k_X2_passDay 56 [.inr (.inl (7, r0)), .inl x1, u2] [.inl s0] σ = Rx k_X2_passDay 12 [.inr (.inl (7, r0)), .inl (wr (x1 + 1)), .inl s0] [] (up σ 10 r0 x1.toNat (if 0 < wr ((σ 10 r0 x1.toNat) - s0) then wr ((σ 10 r0 x1.toNat) - s0) else 0)) := by
  refine (Rx_N (k := 8) (pc' := 68) (ls' := [.inr (.inl (7, r0)), .inl x1, .inl s0]) (st' := [.inl x1, .inr (.inl (10, r0)), .inl 0, .inl x1, .inr (.inl (10, r0))]) (σ' := σ) rfl).trans ?_
  refine (Rx_ild 5 rfl rfl rfl h0 h1).trans ?_
  refine (Rx_N (k := 3) (pc' := 74) (ls' := [.inr (.inl (7, r0)), .inl x1, .inl s0]) (st' := [.inl (if 0 < wr ((σ 10 r0 x1.toNat) - s0) then wr ((σ 10 r0 x1.toNat) - s0) else 0), .inl x1, .inr (.inl (10, r0))]) (σ' := σ) rfl).trans ?_
  refine (Rx_ist 5 rfl rfl h0 h1).trans ?_
  refine (Rx_N (k := 2) (pc' := 12) (ls' := [.inr (.inl (7, r0)), .inl (wr (x1 + 1)), .inl s0]) (st' := []) (σ' := (up σ 10 r0 x1.toNat (if 0 < wr ((σ 10 r0 x1.toNat) - s0) then wr ((σ 10 r0 x1.toNat) - s0) else 0))) rfl).trans ?_
  rfl
theorem b_X2_passDay_56 (r0 : Nat) (x1 : Int) (u2 : AV) (s0 : Int) (σ : St) (h0 : 0 ≤ x1) (h1 : x1 < 5) (g0a : -2147483648 ≤ (x1 + 1)) (g0b : (x1 + 1) < 2147483648) (g1a : -2147483648 ≤ ((σ 10 r0 x1.toNat) - s0)) (g1b : ((σ 10 r0 x1.toNat) - s0) < 2147483648) : Rx k_X2_passDay 56 [.inr (.inl (7, r0)), .inl x1, u2] [.inl s0] σ = Rx k_X2_passDay 12 [.inr (.inl (7, r0)), .inl (x1 + 1), .inl s0] [] (up σ 10 r0 x1.toNat (if 0 < ((σ 10 r0 x1.toNat) - s0) then ((σ 10 r0 x1.toNat) - s0) else 0)) := by
  have e0 := wr_id (x := (x1 + 1)) g0a g0b
  have e1 := wr_id (x := ((σ 10 r0 x1.toNat) - s0)) g1a g1b
  have raw := r_X2_passDay_56 r0 x1 u2 s0 σ h0 h1
  simp only [e0, e1] at raw
  exact raw
theorem b_X2_passDay_81 (r0 : Nat) (x1 : Int) (u2 : AV) (σ : St) : Rx k_X2_passDay 81 [.inr (.inl (7, r0)), .inl x1, u2] [] σ = Rx k_X2_passDay 83 [.inr (.inl (7, r0)), .inl 0, u2] [] σ := by
  refine (Rx_N (k := 2) (pc' := 83) (ls' := [.inr (.inl (7, r0)), .inl 0, u2]) (st' := []) (σ' := σ) rfl).trans ?_
  rfl
theorem b_X2_passDay_83 (r0 : Nat) (x1 : Int) (u2 : AV) (σ : St) : Rx k_X2_passDay 83 [.inr (.inl (7, r0)), .inl x1, u2] [] σ = if x1 < (σ 7 r0 0) then Rx k_X2_passDay 91 [.inr (.inl (7, r0)), .inl x1, u2] [] σ else Rx k_X2_passDay 120 [.inr (.inl (7, r0)), .inl x1, u2] [] σ := by
  exact Rx_ge0 (k := 4) rfl
theorem b_X2_passDay_91 (r0 : Nat) (x1 : Int) (u2 : AV) (σ : St) : Rx k_X2_passDay 91 [.inr (.inl (7, r0)), .inl x1, u2] [] σ = if x1 < 5 then Rx k_X2_passDay 96 [.inr (.inl (7, r0)), .inl x1, u2] [] σ else Rx k_X2_passDay 120 [.inr (.inl (7, r0)), .inl x1, u2] [] σ := by
  exact Rx_ge0 (k := 3) rfl
theorem b_X2_passDay_96 (r0 : Nat) (x1 : Int) (u2 : AV) (σ : St) : Rx k_X2_passDay 96 [.inr (.inl (7, r0)), .inl x1, u2] [] σ = (Rx k_X2_spareOf 0 [.inr (.inl (7, r0)), .inl x1] [] σ).bind fun q => Rx k_X2_passDay 101 [.inr (.inl (7, r0)), .inl x1, u2] (q.1.toList ++ []) q.2 := by
  refine (Rx_N (k := 2) (pc' := 98) (ls' := [.inr (.inl (7, r0)), .inl x1, u2]) (st' := [.inl x1, .inr (.inl (7, r0))]) (σ' := σ) rfl).trans ?_
  exact Rx_call (n := 3) (y' := k_X2_spareOf) (as := [.inr (.inl (7, r0)), .inl x1]) (rest := []) rfl rfl rfl
theorem b_X2_passDay_101 (r0 : Nat) (x1 : Int) (u2 : AV) (s0 : Int) (σ : St) : Rx k_X2_passDay 101 [.inr (.inl (7, r0)), .inl x1, u2] [.inl s0] σ = if s0 < 0 then Rx k_X2_passDay 104 [.inr (.inl (7, r0)), .inl x1, u2] [] σ else Rx k_X2_passDay 114 [.inr (.inl (7, r0)), .inl x1, u2] [] σ := by
  exact Rx_ge0 (k := 1) rfl
theorem b_X2_passDay_104 (r0 : Nat) (x1 : Int) (u2 : AV) (σ : St) : Rx k_X2_passDay 104 [.inr (.inl (7, r0)), .inl x1, u2] [] σ = (Rx k_X2_heaviestOn 0 [.inr (.inl (7, r0)), .inl x1, uns, uns, uns, uns] [] σ).bind fun q => Rx k_X2_passDay 110 [.inr (.inl (7, r0)), .inl x1, u2] (q.1.toList ++ [.inr (.inl (7, r0))]) q.2 := by
  refine (Rx_N (k := 3) (pc' := 107) (ls' := [.inr (.inl (7, r0)), .inl x1, u2]) (st' := [.inl x1, .inr (.inl (7, r0)), .inr (.inl (7, r0))]) (σ' := σ) rfl).trans ?_
  exact Rx_call (n := 3) (y' := k_X2_heaviestOn) (as := [.inr (.inl (7, r0)), .inl x1]) (rest := [.inr (.inl (7, r0))]) rfl rfl rfl
theorem b_X2_passDay_110 (r0 : Nat) (x1 : Int) (u2 : AV) (s1 : Int) (q0 : Nat) (σ : St) : Rx k_X2_passDay 110 [.inr (.inl (7, r0)), .inl x1, u2] [.inl s1, .inr (.inl (7, q0))] σ = (Rx k_X2_topple 0 [.inr (.inl (7, q0)), .inl s1, uns, uns] [] σ).bind fun q => Rx k_X2_passDay 113 [.inr (.inl (7, r0)), .inl x1, u2] (q.1.toList ++ []) q.2 := by
  exact Rx_call (n := 3) (y' := k_X2_topple) (as := [.inr (.inl (7, q0)), .inl s1]) (rest := []) rfl rfl rfl
theorem r_X2_passDay_113 (r0 : Nat) (x1 : Int) (u2 : AV) (s0 : Int) (σ : St) : Rx k_X2_passDay 113 [.inr (.inl (7, r0)), .inl x1, u2] [.inl s0] σ = Rx k_X2_passDay 83 [.inr (.inl (7, r0)), .inl (wr (x1 + 1)), u2] [] σ := by
  refine (Rx_N (k := 3) (pc' := 83) (ls' := [.inr (.inl (7, r0)), .inl (wr (x1 + 1)), u2]) (st' := []) (σ' := σ) rfl).trans ?_
  rfl
theorem b_X2_passDay_113 (r0 : Nat) (x1 : Int) (u2 : AV) (s0 : Int) (σ : St) (g0a : -2147483648 ≤ (x1 + 1)) (g0b : (x1 + 1) < 2147483648) : Rx k_X2_passDay 113 [.inr (.inl (7, r0)), .inl x1, u2] [.inl s0] σ = Rx k_X2_passDay 83 [.inr (.inl (7, r0)), .inl (x1 + 1), u2] [] σ := by
  have e0 := wr_id (x := (x1 + 1)) g0a g0b
  have raw := r_X2_passDay_113 r0 x1 u2 s0 σ 
  simp only [e0] at raw
  exact raw
theorem r_X2_passDay_114 (r0 : Nat) (x1 : Int) (u2 : AV) (σ : St) : Rx k_X2_passDay 114 [.inr (.inl (7, r0)), .inl x1, u2] [] σ = Rx k_X2_passDay 83 [.inr (.inl (7, r0)), .inl (wr (x1 + 1)), u2] [] σ := by
  refine (Rx_N (k := 2) (pc' := 83) (ls' := [.inr (.inl (7, r0)), .inl (wr (x1 + 1)), u2]) (st' := []) (σ' := σ) rfl).trans ?_
  rfl
theorem b_X2_passDay_114 (r0 : Nat) (x1 : Int) (u2 : AV) (σ : St) (g0a : -2147483648 ≤ (x1 + 1)) (g0b : (x1 + 1) < 2147483648) : Rx k_X2_passDay 114 [.inr (.inl (7, r0)), .inl x1, u2] [] σ = Rx k_X2_passDay 83 [.inr (.inl (7, r0)), .inl (x1 + 1), u2] [] σ := by
  have e0 := wr_id (x := (x1 + 1)) g0a g0b
  have raw := r_X2_passDay_114 r0 x1 u2 σ 
  simp only [e0] at raw
  exact raw
theorem b_X2_passDay_120 (r0 : Nat) (x1 : Int) (u2 : AV) (σ : St) : Rx k_X2_passDay 120 [.inr (.inl (7, r0)), .inl x1, u2] [] σ = some (none, σ) := by
  exact Rx_ret rfl rfl
theorem b_X2_heaviestOn_0 (r0 : Nat) (x1 : Int) (u2 : AV) (u3 : AV) (u4 : AV) (u5 : AV) (σ : St) : Rx k_X2_heaviestOn 0 [.inr (.inl (7, r0)), .inl x1, u2, u3, u4, u5] [] σ = Rx k_X2_heaviestOn 8 [.inr (.inl (7, r0)), .inl x1, .inl (-9), .inl 0, .inl 0, u5] [] σ := by
  refine (Rx_N (k := 6) (pc' := 8) (ls' := [.inr (.inl (7, r0)), .inl x1, .inl (-9), .inl 0, .inl 0, u5]) (st' := []) (σ' := σ) rfl).trans ?_
  rfl
theorem b_X2_heaviestOn_8 (r0 : Nat) (x1 : Int) (x2 : Int) (x3 : Int) (x4 : Int) (u5 : AV) (σ : St) : Rx k_X2_heaviestOn 8 [.inr (.inl (7, r0)), .inl x1, .inl x2, .inl x3, .inl x4, u5] [] σ = if x4 < 20 then Rx k_X2_heaviestOn 15 [.inr (.inl (7, r0)), .inl x1, .inl x2, .inl x3, .inl x4, u5] [] σ else Rx k_X2_heaviestOn 72 [.inr (.inl (7, r0)), .inl x1, .inl x2, .inl x3, .inl x4, u5] [] σ := by
  exact Rx_ge0 (k := 3) rfl
theorem b_X2_heaviestOn_15 (r0 : Nat) (x1 : Int) (x2 : Int) (x3 : Int) (x4 : Int) (u5 : AV) (σ : St) (h0 : 0 ≤ x4) (h1 : x4 < 20) : Rx k_X2_heaviestOn 15 [.inr (.inl (7, r0)), .inl x1, .inl x2, .inl x3, .inl x4, u5] [] σ = (Rx k_X2_isUp 0 [.inr (.inl (7, r0)), .inl (σ 15 r0 x4.toNat)] [] σ).bind fun q => Rx k_X2_heaviestOn 30 [.inr (.inl (7, r0)), .inl x1, .inl x2, .inl x3, .inl x4, .inl (σ 15 r0 x4.toNat)] (q.1.toList ++ []) q.2 := by
  refine (Rx_N (k := 3) (pc' := 21) (ls' := [.inr (.inl (7, r0)), .inl x1, .inl x2, .inl x3, .inl x4, u5]) (st' := [.inl x4, .inr (.inl (15, r0))]) (σ' := σ) rfl).trans ?_
  refine (Rx_ild 20 rfl rfl rfl h0 h1).trans ?_
  refine (Rx_N (k := 3) (pc' := 27) (ls' := [.inr (.inl (7, r0)), .inl x1, .inl x2, .inl x3, .inl x4, .inl (σ 15 r0 x4.toNat)]) (st' := [.inl (σ 15 r0 x4.toNat), .inr (.inl (7, r0))]) (σ' := σ) rfl).trans ?_
  exact Rx_call (n := 3) (y' := k_X2_isUp) (as := [.inr (.inl (7, r0)), .inl (σ 15 r0 x4.toNat)]) (rest := []) rfl rfl rfl
theorem b_X2_heaviestOn_30 (r0 : Nat) (x1 : Int) (x2 : Int) (x3 : Int) (x4 : Int) (x5 : Int) (s0 : Int) (σ : St) : Rx k_X2_heaviestOn 30 [.inr (.inl (7, r0)), .inl x1, .inl x2, .inl x3, .inl x4, .inl x5] [.inl s0] σ = if s0 = 0 then Rx k_X2_heaviestOn 66 [.inr (.inl (7, r0)), .inl x1, .inl x2, .inl x3, .inl x4, .inl x5] [] σ else Rx k_X2_heaviestOn 33 [.inr (.inl (7, r0)), .inl x1, .inl x2, .inl x3, .inl x4, .inl x5] [] σ := by
  exact Rx_eq0 (k := 1) rfl
theorem b_X2_heaviestOn_33 (r0 : Nat) (x1 : Int) (x2 : Int) (x3 : Int) (x4 : Int) (x5 : Int) (σ : St) (h0 : 0 ≤ x5) (h1 : x5 < 10) : Rx k_X2_heaviestOn 33 [.inr (.inl (7, r0)), .inl x1, .inl x2, .inl x3, .inl x4, .inl x5] [] σ = if (σ 14 r0 x5.toNat) = x1 then Rx k_X2_heaviestOn 44 [.inr (.inl (7, r0)), .inl x1, .inl x2, .inl x3, .inl x4, .inl x5] [] σ else Rx k_X2_heaviestOn 66 [.inr (.inl (7, r0)), .inl x1, .inl x2, .inl x3, .inl x4, .inl x5] [] σ := by
  refine (Rx_N (k := 3) (pc' := 39) (ls' := [.inr (.inl (7, r0)), .inl x1, .inl x2, .inl x3, .inl x4, .inl x5]) (st' := [.inl x5, .inr (.inl (14, r0))]) (σ' := σ) rfl).trans ?_
  refine (Rx_ild 10 rfl rfl rfl h0 h1).trans ?_
  exact Rx_ne0 (k := 2) rfl
theorem b_X2_heaviestOn_44 (r0 : Nat) (x1 : Int) (x2 : Int) (x3 : Int) (x4 : Int) (x5 : Int) (σ : St) (h0 : 0 ≤ x5) (h1 : x5 < 10) : Rx k_X2_heaviestOn 44 [.inr (.inl (7, r0)), .inl x1, .inl x2, .inl x3, .inl x4, .inl x5] [] σ = if x3 < (σ 12 r0 x5.toNat) then Rx k_X2_heaviestOn 55 [.inr (.inl (7, r0)), .inl x1, .inl x2, .inl x3, .inl x4, .inl x5] [] σ else Rx k_X2_heaviestOn 66 [.inr (.inl (7, r0)), .inl x1, .inl x2, .inl x3, .inl x4, .inl x5] [] σ := by
  refine (Rx_N (k := 3) (pc' := 50) (ls' := [.inr (.inl (7, r0)), .inl x1, .inl x2, .inl x3, .inl x4, .inl x5]) (st' := [.inl x5, .inr (.inl (12, r0))]) (σ' := σ) rfl).trans ?_
  refine (Rx_ild 10 rfl rfl rfl h0 h1).trans ?_
  exact Rx_le0 (k := 2) rfl
theorem r_X2_heaviestOn_55 (r0 : Nat) (x1 : Int) (x2 : Int) (x3 : Int) (x4 : Int) (x5 : Int) (σ : St) (h0 : 0 ≤ x5) (h1 : x5 < 10) : Rx k_X2_heaviestOn 55 [.inr (.inl (7, r0)), .inl x1, .inl x2, .inl x3, .inl x4, .inl x5] [] σ = Rx k_X2_heaviestOn 8 [.inr (.inl (7, r0)), .inl x1, .inl x5, .inl (σ 12 r0 x5.toNat), .inl (wr (x4 + 1)), .inl x5] [] σ := by
  refine (Rx_N (k := 5) (pc' := 64) (ls' := [.inr (.inl (7, r0)), .inl x1, .inl x5, .inl x3, .inl x4, .inl x5]) (st' := [.inl x5, .inr (.inl (12, r0))]) (σ' := σ) rfl).trans ?_
  refine (Rx_ild 10 rfl rfl rfl h0 h1).trans ?_
  refine (Rx_N (k := 3) (pc' := 8) (ls' := [.inr (.inl (7, r0)), .inl x1, .inl x5, .inl (σ 12 r0 x5.toNat), .inl (wr (x4 + 1)), .inl x5]) (st' := []) (σ' := σ) rfl).trans ?_
  rfl
theorem b_X2_heaviestOn_55 (r0 : Nat) (x1 : Int) (x2 : Int) (x3 : Int) (x4 : Int) (x5 : Int) (σ : St) (h0 : 0 ≤ x5) (h1 : x5 < 10) (g0a : -2147483648 ≤ (x4 + 1)) (g0b : (x4 + 1) < 2147483648) : Rx k_X2_heaviestOn 55 [.inr (.inl (7, r0)), .inl x1, .inl x2, .inl x3, .inl x4, .inl x5] [] σ = Rx k_X2_heaviestOn 8 [.inr (.inl (7, r0)), .inl x1, .inl x5, .inl (σ 12 r0 x5.toNat), .inl (x4 + 1), .inl x5] [] σ := by
  have e0 := wr_id (x := (x4 + 1)) g0a g0b
  have raw := r_X2_heaviestOn_55 r0 x1 x2 x3 x4 x5 σ h0 h1
  simp only [e0] at raw
  exact raw
theorem r_X2_heaviestOn_66 (r0 : Nat) (x1 : Int) (x2 : Int) (x3 : Int) (x4 : Int) (x5 : Int) (σ : St) : Rx k_X2_heaviestOn 66 [.inr (.inl (7, r0)), .inl x1, .inl x2, .inl x3, .inl x4, .inl x5] [] σ = Rx k_X2_heaviestOn 8 [.inr (.inl (7, r0)), .inl x1, .inl x2, .inl x3, .inl (wr (x4 + 1)), .inl x5] [] σ := by
  refine (Rx_N (k := 2) (pc' := 8) (ls' := [.inr (.inl (7, r0)), .inl x1, .inl x2, .inl x3, .inl (wr (x4 + 1)), .inl x5]) (st' := []) (σ' := σ) rfl).trans ?_
  rfl
theorem b_X2_heaviestOn_66 (r0 : Nat) (x1 : Int) (x2 : Int) (x3 : Int) (x4 : Int) (x5 : Int) (σ : St) (g0a : -2147483648 ≤ (x4 + 1)) (g0b : (x4 + 1) < 2147483648) : Rx k_X2_heaviestOn 66 [.inr (.inl (7, r0)), .inl x1, .inl x2, .inl x3, .inl x4, .inl x5] [] σ = Rx k_X2_heaviestOn 8 [.inr (.inl (7, r0)), .inl x1, .inl x2, .inl x3, .inl (x4 + 1), .inl x5] [] σ := by
  have e0 := wr_id (x := (x4 + 1)) g0a g0b
  have raw := r_X2_heaviestOn_66 r0 x1 x2 x3 x4 x5 σ 
  simp only [e0] at raw
  exact raw
theorem b_X2_heaviestOn_72 (r0 : Nat) (x1 : Int) (x2 : Int) (x3 : Int) (x4 : Int) (u5 : AV) (σ : St) : Rx k_X2_heaviestOn 72 [.inr (.inl (7, r0)), .inl x1, .inl x2, .inl x3, .inl x4, u5] [] σ = some (some (.inl x2), σ) := by
  refine (Rx_N (k := 1) (pc' := 73) (ls' := [.inr (.inl (7, r0)), .inl x1, .inl x2, .inl x3, .inl x4, u5]) (st' := [.inl x2]) (σ' := σ) rfl).trans ?_
  exact Rx_ret rfl rfl
theorem b_X2_topple_0 (r0 : Nat) (x1 : Int) (u2 : AV) (u3 : AV) (σ : St) : Rx k_X2_topple 0 [.inr (.inl (7, r0)), .inl x1, u2, u3] [] σ = (Rx k_X2_felledBy 0 [.inr (.inl (7, r0)), .inl x1, .inl 0, uns, uns, uns, uns, uns] [] σ).bind fun q => Rx k_X2_topple 6 [.inr (.inl (7, r0)), .inl x1, u2, u3] (q.1.toList ++ []) q.2 := by
  refine (Rx_N (k := 3) (pc' := 3) (ls' := [.inr (.inl (7, r0)), .inl x1, u2, u3]) (st' := [.inl 0, .inl x1, .inr (.inl (7, r0))]) (σ' := σ) rfl).trans ?_
  exact Rx_call (n := 3) (y' := k_X2_felledBy) (as := [.inr (.inl (7, r0)), .inl x1, .inl 0]) (rest := []) rfl rfl rfl
theorem b_X2_topple_6 (r0 : Nat) (x1 : Int) (u2 : AV) (u3 : AV) (s0 : Int) (σ : St) : Rx k_X2_topple 6 [.inr (.inl (7, r0)), .inl x1, u2, u3] [.inl s0] σ = Rx k_X2_topple 9 [.inr (.inl (7, r0)), .inl x1, .inl s0, .inl 0] [] σ := by
  refine (Rx_N (k := 3) (pc' := 9) (ls' := [.inr (.inl (7, r0)), .inl x1, .inl s0, .inl 0]) (st' := []) (σ' := σ) rfl).trans ?_
  rfl
theorem b_X2_topple_9 (r0 : Nat) (x1 : Int) (x2 : Int) (x3 : Int) (σ : St) : Rx k_X2_topple 9 [.inr (.inl (7, r0)), .inl x1, .inl x2, .inl x3] [] σ = if x3 < (σ 7 r0 1) then Rx k_X2_topple 17 [.inr (.inl (7, r0)), .inl x1, .inl x2, .inl x3] [] σ else Rx k_X2_topple 43 [.inr (.inl (7, r0)), .inl x1, .inl x2, .inl x3] [] σ := by
  exact Rx_ge0 (k := 4) rfl
theorem b_X2_topple_17 (r0 : Nat) (x1 : Int) (x2 : Int) (x3 : Int) (σ : St) : Rx k_X2_topple 17 [.inr (.inl (7, r0)), .inl x1, .inl x2, .inl x3] [] σ = if x3 < 10 then Rx k_X2_topple 23 [.inr (.inl (7, r0)), .inl x1, .inl x2, .inl x3] [] σ else Rx k_X2_topple 43 [.inr (.inl (7, r0)), .inl x1, .inl x2, .inl x3] [] σ := by
  exact Rx_ge0 (k := 3) rfl
theorem b_X2_topple_23 (r0 : Nat) (x1 : Int) (x2 : Int) (x3 : Int) (σ : St) : Rx k_X2_topple 23 [.inr (.inl (7, r0)), .inl x1, .inl x2, .inl x3] [] σ = (Rx k_X4_has 0 [.inl x2, .inl x3] [] σ).bind fun q => Rx k_X2_topple 28 [.inr (.inl (7, r0)), .inl x1, .inl x2, .inl x3] (q.1.toList ++ []) q.2 := by
  refine (Rx_N (k := 2) (pc' := 25) (ls' := [.inr (.inl (7, r0)), .inl x1, .inl x2, .inl x3]) (st' := [.inl x3, .inl x2]) (σ' := σ) rfl).trans ?_
  exact Rx_call (n := 3) (y' := k_X4_has) (as := [.inl x2, .inl x3]) (rest := []) rfl rfl rfl
theorem b_X2_topple_28 (r0 : Nat) (x1 : Int) (x2 : Int) (x3 : Int) (s0 : Int) (σ : St) : Rx k_X2_topple 28 [.inr (.inl (7, r0)), .inl x1, .inl x2, .inl x3] [.inl s0] σ = if s0 = 0 then Rx k_X2_topple 37 [.inr (.inl (7, r0)), .inl x1, .inl x2, .inl x3] [] σ else Rx k_X2_topple 31 [.inr (.inl (7, r0)), .inl x1, .inl x2, .inl x3] [] σ := by
  exact Rx_eq0 (k := 1) rfl
theorem b_X2_topple_31 (r0 : Nat) (x1 : Int) (x2 : Int) (x3 : Int) (σ : St) : Rx k_X2_topple 31 [.inr (.inl (7, r0)), .inl x1, .inl x2, .inl x3] [] σ = (Rx k_X2_weigh 0 [.inr (.inl (7, r0)), .inl x3, .inl (-1), uns] [] σ).bind fun q => Rx k_X2_topple 37 [.inr (.inl (7, r0)), .inl x1, .inl x2, .inl x3] (q.1.toList ++ []) q.2 := by
  refine (Rx_N (k := 3) (pc' := 34) (ls' := [.inr (.inl (7, r0)), .inl x1, .inl x2, .inl x3]) (st' := [.inl (-1), .inl x3, .inr (.inl (7, r0))]) (σ' := σ) rfl).trans ?_
  exact Rx_call (n := 3) (y' := k_X2_weigh) (as := [.inr (.inl (7, r0)), .inl x3, .inl (-1)]) (rest := []) rfl rfl rfl
theorem r_X2_topple_37 (r0 : Nat) (x1 : Int) (x2 : Int) (x3 : Int) (σ : St) : Rx k_X2_topple 37 [.inr (.inl (7, r0)), .inl x1, .inl x2, .inl x3] [] σ = Rx k_X2_topple 9 [.inr (.inl (7, r0)), .inl x1, .inl x2, .inl (wr (x3 + 1))] [] σ := by
  refine (Rx_N (k := 2) (pc' := 9) (ls' := [.inr (.inl (7, r0)), .inl x1, .inl x2, .inl (wr (x3 + 1))]) (st' := []) (σ' := σ) rfl).trans ?_
  rfl
theorem b_X2_topple_37 (r0 : Nat) (x1 : Int) (x2 : Int) (x3 : Int) (σ : St) (g0a : -2147483648 ≤ (x3 + 1)) (g0b : (x3 + 1) < 2147483648) : Rx k_X2_topple 37 [.inr (.inl (7, r0)), .inl x1, .inl x2, .inl x3] [] σ = Rx k_X2_topple 9 [.inr (.inl (7, r0)), .inl x1, .inl x2, .inl (x3 + 1)] [] σ := by
  have e0 := wr_id (x := (x3 + 1)) g0a g0b
  have raw := r_X2_topple_37 r0 x1 x2 x3 σ 
  simp only [e0] at raw
  exact raw
theorem b_X2_topple_43 (r0 : Nat) (x1 : Int) (x2 : Int) (x3 : Int) (σ : St) : Rx k_X2_topple 43 [.inr (.inl (7, r0)), .inl x1, .inl x2, .inl x3] [] σ = (Rx k_J6_bitCount_0f7a4 0 [.inl x2] [] (up σ 7 r0 3 (bAnd (σ 7 r0 3) (bXor x2 (-1))))).bind fun q => Rx k_X2_topple 59 [.inr (.inl (7, r0)), .inl x1, .inl x2, .inl x3] (q.1.toList ++ []) q.2 := by
  refine (Rx_N (k := 9) (pc' := 56) (ls' := [.inr (.inl (7, r0)), .inl x1, .inl x2, .inl x3]) (st' := [.inl x2]) (σ' := (up σ 7 r0 3 (bAnd (σ 7 r0 3) (bXor x2 (-1))))) rfl).trans ?_
  exact Rx_call (n := 3) (y' := k_J6_bitCount_0f7a4) (as := [.inl x2]) (rest := []) rfl rfl rfl
theorem b_X2_topple_59 (r0 : Nat) (x1 : Int) (x2 : Int) (x3 : Int) (s0 : Int) (σ : St) : Rx k_X2_topple 59 [.inr (.inl (7, r0)), .inl x1, .inl x2, .inl x3] [.inl s0] σ = some (some (.inl s0), σ) := by
  exact Rx_ret rfl rfl
theorem b_X2_felledBy_0 (r0 : Nat) (x1 : Int) (x2 : Int) (u3 : AV) (u4 : AV) (u5 : AV) (u6 : AV) (u7 : AV) (σ : St) : Rx k_X2_felledBy 0 [.inr (.inl (7, r0)), .inl x1, .inl x2, u3, u4, u5, u6, u7] [] σ = if x1 < 0 then Rx k_X2_felledBy 18 [.inr (.inl (7, r0)), .inl x1, .inl x2, u3, u4, u5, u6, u7] [] σ else Rx k_X2_felledBy 4 [.inr (.inl (7, r0)), .inl x1, .inl x2, u3, u4, u5, u6, u7] [] σ := by
  exact Rx_lt0 (k := 2) rfl
theorem b_X2_felledBy_4 (r0 : Nat) (x1 : Int) (x2 : Int) (u3 : AV) (u4 : AV) (u5 : AV) (u6 : AV) (u7 : AV) (σ : St) : Rx k_X2_felledBy 4 [.inr (.inl (7, r0)), .inl x1, .inl x2, u3, u4, u5, u6, u7] [] σ = if x1 < (σ 7 r0 1) then Rx k_X2_felledBy 12 [.inr (.inl (7, r0)), .inl x1, .inl x2, u3, u4, u5, u6, u7] [] σ else Rx k_X2_felledBy 18 [.inr (.inl (7, r0)), .inl x1, .inl x2, u3, u4, u5, u6, u7] [] σ := by
  exact Rx_ge0 (k := 4) rfl
theorem b_X2_felledBy_12 (r0 : Nat) (x1 : Int) (x2 : Int) (u3 : AV) (u4 : AV) (u5 : AV) (u6 : AV) (u7 : AV) (σ : St) : Rx k_X2_felledBy 12 [.inr (.inl (7, r0)), .inl x1, .inl x2, u3, u4, u5, u6, u7] [] σ = if x1 < 10 then Rx k_X2_felledBy 20 [.inr (.inl (7, r0)), .inl x1, .inl x2, u3, u4, u5, u6, u7] [] σ else Rx k_X2_felledBy 18 [.inr (.inl (7, r0)), .inl x1, .inl x2, u3, u4, u5, u6, u7] [] σ := by
  exact Rx_lt0 (k := 3) rfl
theorem b_X2_felledBy_18 (r0 : Nat) (x1 : Int) (x2 : Int) (u3 : AV) (u4 : AV) (u5 : AV) (u6 : AV) (u7 : AV) (σ : St) : Rx k_X2_felledBy 18 [.inr (.inl (7, r0)), .inl x1, .inl x2, u3, u4, u5, u6, u7] [] σ = some (some (.inl 0), σ) := by
  refine (Rx_N (k := 1) (pc' := 19) (ls' := [.inr (.inl (7, r0)), .inl x1, .inl x2, u3, u4, u5, u6, u7]) (st' := [.inl 0]) (σ' := σ) rfl).trans ?_
  exact Rx_ret rfl rfl
theorem b_X2_felledBy_20 (r0 : Nat) (x1 : Int) (x2 : Int) (u3 : AV) (u4 : AV) (u5 : AV) (u6 : AV) (u7 : AV) (σ : St) (h0 : 0 ≤ x1) (h1 : x1 < 10) : Rx k_X2_felledBy 20 [.inr (.inl (7, r0)), .inl x1, .inl x2, u3, u4, u5, u6, u7] [] σ = Rx k_X2_felledBy 48 [.inr (.inl (7, r0)), .inl x1, .inl x2, .inl (bAnd (σ 7 r0 3) (bXor x2 (-1))), .inl 0, .inl (σ 12 r0 x1.toNat), .inl (σ 13 r0 x1.toNat), u7] [] σ := by
  refine (Rx_N (k := 12) (pc' := 37) (ls' := [.inr (.inl (7, r0)), .inl x1, .inl x2, .inl (bAnd (σ 7 r0 3) (bXor x2 (-1))), .inl 0, u5, u6, u7]) (st' := [.inl x1, .inr (.inl (12, r0))]) (σ' := σ) rfl).trans ?_
  refine (Rx_ild 10 rfl rfl rfl h0 h1).trans ?_
  refine (Rx_N (k := 4) (pc' := 45) (ls' := [.inr (.inl (7, r0)), .inl x1, .inl x2, .inl (bAnd (σ 7 r0 3) (bXor x2 (-1))), .inl 0, .inl (σ 12 r0 x1.toNat), u6, u7]) (st' := [.inl x1, .inr (.inl (13, r0))]) (σ' := σ) rfl).trans ?_
  refine (Rx_ild 10 rfl rfl rfl h0 h1).trans ?_
  refine (Rx_N (k := 1) (pc' := 48) (ls' := [.inr (.inl (7, r0)), .inl x1, .inl x2, .inl (bAnd (σ 7 r0 3) (bXor x2 (-1))), .inl 0, .inl (σ 12 r0 x1.toNat), .inl (σ 13 r0 x1.toNat), u7]) (st' := []) (σ' := σ) rfl).trans ?_
  rfl
theorem b_X2_felledBy_48 (r0 : Nat) (x1 : Int) (x2 : Int) (x3 : Int) (x4 : Int) (x5 : Int) (x6 : Int) (u7 : AV) (σ : St) : Rx k_X2_felledBy 48 [.inr (.inl (7, r0)), .inl x1, .inl x2, .inl x3, .inl x4, .inl x5, .inl x6, u7] [] σ = if x6 < 0 then Rx k_X2_felledBy 129 [.inr (.inl (7, r0)), .inl x1, .inl x2, .inl x3, .inl x4, .inl x5, .inl x6, u7] [] σ else Rx k_X2_felledBy 53 [.inr (.inl (7, r0)), .inl x1, .inl x2, .inl x3, .inl x4, .inl x5, .inl x6, u7] [] σ := by
  exact Rx_lt0 (k := 2) rfl
theorem b_X2_felledBy_53 (r0 : Nat) (x1 : Int) (x2 : Int) (x3 : Int) (x4 : Int) (x5 : Int) (x6 : Int) (u7 : AV) (σ : St) : Rx k_X2_felledBy 53 [.inr (.inl (7, r0)), .inl x1, .inl x2, .inl x3, .inl x4, .inl x5, .inl x6, u7] [] σ = if x6 < 20 then Rx k_X2_felledBy 60 [.inr (.inl (7, r0)), .inl x1, .inl x2, .inl x3, .inl x4, .inl x5, .inl x6, u7] [] σ else Rx k_X2_felledBy 129 [.inr (.inl (7, r0)), .inl x1, .inl x2, .inl x3, .inl x4, .inl x5, .inl x6, u7] [] σ := by
  exact Rx_ge0 (k := 3) rfl
theorem b_X2_felledBy_60 (r0 : Nat) (x1 : Int) (x2 : Int) (x3 : Int) (x4 : Int) (x5 : Int) (x6 : Int) (u7 : AV) (σ : St) (h0 : 0 ≤ x6) (h1 : x6 < 20) : Rx k_X2_felledBy 60 [.inr (.inl (7, r0)), .inl x1, .inl x2, .inl x3, .inl x4, .inl x5, .inl x6, u7] [] σ = if (σ 15 r0 x6.toNat) < 0 then Rx k_X2_felledBy 129 [.inr (.inl (7, r0)), .inl x1, .inl x2, .inl x3, .inl x4, .inl x5, .inl x6, .inl (σ 15 r0 x6.toNat)] [] σ else Rx k_X2_felledBy 74 [.inr (.inl (7, r0)), .inl x1, .inl x2, .inl x3, .inl x4, .inl x5, .inl x6, .inl (σ 15 r0 x6.toNat)] [] σ := by
  refine (Rx_N (k := 3) (pc' := 66) (ls' := [.inr (.inl (7, r0)), .inl x1, .inl x2, .inl x3, .inl x4, .inl x5, .inl x6, u7]) (st' := [.inl x6, .inr (.inl (15, r0))]) (σ' := σ) rfl).trans ?_
  refine (Rx_ild 20 rfl rfl rfl h0 h1).trans ?_
  exact Rx_lt0 (k := 3) rfl
theorem b_X2_felledBy_74 (r0 : Nat) (x1 : Int) (x2 : Int) (x3 : Int) (x4 : Int) (x5 : Int) (x6 : Int) (x7 : Int) (σ : St) : Rx k_X2_felledBy 74 [.inr (.inl (7, r0)), .inl x1, .inl x2, .inl x3, .inl x4, .inl x5, .inl x6, .inl x7] [] σ = if x7 < 10 then Rx k_X2_felledBy 81 [.inr (.inl (7, r0)), .inl x1, .inl x2, .inl x3, .inl x4, .inl x5, .inl x6, .inl x7] [] σ else Rx k_X2_felledBy 129 [.inr (.inl (7, r0)), .inl x1, .inl x2, .inl x3, .inl x4, .inl x5, .inl x6, .inl x7] [] σ := by
  exact Rx_ge0 (k := 3) rfl
theorem b_X2_felledBy_81 (r0 : Nat) (x1 : Int) (x2 : Int) (x3 : Int) (x4 : Int) (x5 : Int) (x6 : Int) (x7 : Int) (σ : St) : Rx k_X2_felledBy 81 [.inr (.inl (7, r0)), .inl x1, .inl x2, .inl x3, .inl x4, .inl x5, .inl x6, .inl x7] [] σ = if (bAnd (bUshr x3 x7) 1) = 0 then Rx k_X2_felledBy 129 [.inr (.inl (7, r0)), .inl x1, .inl x2, .inl x3, .inl x4, .inl x5, .inl x6, .inl x7] [] σ else Rx k_X2_felledBy 90 [.inr (.inl (7, r0)), .inl x1, .inl x2, .inl x3, .inl x4, .inl x5, .inl x6, .inl x7] [] σ := by
  exact Rx_eq0 (k := 6) rfl
theorem b_X2_felledBy_90 (r0 : Nat) (x1 : Int) (x2 : Int) (x3 : Int) (x4 : Int) (x5 : Int) (x6 : Int) (x7 : Int) (σ : St) (h0 : 0 ≤ x7) (h1 : x7 < 10) : Rx k_X2_felledBy 90 [.inr (.inl (7, r0)), .inl x1, .inl x2, .inl x3, .inl x4, .inl x5, .inl x6, .inl x7] [] σ = if x5 < (σ 12 r0 x7.toNat) then Rx k_X2_felledBy 102 [.inr (.inl (7, r0)), .inl x1, .inl x2, .inl x3, .inl x4, .inl x5, .inl x6, .inl x7] [] σ else Rx k_X2_felledBy 105 [.inr (.inl (7, r0)), .inl x1, .inl x2, .inl x3, .inl x4, .inl x5, .inl x6, .inl x7] [] σ := by
  refine (Rx_N (k := 3) (pc' := 96) (ls' := [.inr (.inl (7, r0)), .inl x1, .inl x2, .inl x3, .inl x4, .inl x5, .inl x6, .inl x7]) (st' := [.inl x7, .inr (.inl (12, r0))]) (σ' := σ) rfl).trans ?_
  refine (Rx_ild 10 rfl rfl rfl h0 h1).trans ?_
  exact Rx_le0 (k := 2) rfl
theorem b_X2_felledBy_102 (r0 : Nat) (x1 : Int) (x2 : Int) (x3 : Int) (x4 : Int) (x5 : Int) (x6 : Int) (x7 : Int) (σ : St) : Rx k_X2_felledBy 102 [.inr (.inl (7, r0)), .inl x1, .inl x2, .inl x3, .inl x4, .inl x5, .inl x6, .inl x7] [] σ = some (some (.inl x4), σ) := by
  refine (Rx_N (k := 2) (pc' := 131) (ls' := [.inr (.inl (7, r0)), .inl x1, .inl x2, .inl x3, .inl x4, .inl x5, .inl x6, .inl x7]) (st' := [.inl x4]) (σ' := σ) rfl).trans ?_
  exact Rx_ret rfl rfl
theorem r_X2_felledBy_105 (r0 : Nat) (x1 : Int) (x2 : Int) (x3 : Int) (x4 : Int) (x5 : Int) (x6 : Int) (x7 : Int) (σ : St) (h0 : 0 ≤ x7) (h1 : x7 < 10) : Rx k_X2_felledBy 105 [.inr (.inl (7, r0)), .inl x1, .inl x2, .inl x3, .inl x4, .inl x5, .inl x6, .inl x7] [] σ = Rx k_X2_felledBy 48 [.inr (.inl (7, r0)), .inl x1, .inl x2, .inl x3, .inl (bOr x4 (bShl 1 x7)), .inl (σ 12 r0 x7.toNat), .inl (wr (x6 + 1)), .inl x7] [] σ := by
  refine (Rx_N (k := 9) (pc' := 120) (ls' := [.inr (.inl (7, r0)), .inl x1, .inl x2, .inl x3, .inl (bOr x4 (bShl 1 x7)), .inl x5, .inl x6, .inl x7]) (st' := [.inl x7, .inr (.inl (12, r0))]) (σ' := σ) rfl).trans ?_
  refine (Rx_ild 10 rfl rfl rfl h0 h1).trans ?_
  refine (Rx_N (k := 3) (pc' := 48) (ls' := [.inr (.inl (7, r0)), .inl x1, .inl x2, .inl x3, .inl (bOr x4 (bShl 1 x7)), .inl (σ 12 r0 x7.toNat), .inl (wr (x6 + 1)), .inl x7]) (st' := []) (σ' := σ) rfl).trans ?_
  rfl
theorem b_X2_felledBy_105 (r0 : Nat) (x1 : Int) (x2 : Int) (x3 : Int) (x4 : Int) (x5 : Int) (x6 : Int) (x7 : Int) (σ : St) (h0 : 0 ≤ x7) (h1 : x7 < 10) (g0a : -2147483648 ≤ (x6 + 1)) (g0b : (x6 + 1) < 2147483648) : Rx k_X2_felledBy 105 [.inr (.inl (7, r0)), .inl x1, .inl x2, .inl x3, .inl x4, .inl x5, .inl x6, .inl x7] [] σ = Rx k_X2_felledBy 48 [.inr (.inl (7, r0)), .inl x1, .inl x2, .inl x3, .inl (bOr x4 (bShl 1 x7)), .inl (σ 12 r0 x7.toNat), .inl (x6 + 1), .inl x7] [] σ := by
  have e0 := wr_id (x := (x6 + 1)) g0a g0b
  have raw := r_X2_felledBy_105 r0 x1 x2 x3 x4 x5 x6 x7 σ h0 h1
  simp only [e0] at raw
  exact raw
theorem b_X2_felledBy_129 (r0 : Nat) (x1 : Int) (x2 : Int) (x3 : Int) (x4 : Int) (x5 : Int) (x6 : Int) (u7 : AV) (σ : St) : Rx k_X2_felledBy 129 [.inr (.inl (7, r0)), .inl x1, .inl x2, .inl x3, .inl x4, .inl x5, .inl x6, u7] [] σ = some (some (.inl x4), σ) := by
  refine (Rx_N (k := 1) (pc' := 131) (ls' := [.inr (.inl (7, r0)), .inl x1, .inl x2, .inl x3, .inl x4, .inl x5, .inl x6, u7]) (st' := [.inl x4]) (σ' := σ) rfl).trans ?_
  exact Rx_ret rfl rfl
theorem b_X2_leastPlaced_0 (r0 : Nat) (x1 : Int) (u2 : AV) (σ : St) : Rx k_X2_leastPlaced 0 [.inr (.inl (7, r0)), .inl x1, u2] [] σ = Rx k_X2_leastPlaced 2 [.inr (.inl (7, r0)), .inl x1, .inl 0] [] σ := by
  refine (Rx_N (k := 2) (pc' := 2) (ls' := [.inr (.inl (7, r0)), .inl x1, .inl 0]) (st' := []) (σ' := σ) rfl).trans ?_
  rfl
theorem b_X2_leastPlaced_2 (r0 : Nat) (x1 : Int) (x2 : Int) (σ : St) : Rx k_X2_leastPlaced 2 [.inr (.inl (7, r0)), .inl x1, .inl x2] [] σ = if x2 < 20 then Rx k_X2_leastPlaced 8 [.inr (.inl (7, r0)), .inl x1, .inl x2] [] σ else Rx k_X2_leastPlaced 34 [.inr (.inl (7, r0)), .inl x1, .inl x2] [] σ := by
  exact Rx_ge0 (k := 3) rfl
theorem b_X2_leastPlaced_8 (r0 : Nat) (x1 : Int) (x2 : Int) (σ : St) (h0 : 0 ≤ x2) (h1 : x2 < 20) : Rx k_X2_leastPlaced 8 [.inr (.inl (7, r0)), .inl x1, .inl x2] [] σ = (Rx k_X4_has 0 [.inl x1, .inl (σ 15 r0 x2.toNat)] [] σ).bind fun q => Rx k_X2_leastPlaced 18 [.inr (.inl (7, r0)), .inl x1, .inl x2] (q.1.toList ++ []) q.2 := by
  refine (Rx_N (k := 4) (pc' := 14) (ls' := [.inr (.inl (7, r0)), .inl x1, .inl x2]) (st' := [.inl x2, .inr (.inl (15, r0)), .inl x1]) (σ' := σ) rfl).trans ?_
  refine (Rx_ild 20 rfl rfl rfl h0 h1).trans ?_
  exact Rx_call (n := 3) (y' := k_X4_has) (as := [.inl x1, .inl (σ 15 r0 x2.toNat)]) (rest := []) rfl rfl rfl
theorem b_X2_leastPlaced_18 (r0 : Nat) (x1 : Int) (x2 : Int) (s0 : Int) (σ : St) : Rx k_X2_leastPlaced 18 [.inr (.inl (7, r0)), .inl x1, .inl x2] [.inl s0] σ = if s0 = 0 then Rx k_X2_leastPlaced 28 [.inr (.inl (7, r0)), .inl x1, .inl x2] [] σ else Rx k_X2_leastPlaced 21 [.inr (.inl (7, r0)), .inl x1, .inl x2] [] σ := by
  exact Rx_eq0 (k := 1) rfl
theorem b_X2_leastPlaced_21 (r0 : Nat) (x1 : Int) (x2 : Int) (σ : St) (h0 : 0 ≤ x2) (h1 : x2 < 20) : Rx k_X2_leastPlaced 21 [.inr (.inl (7, r0)), .inl x1, .inl x2] [] σ = some (some (.inl (σ 15 r0 x2.toNat)), σ) := by
  refine (Rx_N (k := 3) (pc' := 26) (ls' := [.inr (.inl (7, r0)), .inl x1, .inl x2]) (st' := [.inl x2, .inr (.inl (15, r0))]) (σ' := σ) rfl).trans ?_
  refine (Rx_ild 20 rfl rfl rfl h0 h1).trans ?_
  exact Rx_ret rfl rfl
theorem r_X2_leastPlaced_28 (r0 : Nat) (x1 : Int) (x2 : Int) (σ : St) : Rx k_X2_leastPlaced 28 [.inr (.inl (7, r0)), .inl x1, .inl x2] [] σ = Rx k_X2_leastPlaced 2 [.inr (.inl (7, r0)), .inl x1, .inl (wr (x2 + 1))] [] σ := by
  refine (Rx_N (k := 2) (pc' := 2) (ls' := [.inr (.inl (7, r0)), .inl x1, .inl (wr (x2 + 1))]) (st' := []) (σ' := σ) rfl).trans ?_
  rfl
theorem b_X2_leastPlaced_28 (r0 : Nat) (x1 : Int) (x2 : Int) (σ : St) (g0a : -2147483648 ≤ (x2 + 1)) (g0b : (x2 + 1) < 2147483648) : Rx k_X2_leastPlaced 28 [.inr (.inl (7, r0)), .inl x1, .inl x2] [] σ = Rx k_X2_leastPlaced 2 [.inr (.inl (7, r0)), .inl x1, .inl (x2 + 1)] [] σ := by
  have e0 := wr_id (x := (x2 + 1)) g0a g0b
  have raw := r_X2_leastPlaced_28 r0 x1 x2 σ 
  simp only [e0] at raw
  exact raw
theorem b_X2_leastPlaced_34 (r0 : Nat) (x1 : Int) (x2 : Int) (σ : St) : Rx k_X2_leastPlaced 34 [.inr (.inl (7, r0)), .inl x1, .inl x2] [] σ = some (some (.inl (-9)), σ) := by
  refine (Rx_N (k := 1) (pc' := 36) (ls' := [.inr (.inl (7, r0)), .inl x1, .inl x2]) (st' := [.inl (-9)]) (σ' := σ) rfl).trans ?_
  exact Rx_ret rfl rfl
theorem b_X2_leastPlacedWithoutSpare_0 (r0 : Nat) (u1 : AV) (u2 : AV) (σ : St) : Rx k_X2_leastPlacedWithoutSpare 0 [.inr (.inl (7, r0)), u1, u2] [] σ = Rx k_X2_leastPlacedWithoutSpare 2 [.inr (.inl (7, r0)), .inl 0, u2] [] σ := by
  refine (Rx_N (k := 2) (pc' := 2) (ls' := [.inr (.inl (7, r0)), .inl 0, u2]) (st' := []) (σ' := σ) rfl).trans ?_
  rfl
theorem b_X2_leastPlacedWithoutSpare_2 (r0 : Nat) (x1 : Int) (u2 : AV) (σ : St) : Rx k_X2_leastPlacedWithoutSpare 2 [.inr (.inl (7, r0)), .inl x1, u2] [] σ = if x1 < 20 then Rx k_X2_leastPlacedWithoutSpare 8 [.inr (.inl (7, r0)), .inl x1, u2] [] σ else Rx k_X2_leastPlacedWithoutSpare 44 [.inr (.inl (7, r0)), .inl x1, u2] [] σ := by
  exact Rx_ge0 (k := 3) rfl
theorem b_X2_leastPlacedWithoutSpare_8 (r0 : Nat) (x1 : Int) (u2 : AV) (σ : St) (h0 : 0 ≤ x1) (h1 : x1 < 20) : Rx k_X2_leastPlacedWithoutSpare 8 [.inr (.inl (7, r0)), .inl x1, u2] [] σ = (Rx k_X2_isUp 0 [.inr (.inl (7, r0)), .inl (σ 15 r0 x1.toNat)] [] σ).bind fun q => Rx k_X2_leastPlacedWithoutSpare 20 [.inr (.inl (7, r0)), .inl x1, .inl (σ 15 r0 x1.toNat)] (q.1.toList ++ []) q.2 := by
  refine (Rx_N (k := 3) (pc' := 13) (ls' := [.inr (.inl (7, r0)), .inl x1, u2]) (st' := [.inl x1, .inr (.inl (15, r0))]) (σ' := σ) rfl).trans ?_
  refine (Rx_ild 20 rfl rfl rfl h0 h1).trans ?_
  refine (Rx_N (k := 3) (pc' := 17) (ls' := [.inr (.inl (7, r0)), .inl x1, .inl (σ 15 r0 x1.toNat)]) (st' := [.inl (σ 15 r0 x1.toNat), .inr (.inl (7, r0))]) (σ' := σ) rfl).trans ?_
  exact Rx_call (n := 3) (y' := k_X2_isUp) (as := [.inr (.inl (7, r0)), .inl (σ 15 r0 x1.toNat)]) (rest := []) rfl rfl rfl
theorem b_X2_leastPlacedWithoutSpare_20 (r0 : Nat) (x1 : Int) (x2 : Int) (s0 : Int) (σ : St) : Rx k_X2_leastPlacedWithoutSpare 20 [.inr (.inl (7, r0)), .inl x1, .inl x2] [.inl s0] σ = if s0 = 0 then Rx k_X2_leastPlacedWithoutSpare 38 [.inr (.inl (7, r0)), .inl x1, .inl x2] [] σ else Rx k_X2_leastPlacedWithoutSpare 23 [.inr (.inl (7, r0)), .inl x1, .inl x2] [] σ := by
  exact Rx_eq0 (k := 1) rfl
theorem b_X2_leastPlacedWithoutSpare_23 (r0 : Nat) (x1 : Int) (x2 : Int) (σ : St) (h0 : 0 ≤ x2) (h1 : x2 < 10) : Rx k_X2_leastPlacedWithoutSpare 23 [.inr (.inl (7, r0)), .inl x1, .inl x2] [] σ = (Rx k_X2_spareOf 0 [.inr (.inl (7, r0)), .inl (σ 14 r0 x2.toNat)] [] σ).bind fun q => Rx k_X2_leastPlacedWithoutSpare 33 [.inr (.inl (7, r0)), .inl x1, .inl x2] (q.1.toList ++ []) q.2 := by
  refine (Rx_N (k := 4) (pc' := 29) (ls' := [.inr (.inl (7, r0)), .inl x1, .inl x2]) (st' := [.inl x2, .inr (.inl (14, r0)), .inr (.inl (7, r0))]) (σ' := σ) rfl).trans ?_
  refine (Rx_ild 10 rfl rfl rfl h0 h1).trans ?_
  exact Rx_call (n := 3) (y' := k_X2_spareOf) (as := [.inr (.inl (7, r0)), .inl (σ 14 r0 x2.toNat)]) (rest := []) rfl rfl rfl
theorem b_X2_leastPlacedWithoutSpare_33 (r0 : Nat) (x1 : Int) (x2 : Int) (s0 : Int) (σ : St) : Rx k_X2_leastPlacedWithoutSpare 33 [.inr (.inl (7, r0)), .inl x1, .inl x2] [.inl s0] σ = if 0 < s0 then Rx k_X2_leastPlacedWithoutSpare 38 [.inr (.inl (7, r0)), .inl x1, .inl x2] [] σ else Rx k_X2_leastPlacedWithoutSpare 36 [.inr (.inl (7, r0)), .inl x1, .inl x2] [] σ := by
  exact Rx_gt0 (k := 1) rfl
theorem b_X2_leastPlacedWithoutSpare_36 (r0 : Nat) (x1 : Int) (x2 : Int) (σ : St) : Rx k_X2_leastPlacedWithoutSpare 36 [.inr (.inl (7, r0)), .inl x1, .inl x2] [] σ = some (some (.inl x2), σ) := by
  refine (Rx_N (k := 1) (pc' := 37) (ls' := [.inr (.inl (7, r0)), .inl x1, .inl x2]) (st' := [.inl x2]) (σ' := σ) rfl).trans ?_
  exact Rx_ret rfl rfl
theorem r_X2_leastPlacedWithoutSpare_38 (r0 : Nat) (x1 : Int) (x2 : Int) (σ : St) : Rx k_X2_leastPlacedWithoutSpare 38 [.inr (.inl (7, r0)), .inl x1, .inl x2] [] σ = Rx k_X2_leastPlacedWithoutSpare 2 [.inr (.inl (7, r0)), .inl (wr (x1 + 1)), .inl x2] [] σ := by
  refine (Rx_N (k := 2) (pc' := 2) (ls' := [.inr (.inl (7, r0)), .inl (wr (x1 + 1)), .inl x2]) (st' := []) (σ' := σ) rfl).trans ?_
  rfl
theorem b_X2_leastPlacedWithoutSpare_38 (r0 : Nat) (x1 : Int) (x2 : Int) (σ : St) (g0a : -2147483648 ≤ (x1 + 1)) (g0b : (x1 + 1) < 2147483648) : Rx k_X2_leastPlacedWithoutSpare 38 [.inr (.inl (7, r0)), .inl x1, .inl x2] [] σ = Rx k_X2_leastPlacedWithoutSpare 2 [.inr (.inl (7, r0)), .inl (x1 + 1), .inl x2] [] σ := by
  have e0 := wr_id (x := (x1 + 1)) g0a g0b
  have raw := r_X2_leastPlacedWithoutSpare_38 r0 x1 x2 σ 
  simp only [e0] at raw
  exact raw
theorem b_X2_leastPlacedWithoutSpare_44 (r0 : Nat) (x1 : Int) (u2 : AV) (σ : St) : Rx k_X2_leastPlacedWithoutSpare 44 [.inr (.inl (7, r0)), .inl x1, u2] [] σ = some (some (.inl (-9)), σ) := by
  refine (Rx_N (k := 1) (pc' := 46) (ls' := [.inr (.inl (7, r0)), .inl x1, u2]) (st' := [.inl (-9)]) (σ' := σ) rfl).trans ?_
  exact Rx_ret rfl rfl
theorem b_X2_worstPush_0 (r0 : Nat) (u1 : AV) (u2 : AV) (u3 : AV) (u4 : AV) (u5 : AV) (σ : St) : Rx k_X2_worstPush 0 [.inr (.inl (7, r0)), u1, u2, u3, u4, u5] [] σ = Rx k_X2_worstPush 7 [.inr (.inl (7, r0)), .inl (-9), .inl 0, .inl 0, u4, u5] [] σ := by
  refine (Rx_N (k := 6) (pc' := 7) (ls' := [.inr (.inl (7, r0)), .inl (-9), .inl 0, .inl 0, u4, u5]) (st' := []) (σ' := σ) rfl).trans ?_
  rfl
theorem b_X2_worstPush_7 (r0 : Nat) (x1 : Int) (x2 : Int) (x3 : Int) (u4 : AV) (u5 : AV) (σ : St) : Rx k_X2_worstPush 7 [.inr (.inl (7, r0)), .inl x1, .inl x2, .inl x3, u4, u5] [] σ = if x3 < 20 then Rx k_X2_worstPush 13 [.inr (.inl (7, r0)), .inl x1, .inl x2, .inl x3, u4, u5] [] σ else Rx k_X2_worstPush 64 [.inr (.inl (7, r0)), .inl x1, .inl x2, .inl x3, u4, u5] [] σ := by
  exact Rx_ge0 (k := 3) rfl
theorem b_X2_worstPush_13 (r0 : Nat) (x1 : Int) (x2 : Int) (x3 : Int) (u4 : AV) (u5 : AV) (σ : St) (h0 : 0 ≤ x3) (h1 : x3 < 20) : Rx k_X2_worstPush 13 [.inr (.inl (7, r0)), .inl x1, .inl x2, .inl x3, u4, u5] [] σ = (Rx k_X2_isUp 0 [.inr (.inl (7, r0)), .inl (σ 15 r0 x3.toNat)] [] σ).bind fun q => Rx k_X2_worstPush 27 [.inr (.inl (7, r0)), .inl x1, .inl x2, .inl x3, .inl (σ 15 r0 x3.toNat), u5] (q.1.toList ++ []) q.2 := by
  refine (Rx_N (k := 3) (pc' := 18) (ls' := [.inr (.inl (7, r0)), .inl x1, .inl x2, .inl x3, u4, u5]) (st' := [.inl x3, .inr (.inl (15, r0))]) (σ' := σ) rfl).trans ?_
  refine (Rx_ild 20 rfl rfl rfl h0 h1).trans ?_
  refine (Rx_N (k := 3) (pc' := 24) (ls' := [.inr (.inl (7, r0)), .inl x1, .inl x2, .inl x3, .inl (σ 15 r0 x3.toNat), u5]) (st' := [.inl (σ 15 r0 x3.toNat), .inr (.inl (7, r0))]) (σ' := σ) rfl).trans ?_
  exact Rx_call (n := 3) (y' := k_X2_isUp) (as := [.inr (.inl (7, r0)), .inl (σ 15 r0 x3.toNat)]) (rest := []) rfl rfl rfl
theorem b_X2_worstPush_27 (r0 : Nat) (x1 : Int) (x2 : Int) (x3 : Int) (x4 : Int) (u5 : AV) (s0 : Int) (σ : St) : Rx k_X2_worstPush 27 [.inr (.inl (7, r0)), .inl x1, .inl x2, .inl x3, .inl x4, u5] [.inl s0] σ = if s0 = 0 then Rx k_X2_worstPush 43 [.inr (.inl (7, r0)), .inl x1, .inl x2, .inl x3, .inl x4, u5] [] σ else Rx k_X2_worstPush 30 [.inr (.inl (7, r0)), .inl x1, .inl x2, .inl x3, .inl x4, u5] [] σ := by
  exact Rx_eq0 (k := 1) rfl
theorem b_X2_worstPush_30 (r0 : Nat) (x1 : Int) (x2 : Int) (x3 : Int) (x4 : Int) (u5 : AV) (σ : St) : Rx k_X2_worstPush 30 [.inr (.inl (7, r0)), .inl x1, .inl x2, .inl x3, .inl x4, u5] [] σ = (Rx k_X2_felledBy 0 [.inr (.inl (7, r0)), .inl x4, .inl 0, uns, uns, uns, uns, uns] [] σ).bind fun q => Rx k_X2_worstPush 37 [.inr (.inl (7, r0)), .inl x1, .inl x2, .inl x3, .inl x4, u5] (q.1.toList ++ []) q.2 := by
  refine (Rx_N (k := 3) (pc' := 34) (ls' := [.inr (.inl (7, r0)), .inl x1, .inl x2, .inl x3, .inl x4, u5]) (st' := [.inl 0, .inl x4, .inr (.inl (7, r0))]) (σ' := σ) rfl).trans ?_
  exact Rx_call (n := 3) (y' := k_X2_felledBy) (as := [.inr (.inl (7, r0)), .inl x4, .inl 0]) (rest := []) rfl rfl rfl
theorem b_X2_worstPush_37 (r0 : Nat) (x1 : Int) (x2 : Int) (x3 : Int) (x4 : Int) (u5 : AV) (s0 : Int) (σ : St) : Rx k_X2_worstPush 37 [.inr (.inl (7, r0)), .inl x1, .inl x2, .inl x3, .inl x4, u5] [.inl s0] σ = (Rx k_J6_bitCount_0f7a4 0 [.inl s0] [] σ).bind fun q => Rx k_X2_worstPush 40 [.inr (.inl (7, r0)), .inl x1, .inl x2, .inl x3, .inl x4, u5] (q.1.toList ++ []) q.2 := by
  exact Rx_call (n := 3) (y' := k_J6_bitCount_0f7a4) (as := [.inl s0]) (rest := []) rfl rfl rfl
theorem b_X2_worstPush_40 (r0 : Nat) (x1 : Int) (x2 : Int) (x3 : Int) (x4 : Int) (u5 : AV) (s0 : Int) (σ : St) : Rx k_X2_worstPush 40 [.inr (.inl (7, r0)), .inl x1, .inl x2, .inl x3, .inl x4, u5] [.inl s0] σ = if x2 < s0 then Rx k_X2_worstPush 52 [.inr (.inl (7, r0)), .inl x1, .inl x2, .inl x3, .inl x4, .inl s0] [] σ else Rx k_X2_worstPush 58 [.inr (.inl (7, r0)), .inl x1, .inl x2, .inl x3, .inl x4, .inl s0] [] σ := by
  exact Rx_le0 (k := 5) rfl
theorem b_X2_worstPush_43 (r0 : Nat) (x1 : Int) (x2 : Int) (x3 : Int) (x4 : Int) (u5 : AV) (σ : St) : Rx k_X2_worstPush 43 [.inr (.inl (7, r0)), .inl x1, .inl x2, .inl x3, .inl x4, u5] [] σ = if x2 < 0 then Rx k_X2_worstPush 52 [.inr (.inl (7, r0)), .inl x1, .inl x2, .inl x3, .inl x4, .inl 0] [] σ else Rx k_X2_worstPush 58 [.inr (.inl (7, r0)), .inl x1, .inl x2, .inl x3, .inl x4, .inl 0] [] σ := by
  exact Rx_le0 (k := 5) rfl
theorem r_X2_worstPush_52 (r0 : Nat) (x1 : Int) (x2 : Int) (x3 : Int) (x4 : Int) (x5 : Int) (σ : St) : Rx k_X2_worstPush 52 [.inr (.inl (7, r0)), .inl x1, .inl x2, .inl x3, .inl x4, .inl x5] [] σ = Rx k_X2_worstPush 7 [.inr (.inl (7, r0)), .inl x4, .inl x5, .inl (wr (x3 + 1)), .inl x4, .inl x5] [] σ := by
  refine (Rx_N (k := 6) (pc' := 7) (ls' := [.inr (.inl (7, r0)), .inl x4, .inl x5, .inl (wr (x3 + 1)), .inl x4, .inl x5]) (st' := []) (σ' := σ) rfl).trans ?_
  rfl
theorem b_X2_worstPush_52 (r0 : Nat) (x1 : Int) (x2 : Int) (x3 : Int) (x4 : Int) (x5 : Int) (σ : St) (g0a : -2147483648 ≤ (x3 + 1)) (g0b : (x3 + 1) < 2147483648) : Rx k_X2_worstPush 52 [.inr (.inl (7, r0)), .inl x1, .inl x2, .inl x3, .inl x4, .inl x5] [] σ = Rx k_X2_worstPush 7 [.inr (.inl (7, r0)), .inl x4, .inl x5, .inl (x3 + 1), .inl x4, .inl x5] [] σ := by
  have e0 := wr_id (x := (x3 + 1)) g0a g0b
  have raw := r_X2_worstPush_52 r0 x1 x2 x3 x4 x5 σ 
  simp only [e0] at raw
  exact raw
theorem r_X2_worstPush_58 (r0 : Nat) (x1 : Int) (x2 : Int) (x3 : Int) (x4 : Int) (x5 : Int) (σ : St) : Rx k_X2_worstPush 58 [.inr (.inl (7, r0)), .inl x1, .inl x2, .inl x3, .inl x4, .inl x5] [] σ = Rx k_X2_worstPush 7 [.inr (.inl (7, r0)), .inl x1, .inl x2, .inl (wr (x3 + 1)), .inl x4, .inl x5] [] σ := by
  refine (Rx_N (k := 2) (pc' := 7) (ls' := [.inr (.inl (7, r0)), .inl x1, .inl x2, .inl (wr (x3 + 1)), .inl x4, .inl x5]) (st' := []) (σ' := σ) rfl).trans ?_
  rfl
theorem b_X2_worstPush_58 (r0 : Nat) (x1 : Int) (x2 : Int) (x3 : Int) (x4 : Int) (x5 : Int) (σ : St) (g0a : -2147483648 ≤ (x3 + 1)) (g0b : (x3 + 1) < 2147483648) : Rx k_X2_worstPush 58 [.inr (.inl (7, r0)), .inl x1, .inl x2, .inl x3, .inl x4, .inl x5] [] σ = Rx k_X2_worstPush 7 [.inr (.inl (7, r0)), .inl x1, .inl x2, .inl (x3 + 1), .inl x4, .inl x5] [] σ := by
  have e0 := wr_id (x := (x3 + 1)) g0a g0b
  have raw := r_X2_worstPush_58 r0 x1 x2 x3 x4 x5 σ 
  simp only [e0] at raw
  exact raw
theorem b_X2_worstPush_64 (r0 : Nat) (x1 : Int) (x2 : Int) (x3 : Int) (u4 : AV) (u5 : AV) (σ : St) : Rx k_X2_worstPush 64 [.inr (.inl (7, r0)), .inl x1, .inl x2, .inl x3, u4, u5] [] σ = some (some (.inl x1), σ) := by
  refine (Rx_N (k := 1) (pc' := 65) (ls' := [.inr (.inl (7, r0)), .inl x1, .inl x2, .inl x3, u4, u5]) (st' := [.inl x1]) (σ' := σ) rfl).trans ?_
  exact Rx_ret rfl rfl
theorem b_X2_gapBehind_0 (r0 : Nat) (x1 : Int) (u2 : AV) (u3 : AV) (u4 : AV) (u5 : AV) (σ : St) : Rx k_X2_gapBehind 0 [.inr (.inl (7, r0)), .inl x1, u2, u3, u4, u5] [] σ = (Rx k_X2_felledBy 0 [.inr (.inl (7, r0)), .inl x1, .inl 0, uns, uns, uns, uns, uns] [] σ).bind fun q => Rx k_X2_gapBehind 9 [.inr (.inl (7, r0)), .inl x1, .inl (-9), u3, u4, u5] (q.1.toList ++ []) q.2 := by
  refine (Rx_N (k := 5) (pc' := 6) (ls' := [.inr (.inl (7, r0)), .inl x1, .inl (-9), u3, u4, u5]) (st' := [.inl 0, .inl x1, .inr (.inl (7, r0))]) (σ' := σ) rfl).trans ?_
  exact Rx_call (n := 3) (y' := k_X2_felledBy) (as := [.inr (.inl (7, r0)), .inl x1, .inl 0]) (rest := []) rfl rfl rfl
theorem b_X2_gapBehind_9 (r0 : Nat) (x1 : Int) (x2 : Int) (u3 : AV) (u4 : AV) (u5 : AV) (s0 : Int) (σ : St) : Rx k_X2_gapBehind 9 [.inr (.inl (7, r0)), .inl x1, .inl x2, u3, u4, u5] [.inl s0] σ = (Rx k_J6_bitCount_0f7a4 0 [.inl s0] [] σ).bind fun q => Rx k_X2_gapBehind 12 [.inr (.inl (7, r0)), .inl x1, .inl x2, u3, u4, u5] (q.1.toList ++ []) q.2 := by
  exact Rx_call (n := 3) (y' := k_J6_bitCount_0f7a4) (as := [.inl s0]) (rest := []) rfl rfl rfl
theorem r_X2_gapBehind_12 (r0 : Nat) (x1 : Int) (x2 : Int) (u3 : AV) (u4 : AV) (u5 : AV) (s0 : Int) (σ : St) : Rx k_X2_gapBehind 12 [.inr (.inl (7, r0)), .inl x1, .inl x2, u3, u4, u5] [.inl s0] σ = Rx k_X2_gapBehind 18 [.inr (.inl (7, r0)), .inl x1, .inl x2, .inl (wr (s0 - 1)), .inl 0, u5] [] σ := by
  refine (Rx_N (k := 5) (pc' := 18) (ls' := [.inr (.inl (7, r0)), .inl x1, .inl x2, .inl (wr (s0 - 1)), .inl 0, u5]) (st' := []) (σ' := σ) rfl).trans ?_
  rfl
theorem b_X2_gapBehind_12 (r0 : Nat) (x1 : Int) (x2 : Int) (u3 : AV) (u4 : AV) (u5 : AV) (s0 : Int) (σ : St) (g0a : -2147483648 ≤ (s0 - 1)) (g0b : (s0 - 1) < 2147483648) : Rx k_X2_gapBehind 12 [.inr (.inl (7, r0)), .inl x1, .inl x2, u3, u4, u5] [.inl s0] σ = Rx k_X2_gapBehind 18 [.inr (.inl (7, r0)), .inl x1, .inl x2, .inl (s0 - 1), .inl 0, u5] [] σ := by
  have e0 := wr_id (x := (s0 - 1)) g0a g0b
  have raw := r_X2_gapBehind_12 r0 x1 x2 u3 u4 u5 s0 σ 
  simp only [e0] at raw
  exact raw
theorem b_X2_gapBehind_18 (r0 : Nat) (x1 : Int) (x2 : Int) (x3 : Int) (x4 : Int) (u5 : AV) (σ : St) : Rx k_X2_gapBehind 18 [.inr (.inl (7, r0)), .inl x1, .inl x2, .inl x3, .inl x4, u5] [] σ = if x4 < (σ 7 r0 1) then Rx k_X2_gapBehind 27 [.inr (.inl (7, r0)), .inl x1, .inl x2, .inl x3, .inl x4, u5] [] σ else Rx k_X2_gapBehind 81 [.inr (.inl (7, r0)), .inl x1, .inl x2, .inl x3, .inl x4, u5] [] σ := by
  exact Rx_ge0 (k := 4) rfl
theorem b_X2_gapBehind_27 (r0 : Nat) (x1 : Int) (x2 : Int) (x3 : Int) (x4 : Int) (u5 : AV) (σ : St) : Rx k_X2_gapBehind 27 [.inr (.inl (7, r0)), .inl x1, .inl x2, .inl x3, .inl x4, u5] [] σ = if x4 < 10 then Rx k_X2_gapBehind 34 [.inr (.inl (7, r0)), .inl x1, .inl x2, .inl x3, .inl x4, u5] [] σ else Rx k_X2_gapBehind 81 [.inr (.inl (7, r0)), .inl x1, .inl x2, .inl x3, .inl x4, u5] [] σ := by
  exact Rx_ge0 (k := 3) rfl
theorem b_X2_gapBehind_34 (r0 : Nat) (x1 : Int) (x2 : Int) (x3 : Int) (x4 : Int) (u5 : AV) (σ : St) : Rx k_X2_gapBehind 34 [.inr (.inl (7, r0)), .inl x1, .inl x2, .inl x3, .inl x4, u5] [] σ = if x4 = x1 then Rx k_X2_gapBehind 75 [.inr (.inl (7, r0)), .inl x1, .inl x2, .inl x3, .inl x4, u5] [] σ else Rx k_X2_gapBehind 40 [.inr (.inl (7, r0)), .inl x1, .inl x2, .inl x3, .inl x4, u5] [] σ := by
  exact Rx_eq0 (k := 3) rfl
theorem b_X2_gapBehind_40 (r0 : Nat) (x1 : Int) (x2 : Int) (x3 : Int) (x4 : Int) (u5 : AV) (σ : St) : Rx k_X2_gapBehind 40 [.inr (.inl (7, r0)), .inl x1, .inl x2, .inl x3, .inl x4, u5] [] σ = (Rx k_X2_isUp 0 [.inr (.inl (7, r0)), .inl x4] [] σ).bind fun q => Rx k_X2_gapBehind 46 [.inr (.inl (7, r0)), .inl x1, .inl x2, .inl x3, .inl x4, u5] (q.1.toList ++ []) q.2 := by
  refine (Rx_N (k := 2) (pc' := 43) (ls' := [.inr (.inl (7, r0)), .inl x1, .inl x2, .inl x3, .inl x4, u5]) (st' := [.inl x4, .inr (.inl (7, r0))]) (σ' := σ) rfl).trans ?_
  exact Rx_call (n := 3) (y' := k_X2_isUp) (as := [.inr (.inl (7, r0)), .inl x4]) (rest := []) rfl rfl rfl
theorem b_X2_gapBehind_46 (r0 : Nat) (x1 : Int) (x2 : Int) (x3 : Int) (x4 : Int) (u5 : AV) (s0 : Int) (σ : St) : Rx k_X2_gapBehind 46 [.inr (.inl (7, r0)), .inl x1, .inl x2, .inl x3, .inl x4, u5] [.inl s0] σ = if s0 = 0 then Rx k_X2_gapBehind 75 [.inr (.inl (7, r0)), .inl x1, .inl x2, .inl x3, .inl x4, u5] [] σ else Rx k_X2_gapBehind 49 [.inr (.inl (7, r0)), .inl x1, .inl x2, .inl x3, .inl x4, u5] [] σ := by
  exact Rx_eq0 (k := 1) rfl
theorem b_X2_gapBehind_49 (r0 : Nat) (x1 : Int) (x2 : Int) (x3 : Int) (x4 : Int) (u5 : AV) (σ : St) : Rx k_X2_gapBehind 49 [.inr (.inl (7, r0)), .inl x1, .inl x2, .inl x3, .inl x4, u5] [] σ = (Rx k_X2_felledBy 0 [.inr (.inl (7, r0)), .inl x1, .inl (bShl 1 x4), uns, uns, uns, uns, uns] [] σ).bind fun q => Rx k_X2_gapBehind 58 [.inr (.inl (7, r0)), .inl x1, .inl x2, .inl x3, .inl x4, u5] (q.1.toList ++ []) q.2 := by
  refine (Rx_N (k := 5) (pc' := 55) (ls' := [.inr (.inl (7, r0)), .inl x1, .inl x2, .inl x3, .inl x4, u5]) (st' := [.inl (bShl 1 x4), .inl x1, .inr (.inl (7, r0))]) (σ' := σ) rfl).trans ?_
  exact Rx_call (n := 3) (y' := k_X2_felledBy) (as := [.inr (.inl (7, r0)), .inl x1, .inl (bShl 1 x4)]) (rest := []) rfl rfl rfl
theorem b_X2_gapBehind_58 (r0 : Nat) (x1 : Int) (x2 : Int) (x3 : Int) (x4 : Int) (u5 : AV) (s0 : Int) (σ : St) : Rx k_X2_gapBehind 58 [.inr (.inl (7, r0)), .inl x1, .inl x2, .inl x3, .inl x4, u5] [.inl s0] σ = (Rx k_J6_bitCount_0f7a4 0 [.inl s0] [] σ).bind fun q => Rx k_X2_gapBehind 61 [.inr (.inl (7, r0)), .inl x1, .inl x2, .inl x3, .inl x4, u5] (q.1.toList ++ []) q.2 := by
  exact Rx_call (n := 3) (y' := k_J6_bitCount_0f7a4) (as := [.inl s0]) (rest := []) rfl rfl rfl
theorem b_X2_gapBehind_61 (r0 : Nat) (x1 : Int) (x2 : Int) (x3 : Int) (x4 : Int) (u5 : AV) (s0 : Int) (σ : St) : Rx k_X2_gapBehind 61 [.inr (.inl (7, r0)), .inl x1, .inl x2, .inl x3, .inl x4, u5] [.inl s0] σ = if s0 < x3 then Rx k_X2_gapBehind 69 [.inr (.inl (7, r0)), .inl x1, .inl x2, .inl x3, .inl x4, .inl s0] [] σ else Rx k_X2_gapBehind 75 [.inr (.inl (7, r0)), .inl x1, .inl x2, .inl x3, .inl x4, .inl s0] [] σ := by
  exact Rx_ge0 (k := 4) rfl
theorem r_X2_gapBehind_69 (r0 : Nat) (x1 : Int) (x2 : Int) (x3 : Int) (x4 : Int) (x5 : Int) (σ : St) : Rx k_X2_gapBehind 69 [.inr (.inl (7, r0)), .inl x1, .inl x2, .inl x3, .inl x4, .inl x5] [] σ = Rx k_X2_gapBehind 18 [.inr (.inl (7, r0)), .inl x1, .inl x4, .inl x5, .inl (wr (x4 + 1)), .inl x5] [] σ := by
  refine (Rx_N (k := 6) (pc' := 18) (ls' := [.inr (.inl (7, r0)), .inl x1, .inl x4, .inl x5, .inl (wr (x4 + 1)), .inl x5]) (st' := []) (σ' := σ) rfl).trans ?_
  rfl
theorem b_X2_gapBehind_69 (r0 : Nat) (x1 : Int) (x2 : Int) (x3 : Int) (x4 : Int) (x5 : Int) (σ : St) (g0a : -2147483648 ≤ (x4 + 1)) (g0b : (x4 + 1) < 2147483648) : Rx k_X2_gapBehind 69 [.inr (.inl (7, r0)), .inl x1, .inl x2, .inl x3, .inl x4, .inl x5] [] σ = Rx k_X2_gapBehind 18 [.inr (.inl (7, r0)), .inl x1, .inl x4, .inl x5, .inl (x4 + 1), .inl x5] [] σ := by
  have e0 := wr_id (x := (x4 + 1)) g0a g0b
  have raw := r_X2_gapBehind_69 r0 x1 x2 x3 x4 x5 σ 
  simp only [e0] at raw
  exact raw
theorem r_X2_gapBehind_75 (r0 : Nat) (x1 : Int) (x2 : Int) (x3 : Int) (x4 : Int) (u5 : AV) (σ : St) : Rx k_X2_gapBehind 75 [.inr (.inl (7, r0)), .inl x1, .inl x2, .inl x3, .inl x4, u5] [] σ = Rx k_X2_gapBehind 18 [.inr (.inl (7, r0)), .inl x1, .inl x2, .inl x3, .inl (wr (x4 + 1)), u5] [] σ := by
  refine (Rx_N (k := 2) (pc' := 18) (ls' := [.inr (.inl (7, r0)), .inl x1, .inl x2, .inl x3, .inl (wr (x4 + 1)), u5]) (st' := []) (σ' := σ) rfl).trans ?_
  rfl
theorem b_X2_gapBehind_75 (r0 : Nat) (x1 : Int) (x2 : Int) (x3 : Int) (x4 : Int) (u5 : AV) (σ : St) (g0a : -2147483648 ≤ (x4 + 1)) (g0b : (x4 + 1) < 2147483648) : Rx k_X2_gapBehind 75 [.inr (.inl (7, r0)), .inl x1, .inl x2, .inl x3, .inl x4, u5] [] σ = Rx k_X2_gapBehind 18 [.inr (.inl (7, r0)), .inl x1, .inl x2, .inl x3, .inl (x4 + 1), u5] [] σ := by
  have e0 := wr_id (x := (x4 + 1)) g0a g0b
  have raw := r_X2_gapBehind_75 r0 x1 x2 x3 x4 u5 σ 
  simp only [e0] at raw
  exact raw
theorem b_X2_gapBehind_81 (r0 : Nat) (x1 : Int) (x2 : Int) (x3 : Int) (x4 : Int) (u5 : AV) (σ : St) : Rx k_X2_gapBehind 81 [.inr (.inl (7, r0)), .inl x1, .inl x2, .inl x3, .inl x4, u5] [] σ = some (some (.inl x2), σ) := by
  refine (Rx_N (k := 1) (pc' := 82) (ls' := [.inr (.inl (7, r0)), .inl x1, .inl x2, .inl x3, .inl x4, u5]) (st' := [.inl x2]) (σ' := σ) rfl).trans ?_
  exact Rx_ret rfl rfl
theorem b_X2_besideFrom_0 (r0 : Nat) (x1 : Int) (u2 : AV) (u3 : AV) (σ : St) : Rx k_X2_besideFrom 0 [.inr (.inl (7, r0)), .inl x1, u2, u3] [] σ = Rx k_X2_besideFrom 4 [.inr (.inl (7, r0)), .inl x1, .inl 0, .inl x1] [] σ := by
  refine (Rx_N (k := 4) (pc' := 4) (ls' := [.inr (.inl (7, r0)), .inl x1, .inl 0, .inl x1]) (st' := []) (σ' := σ) rfl).trans ?_
  rfl
theorem b_X2_besideFrom_4 (r0 : Nat) (x1 : Int) (x2 : Int) (x3 : Int) (σ : St) : Rx k_X2_besideFrom 4 [.inr (.inl (7, r0)), .inl x1, .inl x2, .inl x3] [] σ = if x3 < 0 then Rx k_X2_besideFrom 36 [.inr (.inl (7, r0)), .inl x1, .inl x2, .inl x3] [] σ else Rx k_X2_besideFrom 8 [.inr (.inl (7, r0)), .inl x1, .inl x2, .inl x3] [] σ := by
  exact Rx_lt0 (k := 2) rfl
theorem b_X2_besideFrom_8 (r0 : Nat) (x1 : Int) (x2 : Int) (x3 : Int) (σ : St) : Rx k_X2_besideFrom 8 [.inr (.inl (7, r0)), .inl x1, .inl x2, .inl x3] [] σ = if x3 < 20 then Rx k_X2_besideFrom 14 [.inr (.inl (7, r0)), .inl x1, .inl x2, .inl x3] [] σ else Rx k_X2_besideFrom 36 [.inr (.inl (7, r0)), .inl x1, .inl x2, .inl x3] [] σ := by
  exact Rx_ge0 (k := 3) rfl
theorem b_X2_besideFrom_14 (r0 : Nat) (x1 : Int) (x2 : Int) (x3 : Int) (σ : St) (h0 : 0 ≤ x3) (h1 : x3 < 20) : Rx k_X2_besideFrom 14 [.inr (.inl (7, r0)), .inl x1, .inl x2, .inl x3] [] σ = (Rx k_X2_isUp 0 [.inr (.inl (7, r0)), .inl (σ 15 r0 x3.toNat)] [] σ).bind fun q => Rx k_X2_besideFrom 24 [.inr (.inl (7, r0)), .inl x1, .inl x2, .inl x3] (q.1.toList ++ []) q.2 := by
  refine (Rx_N (k := 4) (pc' := 20) (ls' := [.inr (.inl (7, r0)), .inl x1, .inl x2, .inl x3]) (st' := [.inl x3, .inr (.inl (15, r0)), .inr (.inl (7, r0))]) (σ' := σ) rfl).trans ?_
  refine (Rx_ild 20 rfl rfl rfl h0 h1).trans ?_
  exact Rx_call (n := 3) (y' := k_X2_isUp) (as := [.inr (.inl (7, r0)), .inl (σ 15 r0 x3.toNat)]) (rest := []) rfl rfl rfl
theorem b_X2_besideFrom_24 (r0 : Nat) (x1 : Int) (x2 : Int) (x3 : Int) (s0 : Int) (σ : St) : Rx k_X2_besideFrom 24 [.inr (.inl (7, r0)), .inl x1, .inl x2, .inl x3] [.inl s0] σ = if s0 = 0 then Rx k_X2_besideFrom 36 [.inr (.inl (7, r0)), .inl x1, .inl x2, .inl x3] [] σ else Rx k_X2_besideFrom 27 [.inr (.inl (7, r0)), .inl x1, .inl x2, .inl x3] [] σ := by
  exact Rx_eq0 (k := 1) rfl
theorem r_X2_besideFrom_27 (r0 : Nat) (x1 : Int) (x2 : Int) (x3 : Int) (σ : St) : Rx k_X2_besideFrom 27 [.inr (.inl (7, r0)), .inl x1, .inl x2, .inl x3] [] σ = Rx k_X2_besideFrom 4 [.inr (.inl (7, r0)), .inl x1, .inl (wr (x2 + 1)), .inl (wr (x3 + 1))] [] σ := by
  refine (Rx_N (k := 3) (pc' := 4) (ls' := [.inr (.inl (7, r0)), .inl x1, .inl (wr (x2 + 1)), .inl (wr (x3 + 1))]) (st' := []) (σ' := σ) rfl).trans ?_
  rfl
theorem b_X2_besideFrom_27 (r0 : Nat) (x1 : Int) (x2 : Int) (x3 : Int) (σ : St) (g0a : -2147483648 ≤ (x2 + 1)) (g0b : (x2 + 1) < 2147483648) (g1a : -2147483648 ≤ (x3 + 1)) (g1b : (x3 + 1) < 2147483648) : Rx k_X2_besideFrom 27 [.inr (.inl (7, r0)), .inl x1, .inl x2, .inl x3] [] σ = Rx k_X2_besideFrom 4 [.inr (.inl (7, r0)), .inl x1, .inl (x2 + 1), .inl (x3 + 1)] [] σ := by
  have e0 := wr_id (x := (x2 + 1)) g0a g0b
  have e1 := wr_id (x := (x3 + 1)) g1a g1b
  have raw := r_X2_besideFrom_27 r0 x1 x2 x3 σ 
  simp only [e0, e1] at raw
  exact raw
theorem b_X2_besideFrom_36 (r0 : Nat) (x1 : Int) (x2 : Int) (x3 : Int) (σ : St) : Rx k_X2_besideFrom 36 [.inr (.inl (7, r0)), .inl x1, .inl x2, .inl x3] [] σ = some (some (.inl x2), σ) := by
  refine (Rx_N (k := 1) (pc' := 37) (ls' := [.inr (.inl (7, r0)), .inl x1, .inl x2, .inl x3]) (st' := [.inl x2]) (σ' := σ) rfl).trans ?_
  exact Rx_ret rfl rfl
theorem b_X2_longestFrom_0 (r0 : Nat) (u1 : AV) (u2 : AV) (u3 : AV) (u4 : AV) (σ : St) : Rx k_X2_longestFrom 0 [.inr (.inl (7, r0)), u1, u2, u3, u4] [] σ = Rx k_X2_longestFrom 7 [.inr (.inl (7, r0)), .inl (-9), .inl 0, .inl 0, u4] [] σ := by
  refine (Rx_N (k := 6) (pc' := 7) (ls' := [.inr (.inl (7, r0)), .inl (-9), .inl 0, .inl 0, u4]) (st' := []) (σ' := σ) rfl).trans ?_
  rfl
theorem b_X2_longestFrom_7 (r0 : Nat) (x1 : Int) (x2 : Int) (x3 : Int) (u4 : AV) (σ : St) : Rx k_X2_longestFrom 7 [.inr (.inl (7, r0)), .inl x1, .inl x2, .inl x3, u4] [] σ = if x3 < 20 then Rx k_X2_longestFrom 13 [.inr (.inl (7, r0)), .inl x1, .inl x2, .inl x3, u4] [] σ else Rx k_X2_longestFrom 37 [.inr (.inl (7, r0)), .inl x1, .inl x2, .inl x3, u4] [] σ := by
  exact Rx_ge0 (k := 3) rfl
theorem b_X2_longestFrom_13 (r0 : Nat) (x1 : Int) (x2 : Int) (x3 : Int) (u4 : AV) (σ : St) : Rx k_X2_longestFrom 13 [.inr (.inl (7, r0)), .inl x1, .inl x2, .inl x3, u4] [] σ = (Rx k_X2_besideFrom 0 [.inr (.inl (7, r0)), .inl x3, uns, uns] [] σ).bind fun q => Rx k_X2_longestFrom 18 [.inr (.inl (7, r0)), .inl x1, .inl x2, .inl x3, u4] (q.1.toList ++ []) q.2 := by
  refine (Rx_N (k := 2) (pc' := 15) (ls' := [.inr (.inl (7, r0)), .inl x1, .inl x2, .inl x3, u4]) (st' := [.inl x3, .inr (.inl (7, r0))]) (σ' := σ) rfl).trans ?_
  exact Rx_call (n := 3) (y' := k_X2_besideFrom) (as := [.inr (.inl (7, r0)), .inl x3]) (rest := []) rfl rfl rfl
theorem b_X2_longestFrom_18 (r0 : Nat) (x1 : Int) (x2 : Int) (x3 : Int) (u4 : AV) (s0 : Int) (σ : St) : Rx k_X2_longestFrom 18 [.inr (.inl (7, r0)), .inl x1, .inl x2, .inl x3, u4] [.inl s0] σ = if x2 < s0 then Rx k_X2_longestFrom 26 [.inr (.inl (7, r0)), .inl x1, .inl x2, .inl x3, .inl s0] [] σ else Rx k_X2_longestFrom 31 [.inr (.inl (7, r0)), .inl x1, .inl x2, .inl x3, .inl s0] [] σ := by
  exact Rx_le0 (k := 4) rfl
theorem r_X2_longestFrom_26 (r0 : Nat) (x1 : Int) (x2 : Int) (x3 : Int) (x4 : Int) (σ : St) : Rx k_X2_longestFrom 26 [.inr (.inl (7, r0)), .inl x1, .inl x2, .inl x3, .inl x4] [] σ = Rx k_X2_longestFrom 7 [.inr (.inl (7, r0)), .inl x3, .inl x4, .inl (wr (x3 + 1)), .inl x4] [] σ := by
  refine (Rx_N (k := 6) (pc' := 7) (ls' := [.inr (.inl (7, r0)), .inl x3, .inl x4, .inl (wr (x3 + 1)), .inl x4]) (st' := []) (σ' := σ) rfl).trans ?_
  rfl
theorem b_X2_longestFrom_26 (r0 : Nat) (x1 : Int) (x2 : Int) (x3 : Int) (x4 : Int) (σ : St) (g0a : -2147483648 ≤ (x3 + 1)) (g0b : (x3 + 1) < 2147483648) : Rx k_X2_longestFrom 26 [.inr (.inl (7, r0)), .inl x1, .inl x2, .inl x3, .inl x4] [] σ = Rx k_X2_longestFrom 7 [.inr (.inl (7, r0)), .inl x3, .inl x4, .inl (x3 + 1), .inl x4] [] σ := by
  have e0 := wr_id (x := (x3 + 1)) g0a g0b
  have raw := r_X2_longestFrom_26 r0 x1 x2 x3 x4 σ 
  simp only [e0] at raw
  exact raw
theorem r_X2_longestFrom_31 (r0 : Nat) (x1 : Int) (x2 : Int) (x3 : Int) (x4 : Int) (σ : St) : Rx k_X2_longestFrom 31 [.inr (.inl (7, r0)), .inl x1, .inl x2, .inl x3, .inl x4] [] σ = Rx k_X2_longestFrom 7 [.inr (.inl (7, r0)), .inl x1, .inl x2, .inl (wr (x3 + 1)), .inl x4] [] σ := by
  refine (Rx_N (k := 2) (pc' := 7) (ls' := [.inr (.inl (7, r0)), .inl x1, .inl x2, .inl (wr (x3 + 1)), .inl x4]) (st' := []) (σ' := σ) rfl).trans ?_
  rfl
theorem b_X2_longestFrom_31 (r0 : Nat) (x1 : Int) (x2 : Int) (x3 : Int) (x4 : Int) (σ : St) (g0a : -2147483648 ≤ (x3 + 1)) (g0b : (x3 + 1) < 2147483648) : Rx k_X2_longestFrom 31 [.inr (.inl (7, r0)), .inl x1, .inl x2, .inl x3, .inl x4] [] σ = Rx k_X2_longestFrom 7 [.inr (.inl (7, r0)), .inl x1, .inl x2, .inl (x3 + 1), .inl x4] [] σ := by
  have e0 := wr_id (x := (x3 + 1)) g0a g0b
  have raw := r_X2_longestFrom_31 r0 x1 x2 x3 x4 σ 
  simp only [e0] at raw
  exact raw
theorem b_X2_longestFrom_37 (r0 : Nat) (x1 : Int) (x2 : Int) (x3 : Int) (u4 : AV) (σ : St) : Rx k_X2_longestFrom 37 [.inr (.inl (7, r0)), .inl x1, .inl x2, .inl x3, u4] [] σ = some (some (.inl x1), σ) := by
  refine (Rx_N (k := 1) (pc' := 38) (ls' := [.inr (.inl (7, r0)), .inl x1, .inl x2, .inl x3, u4]) (st' := [.inl x1]) (σ' := σ) rfl).trans ?_
  exact Rx_ret rfl rfl
theorem b_X2_mostWithin_0 (r0 : Nat) (x1 : Int) (u2 : AV) (u3 : AV) (u4 : AV) (σ : St) : Rx k_X2_mostWithin 0 [.inr (.inl (7, r0)), .inl x1, u2, u3, u4] [] σ = Rx k_X2_mostWithin 7 [.inr (.inl (7, r0)), .inl x1, .inl 0, .inl 0, .inl 0] [] σ := by
  refine (Rx_N (k := 6) (pc' := 7) (ls' := [.inr (.inl (7, r0)), .inl x1, .inl 0, .inl 0, .inl 0]) (st' := []) (σ' := σ) rfl).trans ?_
  rfl
theorem b_X2_mostWithin_7 (r0 : Nat) (x1 : Int) (x2 : Int) (x3 : Int) (x4 : Int) (σ : St) : Rx k_X2_mostWithin 7 [.inr (.inl (7, r0)), .inl x1, .inl x2, .inl x3, .inl x4] [] σ = if x4 < 1024 then Rx k_X2_mostWithin 15 [.inr (.inl (7, r0)), .inl x1, .inl x2, .inl x3, .inl x4] [] σ else Rx k_X2_mostWithin 70 [.inr (.inl (7, r0)), .inl x1, .inl x2, .inl x3, .inl x4] [] σ := by
  exact Rx_ge0 (k := 3) rfl
theorem b_X2_mostWithin_15 (r0 : Nat) (x1 : Int) (x2 : Int) (x3 : Int) (x4 : Int) (σ : St) : Rx k_X2_mostWithin 15 [.inr (.inl (7, r0)), .inl x1, .inl x2, .inl x3, .inl x4] [] σ = if (σ 7 r0 3) < x4 then Rx k_X2_mostWithin 70 [.inr (.inl (7, r0)), .inl x1, .inl x2, .inl x3, .inl x4] [] σ else Rx k_X2_mostWithin 24 [.inr (.inl (7, r0)), .inl x1, .inl x2, .inl x3, .inl x4] [] σ := by
  exact Rx_gt0 (k := 4) rfl
theorem b_X2_mostWithin_24 (r0 : Nat) (x1 : Int) (x2 : Int) (x3 : Int) (x4 : Int) (σ : St) : Rx k_X2_mostWithin 24 [.inr (.inl (7, r0)), .inl x1, .inl x2, .inl x3, .inl x4] [] σ = if (bAnd x4 (bXor (σ 7 r0 3) (-1))) = 0 then Rx k_X2_mostWithin 36 [.inr (.inl (7, r0)), .inl x1, .inl x2, .inl x3, .inl x4] [] σ else Rx k_X2_mostWithin 64 [.inr (.inl (7, r0)), .inl x1, .inl x2, .inl x3, .inl x4] [] σ := by
  exact Rx_ne0 (k := 7) rfl
theorem b_X2_mostWithin_36 (r0 : Nat) (x1 : Int) (x2 : Int) (x3 : Int) (x4 : Int) (σ : St) : Rx k_X2_mostWithin 36 [.inr (.inl (7, r0)), .inl x1, .inl x2, .inl x3, .inl x4] [] σ = (Rx k_J6_bitCount_0f7a4 0 [.inl x4] [] σ).bind fun q => Rx k_X2_mostWithin 41 [.inr (.inl (7, r0)), .inl x1, .inl x2, .inl x3, .inl x4] (q.1.toList ++ []) q.2 := by
  refine (Rx_N (k := 1) (pc' := 38) (ls' := [.inr (.inl (7, r0)), .inl x1, .inl x2, .inl x3, .inl x4]) (st' := [.inl x4]) (σ' := σ) rfl).trans ?_
  exact Rx_call (n := 3) (y' := k_J6_bitCount_0f7a4) (as := [.inl x4]) (rest := []) rfl rfl rfl
theorem b_X2_mostWithin_41 (r0 : Nat) (x1 : Int) (x2 : Int) (x3 : Int) (x4 : Int) (s0 : Int) (σ : St) : Rx k_X2_mostWithin 41 [.inr (.inl (7, r0)), .inl x1, .inl x2, .inl x3, .inl x4] [.inl s0] σ = if x3 < s0 then Rx k_X2_mostWithin 45 [.inr (.inl (7, r0)), .inl x1, .inl x2, .inl x3, .inl x4] [] σ else Rx k_X2_mostWithin 64 [.inr (.inl (7, r0)), .inl x1, .inl x2, .inl x3, .inl x4] [] σ := by
  exact Rx_le0 (k := 2) rfl
theorem b_X2_mostWithin_45 (r0 : Nat) (x1 : Int) (x2 : Int) (x3 : Int) (x4 : Int) (σ : St) : Rx k_X2_mostWithin 45 [.inr (.inl (7, r0)), .inl x1, .inl x2, .inl x3, .inl x4] [] σ = (Rx k_X2_weightOf 0 [.inr (.inl (7, r0)), .inl x4, uns, uns] [] σ).bind fun q => Rx k_X2_mostWithin 51 [.inr (.inl (7, r0)), .inl x1, .inl x2, .inl x3, .inl x4] (q.1.toList ++ []) q.2 := by
  refine (Rx_N (k := 2) (pc' := 48) (ls' := [.inr (.inl (7, r0)), .inl x1, .inl x2, .inl x3, .inl x4]) (st' := [.inl x4, .inr (.inl (7, r0))]) (σ' := σ) rfl).trans ?_
  exact Rx_call (n := 3) (y' := k_X2_weightOf) (as := [.inr (.inl (7, r0)), .inl x4]) (rest := []) rfl rfl rfl
theorem b_X2_mostWithin_51 (r0 : Nat) (x1 : Int) (x2 : Int) (x3 : Int) (x4 : Int) (s0 : Int) (σ : St) : Rx k_X2_mostWithin 51 [.inr (.inl (7, r0)), .inl x1, .inl x2, .inl x3, .inl x4] [.inl s0] σ = if x1 < s0 then Rx k_X2_mostWithin 64 [.inr (.inl (7, r0)), .inl x1, .inl x2, .inl x3, .inl x4] [] σ else Rx k_X2_mostWithin 55 [.inr (.inl (7, r0)), .inl x1, .inl x2, .inl x3, .inl x4] [] σ := by
  exact Rx_gt0 (k := 2) rfl
theorem b_X2_mostWithin_55 (r0 : Nat) (x1 : Int) (x2 : Int) (x3 : Int) (x4 : Int) (σ : St) : Rx k_X2_mostWithin 55 [.inr (.inl (7, r0)), .inl x1, .inl x2, .inl x3, .inl x4] [] σ = (Rx k_J6_bitCount_0f7a4 0 [.inl x4] [] σ).bind fun q => Rx k_X2_mostWithin 63 [.inr (.inl (7, r0)), .inl x1, .inl x4, .inl x3, .inl x4] (q.1.toList ++ []) q.2 := by
  refine (Rx_N (k := 3) (pc' := 60) (ls' := [.inr (.inl (7, r0)), .inl x1, .inl x4, .inl x3, .inl x4]) (st' := [.inl x4]) (σ' := σ) rfl).trans ?_
  exact Rx_call (n := 3) (y' := k_J6_bitCount_0f7a4) (as := [.inl x4]) (rest := []) rfl rfl rfl
theorem r_X2_mostWithin_63 (r0 : Nat) (x1 : Int) (x2 : Int) (x3 : Int) (x4 : Int) (s0 : Int) (σ : St) : Rx k_X2_mostWithin 63 [.inr (.inl (7, r0)), .inl x1, .inl x2, .inl x3, .inl x4] [.inl s0] σ = Rx k_X2_mostWithin 7 [.inr (.inl (7, r0)), .inl x1, .inl x2, .inl s0, .inl (wr (x4 + 1))] [] σ := by
  refine (Rx_N (k := 3) (pc' := 7) (ls' := [.inr (.inl (7, r0)), .inl x1, .inl x2, .inl s0, .inl (wr (x4 + 1))]) (st' := []) (σ' := σ) rfl).trans ?_
  rfl
theorem b_X2_mostWithin_63 (r0 : Nat) (x1 : Int) (x2 : Int) (x3 : Int) (x4 : Int) (s0 : Int) (σ : St) (g0a : -2147483648 ≤ (x4 + 1)) (g0b : (x4 + 1) < 2147483648) : Rx k_X2_mostWithin 63 [.inr (.inl (7, r0)), .inl x1, .inl x2, .inl x3, .inl x4] [.inl s0] σ = Rx k_X2_mostWithin 7 [.inr (.inl (7, r0)), .inl x1, .inl x2, .inl s0, .inl (x4 + 1)] [] σ := by
  have e0 := wr_id (x := (x4 + 1)) g0a g0b
  have raw := r_X2_mostWithin_63 r0 x1 x2 x3 x4 s0 σ 
  simp only [e0] at raw
  exact raw
theorem r_X2_mostWithin_64 (r0 : Nat) (x1 : Int) (x2 : Int) (x3 : Int) (x4 : Int) (σ : St) : Rx k_X2_mostWithin 64 [.inr (.inl (7, r0)), .inl x1, .inl x2, .inl x3, .inl x4] [] σ = Rx k_X2_mostWithin 7 [.inr (.inl (7, r0)), .inl x1, .inl x2, .inl x3, .inl (wr (x4 + 1))] [] σ := by
  refine (Rx_N (k := 2) (pc' := 7) (ls' := [.inr (.inl (7, r0)), .inl x1, .inl x2, .inl x3, .inl (wr (x4 + 1))]) (st' := []) (σ' := σ) rfl).trans ?_
  rfl
theorem b_X2_mostWithin_64 (r0 : Nat) (x1 : Int) (x2 : Int) (x3 : Int) (x4 : Int) (σ : St) (g0a : -2147483648 ≤ (x4 + 1)) (g0b : (x4 + 1) < 2147483648) : Rx k_X2_mostWithin 64 [.inr (.inl (7, r0)), .inl x1, .inl x2, .inl x3, .inl x4] [] σ = Rx k_X2_mostWithin 7 [.inr (.inl (7, r0)), .inl x1, .inl x2, .inl x3, .inl (x4 + 1)] [] σ := by
  have e0 := wr_id (x := (x4 + 1)) g0a g0b
  have raw := r_X2_mostWithin_64 r0 x1 x2 x3 x4 σ 
  simp only [e0] at raw
  exact raw
theorem b_X2_mostWithin_70 (r0 : Nat) (x1 : Int) (x2 : Int) (x3 : Int) (x4 : Int) (σ : St) : Rx k_X2_mostWithin 70 [.inr (.inl (7, r0)), .inl x1, .inl x2, .inl x3, .inl x4] [] σ = some (some (.inl x2), σ) := by
  refine (Rx_N (k := 1) (pc' := 71) (ls' := [.inr (.inl (7, r0)), .inl x1, .inl x2, .inl x3, .inl x4]) (st' := [.inl x2]) (σ' := σ) rfl).trans ?_
  exact Rx_ret rfl rfl
theorem b_X2_weightOf_0 (r0 : Nat) (x1 : Int) (u2 : AV) (u3 : AV) (σ : St) : Rx k_X2_weightOf 0 [.inr (.inl (7, r0)), .inl x1, u2, u3] [] σ = Rx k_X2_weightOf 4 [.inr (.inl (7, r0)), .inl x1, .inl 0, .inl 0] [] σ := by
  refine (Rx_N (k := 4) (pc' := 4) (ls' := [.inr (.inl (7, r0)), .inl x1, .inl 0, .inl 0]) (st' := []) (σ' := σ) rfl).trans ?_
  rfl
theorem b_X2_weightOf_4 (r0 : Nat) (x1 : Int) (x2 : Int) (x3 : Int) (σ : St) : Rx k_X2_weightOf 4 [.inr (.inl (7, r0)), .inl x1, .inl x2, .inl x3] [] σ = if x3 < (σ 7 r0 1) then Rx k_X2_weightOf 12 [.inr (.inl (7, r0)), .inl x1, .inl x2, .inl x3] [] σ else Rx k_X2_weightOf 41 [.inr (.inl (7, r0)), .inl x1, .inl x2, .inl x3] [] σ := by
  exact Rx_ge0 (k := 4) rfl
theorem b_X2_weightOf_12 (r0 : Nat) (x1 : Int) (x2 : Int) (x3 : Int) (σ : St) : Rx k_X2_weightOf 12 [.inr (.inl (7, r0)), .inl x1, .inl x2, .inl x3] [] σ = if x3 < 10 then Rx k_X2_weightOf 18 [.inr (.inl (7, r0)), .inl x1, .inl x2, .inl x3] [] σ else Rx k_X2_weightOf 41 [.inr (.inl (7, r0)), .inl x1, .inl x2, .inl x3] [] σ := by
  exact Rx_ge0 (k := 3) rfl
theorem b_X2_weightOf_18 (r0 : Nat) (x1 : Int) (x2 : Int) (x3 : Int) (σ : St) : Rx k_X2_weightOf 18 [.inr (.inl (7, r0)), .inl x1, .inl x2, .inl x3] [] σ = (Rx k_X4_has 0 [.inl x1, .inl x3] [] σ).bind fun q => Rx k_X2_weightOf 23 [.inr (.inl (7, r0)), .inl x1, .inl x2, .inl x3] (q.1.toList ++ []) q.2 := by
  refine (Rx_N (k := 2) (pc' := 20) (ls' := [.inr (.inl (7, r0)), .inl x1, .inl x2, .inl x3]) (st' := [.inl x3, .inl x1]) (σ' := σ) rfl).trans ?_
  exact Rx_call (n := 3) (y' := k_X4_has) (as := [.inl x1, .inl x3]) (rest := []) rfl rfl rfl
theorem b_X2_weightOf_23 (r0 : Nat) (x1 : Int) (x2 : Int) (x3 : Int) (s0 : Int) (σ : St) : Rx k_X2_weightOf 23 [.inr (.inl (7, r0)), .inl x1, .inl x2, .inl x3] [.inl s0] σ = if s0 = 0 then Rx k_X2_weightOf 35 [.inr (.inl (7, r0)), .inl x1, .inl x2, .inl x3] [] σ else Rx k_X2_weightOf 26 [.inr (.inl (7, r0)), .inl x1, .inl x2, .inl x3] [] σ := by
  exact Rx_eq0 (k := 1) rfl
theorem r_X2_weightOf_26 (r0 : Nat) (x1 : Int) (x2 : Int) (x3 : Int) (σ : St) (h0 : 0 ≤ x3) (h1 : x3 < 10) : Rx k_X2_weightOf 26 [.inr (.inl (7, r0)), .inl x1, .inl x2, .inl x3] [] σ = Rx k_X2_weightOf 4 [.inr (.inl (7, r0)), .inl x1, .inl (wr (x2 + (σ 12 r0 x3.toNat))), .inl (wr (x3 + 1))] [] σ := by
  refine (Rx_N (k := 4) (pc' := 32) (ls' := [.inr (.inl (7, r0)), .inl x1, .inl x2, .inl x3]) (st' := [.inl x3, .inr (.inl (12, r0)), .inl x2]) (σ' := σ) rfl).trans ?_
  refine (Rx_ild 10 rfl rfl rfl h0 h1).trans ?_
  refine (Rx_N (k := 4) (pc' := 4) (ls' := [.inr (.inl (7, r0)), .inl x1, .inl (wr (x2 + (σ 12 r0 x3.toNat))), .inl (wr (x3 + 1))]) (st' := []) (σ' := σ) rfl).trans ?_
  rfl
theorem b_X2_weightOf_26 (r0 : Nat) (x1 : Int) (x2 : Int) (x3 : Int) (σ : St) (h0 : 0 ≤ x3) (h1 : x3 < 10) (g0a : -2147483648 ≤ (x3 + 1)) (g0b : (x3 + 1) < 2147483648) (g1a : -2147483648 ≤ (x2 + (σ 12 r0 x3.toNat))) (g1b : (x2 + (σ 12 r0 x3.toNat)) < 2147483648) : Rx k_X2_weightOf 26 [.inr (.inl (7, r0)), .inl x1, .inl x2, .inl x3] [] σ = Rx k_X2_weightOf 4 [.inr (.inl (7, r0)), .inl x1, .inl (x2 + (σ 12 r0 x3.toNat)), .inl (x3 + 1)] [] σ := by
  have e0 := wr_id (x := (x3 + 1)) g0a g0b
  have e1 := wr_id (x := (x2 + (σ 12 r0 x3.toNat))) g1a g1b
  have raw := r_X2_weightOf_26 r0 x1 x2 x3 σ h0 h1
  simp only [e0, e1] at raw
  exact raw
theorem r_X2_weightOf_35 (r0 : Nat) (x1 : Int) (x2 : Int) (x3 : Int) (σ : St) : Rx k_X2_weightOf 35 [.inr (.inl (7, r0)), .inl x1, .inl x2, .inl x3] [] σ = Rx k_X2_weightOf 4 [.inr (.inl (7, r0)), .inl x1, .inl x2, .inl (wr (x3 + 1))] [] σ := by
  refine (Rx_N (k := 2) (pc' := 4) (ls' := [.inr (.inl (7, r0)), .inl x1, .inl x2, .inl (wr (x3 + 1))]) (st' := []) (σ' := σ) rfl).trans ?_
  rfl
theorem b_X2_weightOf_35 (r0 : Nat) (x1 : Int) (x2 : Int) (x3 : Int) (σ : St) (g0a : -2147483648 ≤ (x3 + 1)) (g0b : (x3 + 1) < 2147483648) : Rx k_X2_weightOf 35 [.inr (.inl (7, r0)), .inl x1, .inl x2, .inl x3] [] σ = Rx k_X2_weightOf 4 [.inr (.inl (7, r0)), .inl x1, .inl x2, .inl (x3 + 1)] [] σ := by
  have e0 := wr_id (x := (x3 + 1)) g0a g0b
  have raw := r_X2_weightOf_35 r0 x1 x2 x3 σ 
  simp only [e0] at raw
  exact raw
theorem b_X2_weightOf_41 (r0 : Nat) (x1 : Int) (x2 : Int) (x3 : Int) (σ : St) : Rx k_X2_weightOf 41 [.inr (.inl (7, r0)), .inl x1, .inl x2, .inl x3] [] σ = some (some (.inl x2), σ) := by
  refine (Rx_N (k := 1) (pc' := 42) (ls' := [.inr (.inl (7, r0)), .inl x1, .inl x2, .inl x3]) (st' := [.inl x2]) (σ' := σ) rfl).trans ?_
  exact Rx_ret rfl rfl
