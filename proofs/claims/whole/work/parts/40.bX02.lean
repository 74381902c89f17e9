theorem b_X0_add_0 (x1 : Int) (σ : St) : Rx k_X0_add 0 [.inr (.inl (3, 0)), .inl x1] [] σ = if (σ 3 0 1) < 0 then Rx k_X0_add 36 [.inr (.inl (3, 0)), .inl x1] [] σ else Rx k_X0_add 7 [.inr (.inl (3, 0)), .inl x1] [] σ := by
  exact Rx_lt0 (k := 3) rfl
theorem b_X0_add_7 (x1 : Int) (σ : St) : Rx k_X0_add 7 [.inr (.inl (3, 0)), .inl x1] [] σ = if (σ 3 0 1) < 96 then Rx k_X0_add 16 [.inr (.inl (3, 0)), .inl x1] [] σ else Rx k_X0_add 36 [.inr (.inl (3, 0)), .inl x1] [] σ := by
  exact Rx_ge0 (k := 4) rfl
theorem r_X0_add_16 (x1 : Int) (σ : St) (h0 : 0 ≤ (σ 3 0 1)) (h1 : (σ 3 0 1) < 96) : Rx k_X0_add 16 [.inr (.inl (3, 0)), .inl x1] [] σ = some (none, (up (up σ 4 0 ((σ 3 0 1).toNat) x1) 3 0 1 (wr (((up σ 4 0 ((σ 3 0 1).toNat) x1) 3 0 1) + 1)))) := by
  refine (Rx_N (k := 5) (pc' := 25) (ls' := [.inr (.inl (3, 0)), .inl x1]) (st' := [.inl x1, .inl (σ 3 0 1), .inr (.inl (4, 0))]) (σ' := σ) rfl).trans ?_
  refine (Rx_ist 96 rfl rfl h0 h1).trans ?_
  refine (Rx_N (k := 6) (pc' := 36) (ls' := [.inr (.inl (3, 0)), .inl x1]) (st' := []) (σ' := (up (up σ 4 0 ((σ 3 0 1).toNat) x1) 3 0 1 (wr (((up σ 4 0 ((σ 3 0 1).toNat) x1) 3 0 1) + 1)))) rfl).trans ?_
  exact Rx_ret rfl rfl
theorem b_X0_add_16 (x1 : Int) (σ : St) (h0 : 0 ≤ (σ 3 0 1)) (h1 : (σ 3 0 1) < 96) (g0a : -2147483648 ≤ (((up σ 4 0 ((σ 3 0 1).toNat) x1) 3 0 1) + 1)) (g0b : (((up σ 4 0 ((σ 3 0 1).toNat) x1) 3 0 1) + 1) < 2147483648) : Rx k_X0_add 16 [.inr (.inl (3, 0)), .inl x1] [] σ = some (none, (up (up σ 4 0 ((σ 3 0 1).toNat) x1) 3 0 1 (((up σ 4 0 ((σ 3 0 1).toNat) x1) 3 0 1) + 1))) := by
  have e0 := wr_id (x := (((up σ 4 0 ((σ 3 0 1).toNat) x1) 3 0 1) + 1)) g0a g0b
  have raw := r_X0_add_16 x1 σ h0 h1
  simp only [e0] at raw
  exact raw
theorem b_X0_add_36 (x1 : Int) (σ : St) : Rx k_X0_add 36 [.inr (.inl (3, 0)), .inl x1] [] σ = some (none, σ) := by
  exact Rx_ret rfl rfl
theorem b_X0_formOf_0 (x0 : Int) (σ : St) : Rx k_X0_formOf 0 [.inl x0] [] σ = if x0 = 100 then Rx k_X0_formOf 103 [.inl x0] [] σ else if x0 = 108 then Rx k_X0_formOf 94 [.inl x0] [] σ else if x0 = 112 then Rx k_X0_formOf 88 [.inl x0] [] σ else if x0 = 115 then Rx k_X0_formOf 100 [.inl x0] [] σ else if x0 = 116 then Rx k_X0_formOf 91 [.inl x0] [] σ else if x0 = 117 then Rx k_X0_formOf 97 [.inl x0] [] σ else Rx k_X0_formOf 106 [.inl x0] [] σ := by
  refine (Rx_N (k := 1) (pc' := 1) (ls' := [.inl x0]) (st' := [.inl x0]) (σ' := σ) rfl).trans ?_
  generalize x0 = z9
  by_cases e9 : z9 = 100
  · subst e9; exact Rx_N (k := 1) rfl
  by_cases e9 : z9 = 101
  · subst e9; exact Rx_N (k := 1) rfl
  by_cases e9 : z9 = 102
  · subst e9; exact Rx_N (k := 1) rfl
  by_cases e9 : z9 = 103
  · subst e9; exact Rx_N (k := 1) rfl
  by_cases e9 : z9 = 104
  · subst e9; exact Rx_N (k := 1) rfl
  by_cases e9 : z9 = 105
  · subst e9; exact Rx_N (k := 1) rfl
  by_cases e9 : z9 = 106
  · subst e9; exact Rx_N (k := 1) rfl
  by_cases e9 : z9 = 107
  · subst e9; exact Rx_N (k := 1) rfl
  by_cases e9 : z9 = 108
  · subst e9; exact Rx_N (k := 1) rfl
  by_cases e9 : z9 = 109
  · subst e9; exact Rx_N (k := 1) rfl
  by_cases e9 : z9 = 110
  · subst e9; exact Rx_N (k := 1) rfl
  by_cases e9 : z9 = 111
  · subst e9; exact Rx_N (k := 1) rfl
  by_cases e9 : z9 = 112
  · subst e9; exact Rx_N (k := 1) rfl
  by_cases e9 : z9 = 113
  · subst e9; exact Rx_N (k := 1) rfl
  by_cases e9 : z9 = 114
  · subst e9; exact Rx_N (k := 1) rfl
  by_cases e9 : z9 = 115
  · subst e9; exact Rx_N (k := 1) rfl
  by_cases e9 : z9 = 116
  · subst e9; exact Rx_N (k := 1) rfl
  by_cases e9 : z9 = 117
  · subst e9; exact Rx_N (k := 1) rfl
  rw [if_neg (by omega)]; rw [if_neg (by omega)]; rw [if_neg (by omega)]; rw [if_neg (by omega)]; rw [if_neg (by omega)]; rw [if_neg (by omega)]; exact Rx_tout rfl (by omega) rfl
theorem b_X0_formOf_88 (x0 : Int) (σ : St) : Rx k_X0_formOf 88 [.inl x0] [] σ = some (some (.inr (.inl (30, 0))), σ) := by
  refine (Rx_N (k := 1) (pc' := 90) (ls' := [.inl x0]) (st' := [.inr (.inl (30, 0))]) (σ' := σ) rfl).trans ?_
  exact Rx_ret rfl rfl
theorem b_X0_formOf_91 (x0 : Int) (σ : St) : Rx k_X0_formOf 91 [.inl x0] [] σ = some (some (.inr (.inl (30, 1))), σ) := by
  refine (Rx_N (k := 1) (pc' := 93) (ls' := [.inl x0]) (st' := [.inr (.inl (30, 1))]) (σ' := σ) rfl).trans ?_
  exact Rx_ret rfl rfl
theorem b_X0_formOf_94 (x0 : Int) (σ : St) : Rx k_X0_formOf 94 [.inl x0] [] σ = some (some (.inr (.inl (30, 2))), σ) := by
  refine (Rx_N (k := 1) (pc' := 96) (ls' := [.inl x0]) (st' := [.inr (.inl (30, 2))]) (σ' := σ) rfl).trans ?_
  exact Rx_ret rfl rfl
theorem b_X0_formOf_97 (x0 : Int) (σ : St) : Rx k_X0_formOf 97 [.inl x0] [] σ = some (some (.inr (.inl (30, 3))), σ) := by
  refine (Rx_N (k := 1) (pc' := 99) (ls' := [.inl x0]) (st' := [.inr (.inl (30, 3))]) (σ' := σ) rfl).trans ?_
  exact Rx_ret rfl rfl
theorem b_X0_formOf_100 (x0 : Int) (σ : St) : Rx k_X0_formOf 100 [.inl x0] [] σ = some (some (.inr (.inl (30, 4))), σ) := by
  refine (Rx_N (k := 1) (pc' := 102) (ls' := [.inl x0]) (st' := [.inr (.inl (30, 4))]) (σ' := σ) rfl).trans ?_
  exact Rx_ret rfl rfl
theorem b_X0_formOf_103 (x0 : Int) (σ : St) : Rx k_X0_formOf 103 [.inl x0] [] σ = some (some (.inr (.inl (30, 5))), σ) := by
  refine (Rx_N (k := 1) (pc' := 105) (ls' := [.inl x0]) (st' := [.inr (.inl (30, 5))]) (σ' := σ) rfl).trans ?_
  exact Rx_ret rfl rfl
theorem b_X0_formOf_106 (x0 : Int) (σ : St) : Rx k_X0_formOf 106 [.inl x0] [] σ = some (some (.inr (.inl (30, 6))), σ) := by
  refine (Rx_N (k := 1) (pc' := 108) (ls' := [.inl x0]) (st' := [.inr (.inl (30, 6))]) (σ' := σ) rfl).trans ?_
  exact Rx_ret rfl rfl
theorem b_X0_fits_0 (x0 : Int) (x1 : Int) (σ : St) : Rx k_X0_fits 0 [.inl x0, .inl x1] [] σ = if x0 = 57 then Rx k_X0_fits 41 [.inl x0, .inl x1] [] σ else if x0 = 75 then Rx k_X0_fits 28 [.inl x0, .inl x1] [] σ else Rx k_X0_fits 59 [.inl x0, .inl x1] [] σ := by
  refine (Rx_N (k := 1) (pc' := 1) (ls' := [.inl x0, .inl x1]) (st' := [.inl x0]) (σ' := σ) rfl).trans ?_
  generalize x0 = z9
  by_cases e9 : z9 = 57
  · subst e9; exact Rx_N (k := 1) rfl
  by_cases e9 : z9 = 75
  · subst e9; exact Rx_N (k := 1) rfl
  rw [if_neg (by omega)]; rw [if_neg (by omega)]; exact Rx_lout rfl rfl (by simp only [Op.lookupswitch.offset]; rw [if_neg (by omega), if_neg (by omega)]) rfl
theorem b_X0_fits_28 (x0 : Int) (x1 : Int) (σ : St) : Rx k_X0_fits 28 [.inl x0, .inl x1] [] σ = (Rx k_X0_kindOf 0 [.inl x1] [] σ).bind fun q => Rx k_X0_fits 32 [.inl x0, .inl x1] (q.1.toList ++ []) q.2 := by
  refine (Rx_N (k := 1) (pc' := 29) (ls' := [.inl x0, .inl x1]) (st' := [.inl x1]) (σ' := σ) rfl).trans ?_
  exact Rx_call (n := 3) (y' := k_X0_kindOf) (as := [.inl x1]) (rest := []) rfl rfl rfl
theorem b_X0_fits_32 (x0 : Int) (x1 : Int) (s0 : Int) (σ : St) : Rx k_X0_fits 32 [.inl x0, .inl x1] [.inl s0] σ = if s0 < 0 then Rx k_X0_fits 39 [.inl x0, .inl x1] [] σ else Rx k_X0_fits 35 [.inl x0, .inl x1] [] σ := by
  exact Rx_lt0 (k := 1) rfl
theorem b_X0_fits_35 (x0 : Int) (x1 : Int) (σ : St) : Rx k_X0_fits 35 [.inl x0, .inl x1] [] σ = some (some (.inl 1), σ) := by
  refine (Rx_N (k := 2) (pc' := 40) (ls' := [.inl x0, .inl x1]) (st' := [.inl 1]) (σ' := σ) rfl).trans ?_
  exact Rx_ret rfl rfl
theorem b_X0_fits_39 (x0 : Int) (x1 : Int) (σ : St) : Rx k_X0_fits 39 [.inl x0, .inl x1] [] σ = some (some (.inl 0), σ) := by
  refine (Rx_N (k := 1) (pc' := 40) (ls' := [.inl x0, .inl x1]) (st' := [.inl 0]) (σ' := σ) rfl).trans ?_
  exact Rx_ret rfl rfl
theorem b_X0_fits_41 (x0 : Int) (x1 : Int) (σ : St) : Rx k_X0_fits 41 [.inl x0, .inl x1] [] σ = if x1 < 48 then Rx k_X0_fits 57 [.inl x0, .inl x1] [] σ else Rx k_X0_fits 47 [.inl x0, .inl x1] [] σ := by
  exact Rx_lt0 (k := 3) rfl
theorem b_X0_fits_47 (x0 : Int) (x1 : Int) (σ : St) : Rx k_X0_fits 47 [.inl x0, .inl x1] [] σ = if 57 < x1 then Rx k_X0_fits 57 [.inl x0, .inl x1] [] σ else Rx k_X0_fits 53 [.inl x0, .inl x1] [] σ := by
  exact Rx_gt0 (k := 3) rfl
theorem b_X0_fits_53 (x0 : Int) (x1 : Int) (σ : St) : Rx k_X0_fits 53 [.inl x0, .inl x1] [] σ = some (some (.inl 1), σ) := by
  refine (Rx_N (k := 2) (pc' := 58) (ls' := [.inl x0, .inl x1]) (st' := [.inl 1]) (σ' := σ) rfl).trans ?_
  exact Rx_ret rfl rfl
theorem b_X0_fits_57 (x0 : Int) (x1 : Int) (σ : St) : Rx k_X0_fits 57 [.inl x0, .inl x1] [] σ = some (some (.inl 0), σ) := by
  refine (Rx_N (k := 1) (pc' := 58) (ls' := [.inl x0, .inl x1]) (st' := [.inl 0]) (σ' := σ) rfl).trans ?_
  exact Rx_ret rfl rfl
theorem b_X0_fits_59 (x0 : Int) (x1 : Int) (σ : St) : Rx k_X0_fits 59 [.inl x0, .inl x1] [] σ = if x1 = x0 then Rx k_X0_fits 64 [.inl x0, .inl x1] [] σ else Rx k_X0_fits 68 [.inl x0, .inl x1] [] σ := by
  exact Rx_ne0 (k := 3) rfl
theorem b_X0_fits_64 (x0 : Int) (x1 : Int) (σ : St) : Rx k_X0_fits 64 [.inl x0, .inl x1] [] σ = some (some (.inl 1), σ) := by
  refine (Rx_N (k := 2) (pc' := 69) (ls' := [.inl x0, .inl x1]) (st' := [.inl 1]) (σ' := σ) rfl).trans ?_
  exact Rx_ret rfl rfl
theorem b_X0_fits_68 (x0 : Int) (x1 : Int) (σ : St) : Rx k_X0_fits 68 [.inl x0, .inl x1] [] σ = some (some (.inl 0), σ) := by
  refine (Rx_N (k := 1) (pc' := 69) (ls' := [.inl x0, .inl x1]) (st' := [.inl 0]) (σ' := σ) rfl).trans ?_
  exact Rx_ret rfl rfl
theorem b_X0_kindOf_0 (x0 : Int) (σ : St) : Rx k_X0_kindOf 0 [.inl x0] [] σ = (Rx k_J0_indexOf_0f7a4 0 [.inr (.inl (30, 7)), .inl (bI2c x0)] [] σ).bind fun q => Rx k_X0_kindOf 7 [.inl x0] (q.1.toList ++ []) q.2 := by
  refine (Rx_N (k := 3) (pc' := 4) (ls' := [.inl x0]) (st' := [.inl (bI2c x0), .inr (.inl (30, 7))]) (σ' := σ) rfl).trans ?_
  exact Rx_call (n := 3) (y' := k_J0_indexOf_0f7a4) (as := [.inr (.inl (30, 7)), .inl (bI2c x0)]) (rest := []) rfl rfl rfl
theorem b_X0_kindOf_7 (x0 : Int) (s0 : Int) (σ : St) : Rx k_X0_kindOf 7 [.inl x0] [.inl s0] σ = some (some (.inl s0), σ) := by
  exact Rx_ret rfl rfl
theorem b_X0_firstWrong_0 (u1 : AV) (u2 : AV) (u3 : AV) (σ : St) : Rx k_X0_firstWrong 0 [.inr (.inl (3, 0)), u1, u2, u3] [] σ = Rx k_X0_firstWrong 7 [.inr (.inl (3, 0)), .inr (.inl (30, 6)), .inl 0, .inl 0] [] σ := by
  refine (Rx_N (k := 6) (pc' := 7) (ls' := [.inr (.inl (3, 0)), .inr (.inl (30, 6)), .inl 0, .inl 0]) (st' := []) (σ' := σ) rfl).trans ?_
  rfl
theorem b_X0_firstWrong_7 (r1 : Nat) (x2 : Int) (x3 : Int) (σ : St) : Rx k_X0_firstWrong 7 [.inr (.inl (3, 0)), .inr (.inl (30, r1)), .inl x2, .inl x3] [] σ = if x3 < (σ 3 0 1) then Rx k_X0_firstWrong 15 [.inr (.inl (3, 0)), .inr (.inl (30, r1)), .inl x2, .inl x3] [] σ else Rx k_X0_firstWrong 77 [.inr (.inl (3, 0)), .inr (.inl (30, r1)), .inl x2, .inl x3] [] σ := by
  exact Rx_ge0 (k := 4) rfl
theorem b_X0_firstWrong_15 (r1 : Nat) (x2 : Int) (x3 : Int) (σ : St) : Rx k_X0_firstWrong 15 [.inr (.inl (3, 0)), .inr (.inl (30, r1)), .inl x2, .inl x3] [] σ = if x3 < 96 then Rx k_X0_firstWrong 21 [.inr (.inl (3, 0)), .inr (.inl (30, r1)), .inl x2, .inl x3] [] σ else Rx k_X0_firstWrong 77 [.inr (.inl (3, 0)), .inr (.inl (30, r1)), .inl x2, .inl x3] [] σ := by
  exact Rx_ge0 (k := 3) rfl
theorem b_X0_firstWrong_21 (r1 : Nat) (x2 : Int) (x3 : Int) (σ : St) : Rx k_X0_firstWrong 21 [.inr (.inl (3, 0)), .inr (.inl (30, r1)), .inl x2, .inl x3] [] σ = (Rx k_J0_length_8abf5 0 [.inr (.inl (30, r1))] [] σ).bind fun q => Rx k_X0_firstWrong 26 [.inr (.inl (3, 0)), .inr (.inl (30, r1)), .inl x2, .inl x3] (q.1.toList ++ [.inl x2]) q.2 := by
  refine (Rx_N (k := 2) (pc' := 23) (ls' := [.inr (.inl (3, 0)), .inr (.inl (30, r1)), .inl x2, .inl x3]) (st' := [.inr (.inl (30, r1)), .inl x2]) (σ' := σ) rfl).trans ?_
  exact Rx_call (n := 3) (y' := k_J0_length_8abf5) (as := [.inr (.inl (30, r1))]) (rest := [.inl x2]) rfl rfl rfl
theorem b_X0_firstWrong_26 (r1 : Nat) (x2 : Int) (x3 : Int) (s1 : Int) (s0 : Int) (σ : St) : Rx k_X0_firstWrong 26 [.inr (.inl (3, 0)), .inr (.inl (30, r1)), .inl x2, .inl x3] [.inl s1, .inl s0] σ = if s0 < s1 then Rx k_X0_firstWrong 41 [.inr (.inl (3, 0)), .inr (.inl (30, r1)), .inl x2, .inl x3] [] σ else Rx k_X0_firstWrong 29 [.inr (.inl (3, 0)), .inr (.inl (30, r1)), .inl x2, .inl x3] [] σ := by
  exact Rx_lt0 (k := 1) rfl
theorem b_X0_firstWrong_29 (r1 : Nat) (x2 : Int) (x3 : Int) (σ : St) (h0 : 0 ≤ x3) (h1 : x3 < 96) : Rx k_X0_firstWrong 29 [.inr (.inl (3, 0)), .inr (.inl (30, r1)), .inl x2, .inl x3] [] σ = (Rx k_X0_formOf 0 [.inl (σ 4 0 x3.toNat)] [] σ).bind fun q => Rx k_X0_firstWrong 38 [.inr (.inl (3, 0)), .inr (.inl (30, r1)), .inl x2, .inl x3] (q.1.toList ++ []) q.2 := by
  refine (Rx_N (k := 3) (pc' := 34) (ls' := [.inr (.inl (3, 0)), .inr (.inl (30, r1)), .inl x2, .inl x3]) (st' := [.inl x3, .inr (.inl (4, 0))]) (σ' := σ) rfl).trans ?_
  refine (Rx_ild 96 rfl rfl rfl h0 h1).trans ?_
  exact Rx_call (n := 3) (y' := k_X0_formOf) (as := [.inl (σ 4 0 x3.toNat)]) (rest := []) rfl rfl rfl
theorem b_X0_firstWrong_38 (r1 : Nat) (x2 : Int) (x3 : Int) (q0 : Nat) (σ : St) : Rx k_X0_firstWrong 38 [.inr (.inl (3, 0)), .inr (.inl (30, r1)), .inl x2, .inl x3] [.inr (.inl (30, q0))] σ = (Rx k_J0_length_8abf5 0 [.inr (.inl (30, q0))] [] σ).bind fun q => Rx k_X0_firstWrong 46 [.inr (.inl (3, 0)), .inr (.inl (30, q0)), .inl 0, .inl x3] (q.1.toList ++ [.inl 0]) q.2 := by
  refine (Rx_N (k := 5) (pc' := 43) (ls' := [.inr (.inl (3, 0)), .inr (.inl (30, q0)), .inl 0, .inl x3]) (st' := [.inr (.inl (30, q0)), .inl 0]) (σ' := σ) rfl).trans ?_
  exact Rx_call (n := 3) (y' := k_J0_length_8abf5) (as := [.inr (.inl (30, q0))]) (rest := [.inl 0]) rfl rfl rfl
theorem b_X0_firstWrong_41 (r1 : Nat) (x2 : Int) (x3 : Int) (σ : St) : Rx k_X0_firstWrong 41 [.inr (.inl (3, 0)), .inr (.inl (30, r1)), .inl x2, .inl x3] [] σ = (Rx k_J0_length_8abf5 0 [.inr (.inl (30, r1))] [] σ).bind fun q => Rx k_X0_firstWrong 46 [.inr (.inl (3, 0)), .inr (.inl (30, r1)), .inl x2, .inl x3] (q.1.toList ++ [.inl x2]) q.2 := by
  refine (Rx_N (k := 2) (pc' := 43) (ls' := [.inr (.inl (3, 0)), .inr (.inl (30, r1)), .inl x2, .inl x3]) (st' := [.inr (.inl (30, r1)), .inl x2]) (σ' := σ) rfl).trans ?_
  exact Rx_call (n := 3) (y' := k_J0_length_8abf5) (as := [.inr (.inl (30, r1))]) (rest := [.inl x2]) rfl rfl rfl
theorem b_X0_firstWrong_46 (r1 : Nat) (x2 : Int) (x3 : Int) (s1 : Int) (s0 : Int) (σ : St) : Rx k_X0_firstWrong 46 [.inr (.inl (3, 0)), .inr (.inl (30, r1)), .inl x2, .inl x3] [.inl s1, .inl s0] σ = if s0 < s1 then Rx k_X0_firstWrong 49 [.inr (.inl (3, 0)), .inr (.inl (30, r1)), .inl x2, .inl x3] [] σ else Rx k_X0_firstWrong 66 [.inr (.inl (3, 0)), .inr (.inl (30, r1)), .inl x2, .inl x3] [] σ := by
  exact Rx_ge0 (k := 1) rfl
theorem b_X0_firstWrong_49 (r1 : Nat) (x2 : Int) (x3 : Int) (σ : St) : Rx k_X0_firstWrong 49 [.inr (.inl (3, 0)), .inr (.inl (30, r1)), .inl x2, .inl x3] [] σ = (Rx k_J0_charAt_5068e 0 [.inr (.inl (30, r1)), .inl x2] [] σ).bind fun q => Rx k_X0_firstWrong 54 [.inr (.inl (3, 0)), .inr (.inl (30, r1)), .inl x2, .inl x3] (q.1.toList ++ []) q.2 := by
  refine (Rx_N (k := 2) (pc' := 51) (ls' := [.inr (.inl (3, 0)), .inr (.inl (30, r1)), .inl x2, .inl x3]) (st' := [.inl x2, .inr (.inl (30, r1))]) (σ' := σ) rfl).trans ?_
  exact Rx_call (n := 3) (y' := k_J0_charAt_5068e) (as := [.inr (.inl (30, r1)), .inl x2]) (rest := []) rfl rfl rfl
theorem b_X0_firstWrong_54 (r1 : Nat) (x2 : Int) (x3 : Int) (s0 : Int) (σ : St) (h0 : 0 ≤ x3) (h1 : x3 < 96) : Rx k_X0_firstWrong 54 [.inr (.inl (3, 0)), .inr (.inl (30, r1)), .inl x2, .inl x3] [.inl s0] σ = (Rx k_X0_fits 0 [.inl s0, .inl (σ 4 0 x3.toNat)] [] σ).bind fun q => Rx k_X0_firstWrong 63 [.inr (.inl (3, 0)), .inr (.inl (30, r1)), .inl x2, .inl x3] (q.1.toList ++ []) q.2 := by
  refine (Rx_N (k := 3) (pc' := 59) (ls' := [.inr (.inl (3, 0)), .inr (.inl (30, r1)), .inl x2, .inl x3]) (st' := [.inl x3, .inr (.inl (4, 0)), .inl s0]) (σ' := σ) rfl).trans ?_
  refine (Rx_ild 96 rfl rfl rfl h0 h1).trans ?_
  exact Rx_call (n := 3) (y' := k_X0_fits) (as := [.inl s0, .inl (σ 4 0 x3.toNat)]) (rest := []) rfl rfl rfl
theorem b_X0_firstWrong_63 (r1 : Nat) (x2 : Int) (x3 : Int) (s0 : Int) (σ : St) : Rx k_X0_firstWrong 63 [.inr (.inl (3, 0)), .inr (.inl (30, r1)), .inl x2, .inl x3] [.inl s0] σ = if s0 = 0 then Rx k_X0_firstWrong 66 [.inr (.inl (3, 0)), .inr (.inl (30, r1)), .inl x2, .inl x3] [] σ else Rx k_X0_firstWrong 68 [.inr (.inl (3, 0)), .inr (.inl (30, r1)), .inl x2, .inl x3] [] σ := by
  exact Rx_ne0 (k := 1) rfl
theorem b_X0_firstWrong_66 (r1 : Nat) (x2 : Int) (x3 : Int) (σ : St) : Rx k_X0_firstWrong 66 [.inr (.inl (3, 0)), .inr (.inl (30, r1)), .inl x2, .inl x3] [] σ = some (some (.inl x3), σ) := by
  refine (Rx_N (k := 1) (pc' := 67) (ls' := [.inr (.inl (3, 0)), .inr (.inl (30, r1)), .inl x2, .inl x3]) (st' := [.inl x3]) (σ' := σ) rfl).trans ?_
  exact Rx_ret rfl rfl
theorem r_X0_firstWrong_68 (r1 : Nat) (x2 : Int) (x3 : Int) (σ : St) : Rx k_X0_firstWrong 68 [.inr (.inl (3, 0)), .inr (.inl (30, r1)), .inl x2, .inl x3] [] σ = Rx k_X0_firstWrong 7 [.inr (.inl (3, 0)), .inr (.inl (30, r1)), .inl (wr (x2 + 1)), .inl (wr (x3 + 1))] [] σ := by
  refine (Rx_N (k := 3) (pc' := 7) (ls' := [.inr (.inl (3, 0)), .inr (.inl (30, r1)), .inl (wr (x2 + 1)), .inl (wr (x3 + 1))]) (st' := []) (σ' := σ) rfl).trans ?_
  rfl
theorem b_X0_firstWrong_68 (r1 : Nat) (x2 : Int) (x3 : Int) (σ : St) (g0a : -2147483648 ≤ (x2 + 1)) (g0b : (x2 + 1) < 2147483648) (g1a : -2147483648 ≤ (x3 + 1)) (g1b : (x3 + 1) < 2147483648) : Rx k_X0_firstWrong 68 [.inr (.inl (3, 0)), .inr (.inl (30, r1)), .inl x2, .inl x3] [] σ = Rx k_X0_firstWrong 7 [.inr (.inl (3, 0)), .inr (.inl (30, r1)), .inl (x2 + 1), .inl (x3 + 1)] [] σ := by
  have e0 := wr_id (x := (x2 + 1)) g0a g0b
  have e1 := wr_id (x := (x3 + 1)) g1a g1b
  have raw := r_X0_firstWrong_68 r1 x2 x3 σ 
  simp only [e0, e1] at raw
  exact raw
theorem b_X0_firstWrong_77 (r1 : Nat) (x2 : Int) (x3 : Int) (σ : St) : Rx k_X0_firstWrong 77 [.inr (.inl (3, 0)), .inr (.inl (30, r1)), .inl x2, .inl x3] [] σ = if (σ 3 0 1) = 0 then Rx k_X0_firstWrong 92 [.inr (.inl (3, 0)), .inr (.inl (30, r1)), .inl x2, .inl x3] [] σ else Rx k_X0_firstWrong 84 [.inr (.inl (3, 0)), .inr (.inl (30, r1)), .inl x2, .inl x3] [] σ := by
  exact Rx_eq0 (k := 3) rfl
theorem b_X0_firstWrong_84 (r1 : Nat) (x2 : Int) (x3 : Int) (σ : St) : Rx k_X0_firstWrong 84 [.inr (.inl (3, 0)), .inr (.inl (30, r1)), .inl x2, .inl x3] [] σ = (Rx k_J0_length_8abf5 0 [.inr (.inl (30, r1))] [] σ).bind fun q => Rx k_X0_firstWrong 89 [.inr (.inl (3, 0)), .inr (.inl (30, r1)), .inl x2, .inl x3] (q.1.toList ++ [.inl x2]) q.2 := by
  refine (Rx_N (k := 2) (pc' := 86) (ls' := [.inr (.inl (3, 0)), .inr (.inl (30, r1)), .inl x2, .inl x3]) (st' := [.inr (.inl (30, r1)), .inl x2]) (σ' := σ) rfl).trans ?_
  exact Rx_call (n := 3) (y' := k_J0_length_8abf5) (as := [.inr (.inl (30, r1))]) (rest := [.inl x2]) rfl rfl rfl
theorem b_X0_firstWrong_89 (r1 : Nat) (x2 : Int) (x3 : Int) (s1 : Int) (s0 : Int) (σ : St) : Rx k_X0_firstWrong 89 [.inr (.inl (3, 0)), .inr (.inl (30, r1)), .inl x2, .inl x3] [.inl s1, .inl s0] σ = if s0 < s1 then Rx k_X0_firstWrong 92 [.inr (.inl (3, 0)), .inr (.inl (30, r1)), .inl x2, .inl x3] [] σ else Rx k_X0_firstWrong 99 [.inr (.inl (3, 0)), .inr (.inl (30, r1)), .inl x2, .inl x3] [] σ := by
  exact Rx_ge0 (k := 1) rfl
theorem b_X0_firstWrong_92 (r1 : Nat) (x2 : Int) (x3 : Int) (σ : St) : Rx k_X0_firstWrong 92 [.inr (.inl (3, 0)), .inr (.inl (30, r1)), .inl x2, .inl x3] [] σ = some (some (.inl (σ 3 0 1)), σ) := by
  refine (Rx_N (k := 3) (pc' := 101) (ls' := [.inr (.inl (3, 0)), .inr (.inl (30, r1)), .inl x2, .inl x3]) (st' := [.inl (σ 3 0 1)]) (σ' := σ) rfl).trans ?_
  exact Rx_ret rfl rfl
theorem b_X0_firstWrong_99 (r1 : Nat) (x2 : Int) (x3 : Int) (σ : St) : Rx k_X0_firstWrong 99 [.inr (.inl (3, 0)), .inr (.inl (30, r1)), .inl x2, .inl x3] [] σ = some (some (.inl (-9)), σ) := by
  refine (Rx_N (k := 1) (pc' := 101) (ls' := [.inr (.inl (3, 0)), .inr (.inl (30, r1)), .inl x2, .inl x3]) (st' := [.inl (-9)]) (σ' := σ) rfl).trans ?_
  exact Rx_ret rfl rfl
theorem b_X0_letterAt_0 (x1 : Int) (σ : St) : Rx k_X0_letterAt 0 [.inr (.inl (3, 0)), .inl x1] [] σ = if x1 < 0 then Rx k_X0_letterAt 27 [.inr (.inl (3, 0)), .inl x1] [] σ else Rx k_X0_letterAt 4 [.inr (.inl (3, 0)), .inl x1] [] σ := by
  exact Rx_lt0 (k := 2) rfl
theorem b_X0_letterAt_4 (x1 : Int) (σ : St) : Rx k_X0_letterAt 4 [.inr (.inl (3, 0)), .inl x1] [] σ = if x1 < (σ 3 0 1) then Rx k_X0_letterAt 12 [.inr (.inl (3, 0)), .inl x1] [] σ else Rx k_X0_letterAt 27 [.inr (.inl (3, 0)), .inl x1] [] σ := by
  exact Rx_ge0 (k := 4) rfl
theorem b_X0_letterAt_12 (x1 : Int) (σ : St) : Rx k_X0_letterAt 12 [.inr (.inl (3, 0)), .inl x1] [] σ = if x1 < 96 then Rx k_X0_letterAt 18 [.inr (.inl (3, 0)), .inl x1] [] σ else Rx k_X0_letterAt 27 [.inr (.inl (3, 0)), .inl x1] [] σ := by
  exact Rx_ge0 (k := 3) rfl
theorem b_X0_letterAt_18 (x1 : Int) (σ : St) (h0 : 0 ≤ x1) (h1 : x1 < 96) : Rx k_X0_letterAt 18 [.inr (.inl (3, 0)), .inl x1] [] σ = some (some (.inl (σ 4 0 x1.toNat)), σ) := by
  refine (Rx_N (k := 3) (pc' := 23) (ls' := [.inr (.inl (3, 0)), .inl x1]) (st' := [.inl x1, .inr (.inl (4, 0))]) (σ' := σ) rfl).trans ?_
  refine (Rx_ild 96 rfl rfl rfl h0 h1).trans ?_
  refine (Rx_N (k := 1) (pc' := 28) (ls' := [.inr (.inl (3, 0)), .inl x1]) (st' := [.inl (σ 4 0 x1.toNat)]) (σ' := σ) rfl).trans ?_
  exact Rx_ret rfl rfl
theorem b_X0_letterAt_27 (x1 : Int) (σ : St) : Rx k_X0_letterAt 27 [.inr (.inl (3, 0)), .inl x1] [] σ = some (some (.inl 0), σ) := by
  refine (Rx_N (k := 1) (pc' := 28) (ls' := [.inr (.inl (3, 0)), .inl x1]) (st' := [.inl 0]) (σ' := σ) rfl).trans ?_
  exact Rx_ret rfl rfl
theorem b_X0_digitAt_0 (x1 : Int) (σ : St) : Rx k_X0_digitAt 0 [.inr (.inl (3, 0)), .inl x1] [] σ = (Rx k_X0_letterAt 0 [.inr (.inl (3, 0)), .inl x1] [] σ).bind fun q => Rx k_X0_digitAt 5 [.inr (.inl (3, 0)), .inl x1] (q.1.toList ++ []) q.2 := by
  refine (Rx_N (k := 2) (pc' := 2) (ls' := [.inr (.inl (3, 0)), .inl x1]) (st' := [.inl x1, .inr (.inl (3, 0))]) (σ' := σ) rfl).trans ?_
  exact Rx_call (n := 3) (y' := k_X0_letterAt) (as := [.inr (.inl (3, 0)), .inl x1]) (rest := []) rfl rfl rfl
theorem r_X0_digitAt_5 (x1 : Int) (s0 : Int) (σ : St) : Rx k_X0_digitAt 5 [.inr (.inl (3, 0)), .inl x1] [.inl s0] σ = some (some (.inl (wr (s0 - 48))), σ) := by
  refine (Rx_N (k := 2) (pc' := 8) (ls' := [.inr (.inl (3, 0)), .inl x1]) (st' := [.inl (wr (s0 - 48))]) (σ' := σ) rfl).trans ?_
  exact Rx_ret rfl rfl
theorem b_X0_digitAt_5 (x1 : Int) (s0 : Int) (σ : St) (g0a : -2147483648 ≤ (s0 - 48)) (g0b : (s0 - 48) < 2147483648) : Rx k_X0_digitAt 5 [.inr (.inl (3, 0)), .inl x1] [.inl s0] σ = some (some (.inl (s0 - 48)), σ) := by
  have e0 := wr_id (x := (s0 - 48)) g0a g0b
  have raw := r_X0_digitAt_5 x1 s0 σ 
  simp only [e0] at raw
  exact raw
theorem b_X0_numberAt_0 (x1 : Int) (σ : St) : Rx k_X0_numberAt 0 [.inr (.inl (3, 0)), .inl x1] [] σ = (Rx k_X0_digitAt 0 [.inr (.inl (3, 0)), .inl x1] [] σ).bind fun q => Rx k_X0_numberAt 7 [.inr (.inl (3, 0)), .inl x1] (q.1.toList ++ [.inl 10]) q.2 := by
  refine (Rx_N (k := 3) (pc' := 4) (ls' := [.inr (.inl (3, 0)), .inl x1]) (st' := [.inl x1, .inr (.inl (3, 0)), .inl 10]) (σ' := σ) rfl).trans ?_
  exact Rx_call (n := 3) (y' := k_X0_digitAt) (as := [.inr (.inl (3, 0)), .inl x1]) (rest := [.inl 10]) rfl rfl rfl
theorem r_X0_numberAt_7 (x1 : Int) (s1 : Int) (s0 : Int) (σ : St) : Rx k_X0_numberAt 7 [.inr (.inl (3, 0)), .inl x1] [.inl s1, .inl s0] σ = (Rx k_X0_digitAt 0 [.inr (.inl (3, 0)), .inl (wr (x1 + 1))] [] σ).bind fun q => Rx k_X0_numberAt 15 [.inr (.inl (3, 0)), .inl x1] (q.1.toList ++ [.inl (wr (s0 * s1))]) q.2 := by
  refine (Rx_N (k := 5) (pc' := 12) (ls' := [.inr (.inl (3, 0)), .inl x1]) (st' := [.inl (wr (x1 + 1)), .inr (.inl (3, 0)), .inl (wr (s0 * s1))]) (σ' := σ) rfl).trans ?_
  exact Rx_call (n := 3) (y' := k_X0_digitAt) (as := [.inr (.inl (3, 0)), .inl (wr (x1 + 1))]) (rest := [.inl (wr (s0 * s1))]) rfl rfl rfl
theorem b_X0_numberAt_7 (x1 : Int) (s1 : Int) (s0 : Int) (σ : St) (g0a : -2147483648 ≤ (x1 + 1)) (g0b : (x1 + 1) < 2147483648) (g1a : -2147483648 ≤ (s0 * s1)) (g1b : (s0 * s1) < 2147483648) : Rx k_X0_numberAt 7 [.inr (.inl (3, 0)), .inl x1] [.inl s1, .inl s0] σ = (Rx k_X0_digitAt 0 [.inr (.inl (3, 0)), .inl (x1 + 1)] [] σ).bind fun q => Rx k_X0_numberAt 15 [.inr (.inl (3, 0)), .inl x1] (q.1.toList ++ [.inl (s0 * s1)]) q.2 := by
  have e0 := wr_id (x := (x1 + 1)) g0a g0b
  have e1 := wr_id (x := (s0 * s1)) g1a g1b
  have raw := r_X0_numberAt_7 x1 s1 s0 σ 
  simp only [e0, e1] at raw
  exact raw
theorem r_X0_numberAt_15 (x1 : Int) (s1 : Int) (s0 : Int) (σ : St) : Rx k_X0_numberAt 15 [.inr (.inl (3, 0)), .inl x1] [.inl s1, .inl s0] σ = some (some (.inl (wr (s0 + s1))), σ) := by
  refine (Rx_N (k := 1) (pc' := 16) (ls' := [.inr (.inl (3, 0)), .inl x1]) (st' := [.inl (wr (s0 + s1))]) (σ' := σ) rfl).trans ?_
  exact Rx_ret rfl rfl
theorem b_X0_numberAt_15 (x1 : Int) (s1 : Int) (s0 : Int) (σ : St) (g0a : -2147483648 ≤ (s0 + s1)) (g0b : (s0 + s1) < 2147483648) : Rx k_X0_numberAt 15 [.inr (.inl (3, 0)), .inl x1] [.inl s1, .inl s0] σ = some (some (.inl (s0 + s1)), σ) := by
  have e0 := wr_id (x := (s0 + s1)) g0a g0b
  have raw := r_X0_numberAt_15 x1 s1 s0 σ 
  simp only [e0] at raw
  exact raw
theorem b_X0_tell_0 (x1 : Int) (r2 : Nat) (σ : St) : Rx k_X0_tell 0 [.inr (.inl (3, 0)), .inl x1, .inr (.inl (7, r2))] [] σ = (Rx k_X0_letterAt 0 [.inr (.inl (3, 0)), .inl x1] [] σ).bind fun q => Rx k_X0_tell 5 [.inr (.inl (3, 0)), .inl x1, .inr (.inl (7, r2))] (q.1.toList ++ []) q.2 := by
  refine (Rx_N (k := 2) (pc' := 2) (ls' := [.inr (.inl (3, 0)), .inl x1, .inr (.inl (7, r2))]) (st' := [.inl x1, .inr (.inl (3, 0))]) (σ' := σ) rfl).trans ?_
  exact Rx_call (n := 3) (y' := k_X0_letterAt) (as := [.inr (.inl (3, 0)), .inl x1]) (rest := []) rfl rfl rfl
theorem b_X0_tell_5 (x1 : Int) (r2 : Nat) (s0 : Int) (σ : St) : Rx k_X0_tell 5 [.inr (.inl (3, 0)), .inl x1, .inr (.inl (7, r2))] [.inl s0] σ = if s0 = 100 then Rx k_X0_tell 197 [.inr (.inl (3, 0)), .inl x1, .inr (.inl (7, r2))] [] σ else if s0 = 108 then Rx k_X0_tell 147 [.inr (.inl (3, 0)), .inl x1, .inr (.inl (7, r2))] [] σ else if s0 = 112 then Rx k_X0_tell 92 [.inr (.inl (3, 0)), .inl x1, .inr (.inl (7, r2))] [] σ else if s0 = 115 then Rx k_X0_tell 178 [.inr (.inl (3, 0)), .inl x1, .inr (.inl (7, r2))] [] σ else if s0 = 116 then Rx k_X0_tell 121 [.inr (.inl (3, 0)), .inl x1, .inr (.inl (7, r2))] [] σ else if s0 = 117 then Rx k_X0_tell 166 [.inr (.inl (3, 0)), .inl x1, .inr (.inl (7, r2))] [] σ else Rx k_X0_tell 209 [.inr (.inl (3, 0)), .inl x1, .inr (.inl (7, r2))] [] σ := by
  generalize s0 = z9
  by_cases e9 : z9 = 100
  · subst e9; exact Rx_N (k := 1) rfl
  by_cases e9 : z9 = 101
  · subst e9; exact Rx_N (k := 1) rfl
  by_cases e9 : z9 = 102
  · subst e9; exact Rx_N (k := 1) rfl
  by_cases e9 : z9 = 103
  · subst e9; exact Rx_N (k := 1) rfl
  by_cases e9 : z9 = 104
  · subst e9; exact Rx_N (k := 1) rfl
  by_cases e9 : z9 = 105
  · subst e9; exact Rx_N (k := 1) rfl
  by_cases e9 : z9 = 106
  · subst e9; exact Rx_N (k := 1) rfl
  by_cases e9 : z9 = 107
  · subst e9; exact Rx_N (k := 1) rfl
  by_cases e9 : z9 = 108
  · subst e9; exact Rx_N (k := 1) rfl
  by_cases e9 : z9 = 109
  · subst e9; exact Rx_N (k := 1) rfl
  by_cases e9 : z9 = 110
  · subst e9; exact Rx_N (k := 1) rfl
  by_cases e9 : z9 = 111
  · subst e9; exact Rx_N (k := 1) rfl
  by_cases e9 : z9 = 112
  · subst e9; exact Rx_N (k := 1) rfl
  by_cases e9 : z9 = 113
  · subst e9; exact Rx_N (k := 1) rfl
  by_cases e9 : z9 = 114
  · subst e9; exact Rx_N (k := 1) rfl
  by_cases e9 : z9 = 115
  · subst e9; exact Rx_N (k := 1) rfl
  by_cases e9 : z9 = 116
  · subst e9; exact Rx_N (k := 1) rfl
  by_cases e9 : z9 = 117
  · subst e9; exact Rx_N (k := 1) rfl
  rw [if_neg (by omega)]; rw [if_neg (by omega)]; rw [if_neg (by omega)]; rw [if_neg (by omega)]; rw [if_neg (by omega)]; rw [if_neg (by omega)]; exact Rx_tout rfl (by omega) rfl
theorem r_X0_tell_92 (x1 : Int) (r2 : Nat) (σ : St) : Rx k_X0_tell 92 [.inr (.inl (3, 0)), .inl x1, .inr (.inl (7, r2))] [] σ = (Rx k_X0_letterAt 0 [.inr (.inl (3, 0)), .inl (wr (x1 + 1))] [] σ).bind fun q => Rx k_X0_tell 100 [.inr (.inl (3, 0)), .inl x1, .inr (.inl (7, r2))] (q.1.toList ++ [.inr (.inl (7, r2))]) q.2 := by
  refine (Rx_N (k := 5) (pc' := 97) (ls' := [.inr (.inl (3, 0)), .inl x1, .inr (.inl (7, r2))]) (st' := [.inl (wr (x1 + 1)), .inr (.inl (3, 0)), .inr (.inl (7, r2))]) (σ' := σ) rfl).trans ?_
  exact Rx_call (n := 3) (y' := k_X0_letterAt) (as := [.inr (.inl (3, 0)), .inl (wr (x1 + 1))]) (rest := [.inr (.inl (7, r2))]) rfl rfl rfl
theorem b_X0_tell_92 (x1 : Int) (r2 : Nat) (σ : St) (g0a : -2147483648 ≤ (x1 + 1)) (g0b : (x1 + 1) < 2147483648) : Rx k_X0_tell 92 [.inr (.inl (3, 0)), .inl x1, .inr (.inl (7, r2))] [] σ = (Rx k_X0_letterAt 0 [.inr (.inl (3, 0)), .inl (x1 + 1)] [] σ).bind fun q => Rx k_X0_tell 100 [.inr (.inl (3, 0)), .inl x1, .inr (.inl (7, r2))] (q.1.toList ++ [.inr (.inl (7, r2))]) q.2 := by
  have e0 := wr_id (x := (x1 + 1)) g0a g0b
  have raw := r_X0_tell_92 x1 r2 σ 
  simp only [e0] at raw
  exact raw
theorem b_X0_tell_100 (x1 : Int) (r2 : Nat) (s1 : Int) (q0 : Nat) (σ : St) : Rx k_X0_tell 100 [.inr (.inl (3, 0)), .inl x1, .inr (.inl (7, r2))] [.inl s1, .inr (.inl (7, q0))] σ = (Rx k_X0_kindOf 0 [.inl s1] [] σ).bind fun q => Rx k_X0_tell 103 [.inr (.inl (3, 0)), .inl x1, .inr (.inl (7, r2))] (q.1.toList ++ [.inr (.inl (7, q0))]) q.2 := by
  exact Rx_call (n := 3) (y' := k_X0_kindOf) (as := [.inl s1]) (rest := [.inr (.inl (7, q0))]) rfl rfl rfl
theorem r_X0_tell_103 (x1 : Int) (r2 : Nat) (s1 : Int) (q0 : Nat) (σ : St) : Rx k_X0_tell 103 [.inr (.inl (3, 0)), .inl x1, .inr (.inl (7, r2))] [.inl s1, .inr (.inl (7, q0))] σ = (Rx k_X0_digitAt 0 [.inr (.inl (3, 0)), .inl (wr (x1 + 2))] [] σ).bind fun q => Rx k_X0_tell 110 [.inr (.inl (3, 0)), .inl x1, .inr (.inl (7, r2))] (q.1.toList ++ [.inl s1, .inr (.inl (7, q0))]) q.2 := by
  refine (Rx_N (k := 4) (pc' := 107) (ls' := [.inr (.inl (3, 0)), .inl x1, .inr (.inl (7, r2))]) (st' := [.inl (wr (x1 + 2)), .inr (.inl (3, 0)), .inl s1, .inr (.inl (7, q0))]) (σ' := σ) rfl).trans ?_
  exact Rx_call (n := 3) (y' := k_X0_digitAt) (as := [.inr (.inl (3, 0)), .inl (wr (x1 + 2))]) (rest := [.inl s1, .inr (.inl (7, q0))]) rfl rfl rfl
theorem b_X0_tell_103 (x1 : Int) (r2 : Nat) (s1 : Int) (q0 : Nat) (σ : St) (g0a : -2147483648 ≤ (x1 + 2)) (g0b : (x1 + 2) < 2147483648) : Rx k_X0_tell 103 [.inr (.inl (3, 0)), .inl x1, .inr (.inl (7, r2))] [.inl s1, .inr (.inl (7, q0))] σ = (Rx k_X0_digitAt 0 [.inr (.inl (3, 0)), .inl (x1 + 2)] [] σ).bind fun q => Rx k_X0_tell 110 [.inr (.inl (3, 0)), .inl x1, .inr (.inl (7, r2))] (q.1.toList ++ [.inl s1, .inr (.inl (7, q0))]) q.2 := by
  have e0 := wr_id (x := (x1 + 2)) g0a g0b
  have raw := r_X0_tell_103 x1 r2 s1 q0 σ 
  simp only [e0] at raw
  exact raw
theorem r_X0_tell_110 (x1 : Int) (r2 : Nat) (s2 : Int) (s1 : Int) (q0 : Nat) (σ : St) : Rx k_X0_tell 110 [.inr (.inl (3, 0)), .inl x1, .inr (.inl (7, r2))] [.inl s2, .inl s1, .inr (.inl (7, q0))] σ = (Rx k_X0_numberAt 0 [.inr (.inl (3, 0)), .inl (wr (x1 + 3))] [] σ).bind fun q => Rx k_X0_tell 117 [.inr (.inl (3, 0)), .inl x1, .inr (.inl (7, r2))] (q.1.toList ++ [.inl s2, .inl s1, .inr (.inl (7, q0))]) q.2 := by
  refine (Rx_N (k := 4) (pc' := 114) (ls' := [.inr (.inl (3, 0)), .inl x1, .inr (.inl (7, r2))]) (st' := [.inl (wr (x1 + 3)), .inr (.inl (3, 0)), .inl s2, .inl s1, .inr (.inl (7, q0))]) (σ' := σ) rfl).trans ?_
  exact Rx_call (n := 3) (y' := k_X0_numberAt) (as := [.inr (.inl (3, 0)), .inl (wr (x1 + 3))]) (rest := [.inl s2, .inl s1, .inr (.inl (7, q0))]) rfl rfl rfl
theorem b_X0_tell_110 (x1 : Int) (r2 : Nat) (s2 : Int) (s1 : Int) (q0 : Nat) (σ : St) (g0a : -2147483648 ≤ (x1 + 3)) (g0b : (x1 + 3) < 2147483648) : Rx k_X0_tell 110 [.inr (.inl (3, 0)), .inl x1, .inr (.inl (7, r2))] [.inl s2, .inl s1, .inr (.inl (7, q0))] σ = (Rx k_X0_numberAt 0 [.inr (.inl (3, 0)), .inl (x1 + 3)] [] σ).bind fun q => Rx k_X0_tell 117 [.inr (.inl (3, 0)), .inl x1, .inr (.inl (7, r2))] (q.1.toList ++ [.inl s2, .inl s1, .inr (.inl (7, q0))]) q.2 := by
  have e0 := wr_id (x := (x1 + 3)) g0a g0b
  have raw := r_X0_tell_110 x1 r2 s2 s1 q0 σ 
  simp only [e0] at raw
  exact raw
theorem b_X0_tell_117 (x1 : Int) (r2 : Nat) (s3 : Int) (s2 : Int) (s1 : Int) (q0 : Nat) (σ : St) : Rx k_X0_tell 117 [.inr (.inl (3, 0)), .inl x1, .inr (.inl (7, r2))] [.inl s3, .inl s2, .inl s1, .inr (.inl (7, q0))] σ = (Rx k_X2_addPurpose 0 [.inr (.inl (7, q0)), .inl s1, .inl s2, .inl s3] [] σ).bind fun q => Rx k_X0_tell 120 [.inr (.inl (3, 0)), .inl x1, .inr (.inl (7, r2))] (q.1.toList ++ []) q.2 := by
  exact Rx_call (n := 3) (y' := k_X2_addPurpose) (as := [.inr (.inl (7, q0)), .inl s1, .inl s2, .inl s3]) (rest := []) rfl rfl rfl
theorem b_X0_tell_120 (x1 : Int) (r2 : Nat) (s0 : Int) (σ : St) (h0 : rkOK 2 s0 = true) : Rx k_X0_tell 120 [.inr (.inl (3, 0)), .inl x1, .inr (.inl (7, r2))] [.inl s0] σ = some (some (.inl s0), σ) := by
  exact Rx_ret rfl (if_pos h0)
theorem r_X0_tell_121 (x1 : Int) (r2 : Nat) (σ : St) : Rx k_X0_tell 121 [.inr (.inl (3, 0)), .inl x1, .inr (.inl (7, r2))] [] σ = (Rx k_X0_digitAt 0 [.inr (.inl (3, 0)), .inl (wr (x1 + 1))] [] σ).bind fun q => Rx k_X0_tell 129 [.inr (.inl (3, 0)), .inl x1, .inr (.inl (7, r2))] (q.1.toList ++ [.inr (.inl (7, r2))]) q.2 := by
  refine (Rx_N (k := 5) (pc' := 126) (ls' := [.inr (.inl (3, 0)), .inl x1, .inr (.inl (7, r2))]) (st' := [.inl (wr (x1 + 1)), .inr (.inl (3, 0)), .inr (.inl (7, r2))]) (σ' := σ) rfl).trans ?_
  exact Rx_call (n := 3) (y' := k_X0_digitAt) (as := [.inr (.inl (3, 0)), .inl (wr (x1 + 1))]) (rest := [.inr (.inl (7, r2))]) rfl rfl rfl
theorem b_X0_tell_121 (x1 : Int) (r2 : Nat) (σ : St) (g0a : -2147483648 ≤ (x1 + 1)) (g0b : (x1 + 1) < 2147483648) : Rx k_X0_tell 121 [.inr (.inl (3, 0)), .inl x1, .inr (.inl (7, r2))] [] σ = (Rx k_X0_digitAt 0 [.inr (.inl (3, 0)), .inl (x1 + 1)] [] σ).bind fun q => Rx k_X0_tell 129 [.inr (.inl (3, 0)), .inl x1, .inr (.inl (7, r2))] (q.1.toList ++ [.inr (.inl (7, r2))]) q.2 := by
  have e0 := wr_id (x := (x1 + 1)) g0a g0b
  have raw := r_X0_tell_121 x1 r2 σ 
  simp only [e0] at raw
  exact raw
theorem r_X0_tell_129 (x1 : Int) (r2 : Nat) (s1 : Int) (q0 : Nat) (σ : St) : Rx k_X0_tell 129 [.inr (.inl (3, 0)), .inl x1, .inr (.inl (7, r2))] [.inl s1, .inr (.inl (7, q0))] σ = (Rx k_X0_numberAt 0 [.inr (.inl (3, 0)), .inl (wr (x1 + 2))] [] σ).bind fun q => Rx k_X0_tell 136 [.inr (.inl (3, 0)), .inl x1, .inr (.inl (7, r2))] (q.1.toList ++ [.inl s1, .inr (.inl (7, q0))]) q.2 := by
  refine (Rx_N (k := 4) (pc' := 133) (ls' := [.inr (.inl (3, 0)), .inl x1, .inr (.inl (7, r2))]) (st' := [.inl (wr (x1 + 2)), .inr (.inl (3, 0)), .inl s1, .inr (.inl (7, q0))]) (σ' := σ) rfl).trans ?_
  exact Rx_call (n := 3) (y' := k_X0_numberAt) (as := [.inr (.inl (3, 0)), .inl (wr (x1 + 2))]) (rest := [.inl s1, .inr (.inl (7, q0))]) rfl rfl rfl
theorem b_X0_tell_129 (x1 : Int) (r2 : Nat) (s1 : Int) (q0 : Nat) (σ : St) (g0a : -2147483648 ≤ (x1 + 2)) (g0b : (x1 + 2) < 2147483648) : Rx k_X0_tell 129 [.inr (.inl (3, 0)), .inl x1, .inr (.inl (7, r2))] [.inl s1, .inr (.inl (7, q0))] σ = (Rx k_X0_numberAt 0 [.inr (.inl (3, 0)), .inl (x1 + 2)] [] σ).bind fun q => Rx k_X0_tell 136 [.inr (.inl (3, 0)), .inl x1, .inr (.inl (7, r2))] (q.1.toList ++ [.inl s1, .inr (.inl (7, q0))]) q.2 := by
  have e0 := wr_id (x := (x1 + 2)) g0a g0b
  have raw := r_X0_tell_129 x1 r2 s1 q0 σ 
  simp only [e0] at raw
  exact raw
theorem r_X0_tell_136 (x1 : Int) (r2 : Nat) (s2 : Int) (s1 : Int) (q0 : Nat) (σ : St) : Rx k_X0_tell 136 [.inr (.inl (3, 0)), .inl x1, .inr (.inl (7, r2))] [.inl s2, .inl s1, .inr (.inl (7, q0))] σ = (Rx k_X0_digitAt 0 [.inr (.inl (3, 0)), .inl (wr (x1 + 4))] [] σ).bind fun q => Rx k_X0_tell 143 [.inr (.inl (3, 0)), .inl x1, .inr (.inl (7, r2))] (q.1.toList ++ [.inl s2, .inl s1, .inr (.inl (7, q0))]) q.2 := by
  refine (Rx_N (k := 4) (pc' := 140) (ls' := [.inr (.inl (3, 0)), .inl x1, .inr (.inl (7, r2))]) (st' := [.inl (wr (x1 + 4)), .inr (.inl (3, 0)), .inl s2, .inl s1, .inr (.inl (7, q0))]) (σ' := σ) rfl).trans ?_
  exact Rx_call (n := 3) (y' := k_X0_digitAt) (as := [.inr (.inl (3, 0)), .inl (wr (x1 + 4))]) (rest := [.inl s2, .inl s1, .inr (.inl (7, q0))]) rfl rfl rfl
theorem b_X0_tell_136 (x1 : Int) (r2 : Nat) (s2 : Int) (s1 : Int) (q0 : Nat) (σ : St) (g0a : -2147483648 ≤ (x1 + 4)) (g0b : (x1 + 4) < 2147483648) : Rx k_X0_tell 136 [.inr (.inl (3, 0)), .inl x1, .inr (.inl (7, r2))] [.inl s2, .inl s1, .inr (.inl (7, q0))] σ = (Rx k_X0_digitAt 0 [.inr (.inl (3, 0)), .inl (x1 + 4)] [] σ).bind fun q => Rx k_X0_tell 143 [.inr (.inl (3, 0)), .inl x1, .inr (.inl (7, r2))] (q.1.toList ++ [.inl s2, .inl s1, .inr (.inl (7, q0))]) q.2 := by
  have e0 := wr_id (x := (x1 + 4)) g0a g0b
  have raw := r_X0_tell_136 x1 r2 s2 s1 q0 σ 
  simp only [e0] at raw
  exact raw
theorem b_X0_tell_143 (x1 : Int) (r2 : Nat) (s3 : Int) (s2 : Int) (s1 : Int) (q0 : Nat) (σ : St) : Rx k_X0_tell 143 [.inr (.inl (3, 0)), .inl x1, .inr (.inl (7, r2))] [.inl s3, .inl s2, .inl s1, .inr (.inl (7, q0))] σ = (Rx k_X2_addThing 0 [.inr (.inl (7, q0)), .inl s1, .inl s2, .inl s3, uns] [] σ).bind fun q => Rx k_X0_tell 146 [.inr (.inl (3, 0)), .inl x1, .inr (.inl (7, r2))] (q.1.toList ++ []) q.2 := by
  exact Rx_call (n := 3) (y' := k_X2_addThing) (as := [.inr (.inl (7, q0)), .inl s1, .inl s2, .inl s3]) (rest := []) rfl rfl rfl
theorem b_X0_tell_146 (x1 : Int) (r2 : Nat) (s0 : Int) (σ : St) (h0 : rkOK 2 s0 = true) : Rx k_X0_tell 146 [.inr (.inl (3, 0)), .inl x1, .inr (.inl (7, r2))] [.inl s0] σ = some (some (.inl s0), σ) := by
  exact Rx_ret rfl (if_pos h0)
theorem r_X0_tell_147 (x1 : Int) (r2 : Nat) (σ : St) : Rx k_X0_tell 147 [.inr (.inl (3, 0)), .inl x1, .inr (.inl (7, r2))] [] σ = (Rx k_X0_digitAt 0 [.inr (.inl (3, 0)), .inl (wr (x1 + 1))] [] σ).bind fun q => Rx k_X0_tell 155 [.inr (.inl (3, 0)), .inl x1, .inr (.inl (7, r2))] (q.1.toList ++ [.inr (.inl (7, r2))]) q.2 := by
  refine (Rx_N (k := 5) (pc' := 152) (ls' := [.inr (.inl (3, 0)), .inl x1, .inr (.inl (7, r2))]) (st' := [.inl (wr (x1 + 1)), .inr (.inl (3, 0)), .inr (.inl (7, r2))]) (σ' := σ) rfl).trans ?_
  exact Rx_call (n := 3) (y' := k_X0_digitAt) (as := [.inr (.inl (3, 0)), .inl (wr (x1 + 1))]) (rest := [.inr (.inl (7, r2))]) rfl rfl rfl
theorem b_X0_tell_147 (x1 : Int) (r2 : Nat) (σ : St) (g0a : -2147483648 ≤ (x1 + 1)) (g0b : (x1 + 1) < 2147483648) : Rx k_X0_tell 147 [.inr (.inl (3, 0)), .inl x1, .inr (.inl (7, r2))] [] σ = (Rx k_X0_digitAt 0 [.inr (.inl (3, 0)), .inl (x1 + 1)] [] σ).bind fun q => Rx k_X0_tell 155 [.inr (.inl (3, 0)), .inl x1, .inr (.inl (7, r2))] (q.1.toList ++ [.inr (.inl (7, r2))]) q.2 := by
  have e0 := wr_id (x := (x1 + 1)) g0a g0b
  have raw := r_X0_tell_147 x1 r2 σ 
  simp only [e0] at raw
  exact raw
theorem r_X0_tell_155 (x1 : Int) (r2 : Nat) (s1 : Int) (q0 : Nat) (σ : St) : Rx k_X0_tell 155 [.inr (.inl (3, 0)), .inl x1, .inr (.inl (7, r2))] [.inl s1, .inr (.inl (7, q0))] σ = (Rx k_X0_digitAt 0 [.inr (.inl (3, 0)), .inl (wr (x1 + 2))] [] σ).bind fun q => Rx k_X0_tell 162 [.inr (.inl (3, 0)), .inl x1, .inr (.inl (7, r2))] (q.1.toList ++ [.inl s1, .inr (.inl (7, q0))]) q.2 := by
  refine (Rx_N (k := 4) (pc' := 159) (ls' := [.inr (.inl (3, 0)), .inl x1, .inr (.inl (7, r2))]) (st' := [.inl (wr (x1 + 2)), .inr (.inl (3, 0)), .inl s1, .inr (.inl (7, q0))]) (σ' := σ) rfl).trans ?_
  exact Rx_call (n := 3) (y' := k_X0_digitAt) (as := [.inr (.inl (3, 0)), .inl (wr (x1 + 2))]) (rest := [.inl s1, .inr (.inl (7, q0))]) rfl rfl rfl
theorem b_X0_tell_155 (x1 : Int) (r2 : Nat) (s1 : Int) (q0 : Nat) (σ : St) (g0a : -2147483648 ≤ (x1 + 2)) (g0b : (x1 + 2) < 2147483648) : Rx k_X0_tell 155 [.inr (.inl (3, 0)), .inl x1, .inr (.inl (7, r2))] [.inl s1, .inr (.inl (7, q0))] σ = (Rx k_X0_digitAt 0 [.inr (.inl (3, 0)), .inl (x1 + 2)] [] σ).bind fun q => Rx k_X0_tell 162 [.inr (.inl (3, 0)), .inl x1, .inr (.inl (7, r2))] (q.1.toList ++ [.inl s1, .inr (.inl (7, q0))]) q.2 := by
  have e0 := wr_id (x := (x1 + 2)) g0a g0b
  have raw := r_X0_tell_155 x1 r2 s1 q0 σ 
  simp only [e0] at raw
  exact raw
theorem b_X0_tell_162 (x1 : Int) (r2 : Nat) (s2 : Int) (s1 : Int) (q0 : Nat) (σ : St) : Rx k_X0_tell 162 [.inr (.inl (3, 0)), .inl x1, .inr (.inl (7, r2))] [.inl s2, .inl s1, .inr (.inl (7, q0))] σ = (Rx k_X2_leanOn 0 [.inr (.inl (7, q0)), .inl s1, .inl s2] [] σ).bind fun q => Rx k_X0_tell 165 [.inr (.inl (3, 0)), .inl x1, .inr (.inl (7, r2))] (q.1.toList ++ []) q.2 := by
  exact Rx_call (n := 3) (y' := k_X2_leanOn) (as := [.inr (.inl (7, q0)), .inl s1, .inl s2]) (rest := []) rfl rfl rfl
theorem b_X0_tell_165 (x1 : Int) (r2 : Nat) (s0 : Int) (σ : St) (h0 : rkOK 2 s0 = true) : Rx k_X0_tell 165 [.inr (.inl (3, 0)), .inl x1, .inr (.inl (7, r2))] [.inl s0] σ = some (some (.inl s0), σ) := by
  exact Rx_ret rfl (if_pos h0)
theorem r_X0_tell_166 (x1 : Int) (r2 : Nat) (σ : St) : Rx k_X0_tell 166 [.inr (.inl (3, 0)), .inl x1, .inr (.inl (7, r2))] [] σ = (Rx k_X0_digitAt 0 [.inr (.inl (3, 0)), .inl (wr (x1 + 1))] [] σ).bind fun q => Rx k_X0_tell 174 [.inr (.inl (3, 0)), .inl x1, .inr (.inl (7, r2))] (q.1.toList ++ [.inr (.inl (7, r2))]) q.2 := by
  refine (Rx_N (k := 5) (pc' := 171) (ls' := [.inr (.inl (3, 0)), .inl x1, .inr (.inl (7, r2))]) (st' := [.inl (wr (x1 + 1)), .inr (.inl (3, 0)), .inr (.inl (7, r2))]) (σ' := σ) rfl).trans ?_
  exact Rx_call (n := 3) (y' := k_X0_digitAt) (as := [.inr (.inl (3, 0)), .inl (wr (x1 + 1))]) (rest := [.inr (.inl (7, r2))]) rfl rfl rfl
theorem b_X0_tell_166 (x1 : Int) (r2 : Nat) (σ : St) (g0a : -2147483648 ≤ (x1 + 1)) (g0b : (x1 + 1) < 2147483648) : Rx k_X0_tell 166 [.inr (.inl (3, 0)), .inl x1, .inr (.inl (7, r2))] [] σ = (Rx k_X0_digitAt 0 [.inr (.inl (3, 0)), .inl (x1 + 1)] [] σ).bind fun q => Rx k_X0_tell 174 [.inr (.inl (3, 0)), .inl x1, .inr (.inl (7, r2))] (q.1.toList ++ [.inr (.inl (7, r2))]) q.2 := by
  have e0 := wr_id (x := (x1 + 1)) g0a g0b
  have raw := r_X0_tell_166 x1 r2 σ 
  simp only [e0] at raw
  exact raw
theorem b_X0_tell_174 (x1 : Int) (r2 : Nat) (s1 : Int) (q0 : Nat) (σ : St) : Rx k_X0_tell 174 [.inr (.inl (3, 0)), .inl x1, .inr (.inl (7, r2))] [.inl s1, .inr (.inl (7, q0))] σ = (Rx k_X2_raise 0 [.inr (.inl (7, q0)), .inl s1] [] σ).bind fun q => Rx k_X0_tell 177 [.inr (.inl (3, 0)), .inl x1, .inr (.inl (7, r2))] (q.1.toList ++ []) q.2 := by
  exact Rx_call (n := 3) (y' := k_X2_raise) (as := [.inr (.inl (7, q0)), .inl s1]) (rest := []) rfl rfl rfl
theorem b_X0_tell_177 (x1 : Int) (r2 : Nat) (s0 : Int) (σ : St) (h0 : rkOK 2 s0 = true) : Rx k_X0_tell 177 [.inr (.inl (3, 0)), .inl x1, .inr (.inl (7, r2))] [.inl s0] σ = some (some (.inl s0), σ) := by
  exact Rx_ret rfl (if_pos h0)
theorem r_X0_tell_178 (x1 : Int) (r2 : Nat) (σ : St) : Rx k_X0_tell 178 [.inr (.inl (3, 0)), .inl x1, .inr (.inl (7, r2))] [] σ = (Rx k_X0_digitAt 0 [.inr (.inl (3, 0)), .inl (wr (x1 + 1))] [] σ).bind fun q => Rx k_X0_tell 186 [.inr (.inl (3, 0)), .inl x1, .inr (.inl (7, r2))] (q.1.toList ++ [.inr (.inl (7, r2))]) q.2 := by
  refine (Rx_N (k := 5) (pc' := 183) (ls' := [.inr (.inl (3, 0)), .inl x1, .inr (.inl (7, r2))]) (st' := [.inl (wr (x1 + 1)), .inr (.inl (3, 0)), .inr (.inl (7, r2))]) (σ' := σ) rfl).trans ?_
  exact Rx_call (n := 3) (y' := k_X0_digitAt) (as := [.inr (.inl (3, 0)), .inl (wr (x1 + 1))]) (rest := [.inr (.inl (7, r2))]) rfl rfl rfl
theorem b_X0_tell_178 (x1 : Int) (r2 : Nat) (σ : St) (g0a : -2147483648 ≤ (x1 + 1)) (g0b : (x1 + 1) < 2147483648) : Rx k_X0_tell 178 [.inr (.inl (3, 0)), .inl x1, .inr (.inl (7, r2))] [] σ = (Rx k_X0_digitAt 0 [.inr (.inl (3, 0)), .inl (x1 + 1)] [] σ).bind fun q => Rx k_X0_tell 186 [.inr (.inl (3, 0)), .inl x1, .inr (.inl (7, r2))] (q.1.toList ++ [.inr (.inl (7, r2))]) q.2 := by
  have e0 := wr_id (x := (x1 + 1)) g0a g0b
  have raw := r_X0_tell_178 x1 r2 σ 
  simp only [e0] at raw
  exact raw
theorem r_X0_tell_186 (x1 : Int) (r2 : Nat) (s1 : Int) (q0 : Nat) (σ : St) : Rx k_X0_tell 186 [.inr (.inl (3, 0)), .inl x1, .inr (.inl (7, r2))] [.inl s1, .inr (.inl (7, q0))] σ = (Rx k_X0_numberAt 0 [.inr (.inl (3, 0)), .inl (wr (x1 + 2))] [] σ).bind fun q => Rx k_X0_tell 193 [.inr (.inl (3, 0)), .inl x1, .inr (.inl (7, r2))] (q.1.toList ++ [.inl s1, .inr (.inl (7, q0))]) q.2 := by
  refine (Rx_N (k := 4) (pc' := 190) (ls' := [.inr (.inl (3, 0)), .inl x1, .inr (.inl (7, r2))]) (st' := [.inl (wr (x1 + 2)), .inr (.inl (3, 0)), .inl s1, .inr (.inl (7, q0))]) (σ' := σ) rfl).trans ?_
  exact Rx_call (n := 3) (y' := k_X0_numberAt) (as := [.inr (.inl (3, 0)), .inl (wr (x1 + 2))]) (rest := [.inl s1, .inr (.inl (7, q0))]) rfl rfl rfl
theorem b_X0_tell_186 (x1 : Int) (r2 : Nat) (s1 : Int) (q0 : Nat) (σ : St) (g0a : -2147483648 ≤ (x1 + 2)) (g0b : (x1 + 2) < 2147483648) : Rx k_X0_tell 186 [.inr (.inl (3, 0)), .inl x1, .inr (.inl (7, r2))] [.inl s1, .inr (.inl (7, q0))] σ = (Rx k_X0_numberAt 0 [.inr (.inl (3, 0)), .inl (x1 + 2)] [] σ).bind fun q => Rx k_X0_tell 193 [.inr (.inl (3, 0)), .inl x1, .inr (.inl (7, r2))] (q.1.toList ++ [.inl s1, .inr (.inl (7, q0))]) q.2 := by
  have e0 := wr_id (x := (x1 + 2)) g0a g0b
  have raw := r_X0_tell_186 x1 r2 s1 q0 σ 
  simp only [e0] at raw
  exact raw
theorem b_X0_tell_193 (x1 : Int) (r2 : Nat) (s2 : Int) (s1 : Int) (q0 : Nat) (σ : St) : Rx k_X0_tell 193 [.inr (.inl (3, 0)), .inl x1, .inr (.inl (7, r2))] [.inl s2, .inl s1, .inr (.inl (7, q0))] σ = (Rx k_X2_strengthen 0 [.inr (.inl (7, q0)), .inl s1, .inl s2] [] σ).bind fun q => Rx k_X0_tell 196 [.inr (.inl (3, 0)), .inl x1, .inr (.inl (7, r2))] (q.1.toList ++ []) q.2 := by
  exact Rx_call (n := 3) (y' := k_X2_strengthen) (as := [.inr (.inl (7, q0)), .inl s1, .inl s2]) (rest := []) rfl rfl rfl
theorem b_X0_tell_196 (x1 : Int) (r2 : Nat) (s0 : Int) (σ : St) (h0 : rkOK 2 s0 = true) : Rx k_X0_tell 196 [.inr (.inl (3, 0)), .inl x1, .inr (.inl (7, r2))] [.inl s0] σ = some (some (.inl s0), σ) := by
  exact Rx_ret rfl (if_pos h0)
theorem r_X0_tell_197 (x1 : Int) (r2 : Nat) (σ : St) : Rx k_X0_tell 197 [.inr (.inl (3, 0)), .inl x1, .inr (.inl (7, r2))] [] σ = (Rx k_X0_numberAt 0 [.inr (.inl (3, 0)), .inl (wr (x1 + 1))] [] σ).bind fun q => Rx k_X0_tell 204 [.inr (.inl (3, 0)), .inl x1, .inr (.inl (7, r2))] (q.1.toList ++ []) q.2 := by
  refine (Rx_N (k := 4) (pc' := 201) (ls' := [.inr (.inl (3, 0)), .inl x1, .inr (.inl (7, r2))]) (st' := [.inl (wr (x1 + 1)), .inr (.inl (3, 0))]) (σ' := σ) rfl).trans ?_
  exact Rx_call (n := 3) (y' := k_X0_numberAt) (as := [.inr (.inl (3, 0)), .inl (wr (x1 + 1))]) (rest := []) rfl rfl rfl
theorem b_X0_tell_197 (x1 : Int) (r2 : Nat) (σ : St) (g0a : -2147483648 ≤ (x1 + 1)) (g0b : (x1 + 1) < 2147483648) : Rx k_X0_tell 197 [.inr (.inl (3, 0)), .inl x1, .inr (.inl (7, r2))] [] σ = (Rx k_X0_numberAt 0 [.inr (.inl (3, 0)), .inl (x1 + 1)] [] σ).bind fun q => Rx k_X0_tell 204 [.inr (.inl (3, 0)), .inl x1, .inr (.inl (7, r2))] (q.1.toList ++ []) q.2 := by
  have e0 := wr_id (x := (x1 + 1)) g0a g0b
  have raw := r_X0_tell_197 x1 r2 σ 
  simp only [e0] at raw
  exact raw
theorem b_X0_tell_204 (x1 : Int) (r2 : Nat) (s0 : Int) (σ : St) : Rx k_X0_tell 204 [.inr (.inl (3, 0)), .inl x1, .inr (.inl (7, r2))] [.inl s0] σ = (Rx k_X0_tellDays 0 [.inl s0, .inr (.inl (7, r2)), uns] [] σ).bind fun q => Rx k_X0_tell 208 [.inr (.inl (3, 0)), .inl x1, .inr (.inl (7, r2))] (q.1.toList ++ []) q.2 := by
  refine (Rx_N (k := 1) (pc' := 205) (ls' := [.inr (.inl (3, 0)), .inl x1, .inr (.inl (7, r2))]) (st' := [.inr (.inl (7, r2)), .inl s0]) (σ' := σ) rfl).trans ?_
  exact Rx_call (n := 3) (y' := k_X0_tellDays) (as := [.inl s0, .inr (.inl (7, r2))]) (rest := []) rfl rfl rfl
theorem b_X0_tell_208 (x1 : Int) (r2 : Nat) (s0 : Int) (σ : St) (h0 : rkOK 2 s0 = true) : Rx k_X0_tell 208 [.inr (.inl (3, 0)), .inl x1, .inr (.inl (7, r2))] [.inl s0] σ = some (some (.inl s0), σ) := by
  exact Rx_ret rfl (if_pos h0)
theorem b_X0_tell_209 (x1 : Int) (r2 : Nat) (σ : St) : Rx k_X0_tell 209 [.inr (.inl (3, 0)), .inl x1, .inr (.inl (7, r2))] [] σ = some (some (.inl 0), σ) := by
  refine (Rx_N (k := 1) (pc' := 210) (ls' := [.inr (.inl (3, 0)), .inl x1, .inr (.inl (7, r2))]) (st' := [.inl 0]) (σ' := σ) rfl).trans ?_
  exact Rx_ret rfl rfl
theorem b_X0_tellDays_0 (x0 : Int) (r1 : Nat) (u2 : AV) (σ : St) : Rx k_X0_tellDays 0 [.inl x0, .inr (.inl (7, r1)), u2] [] σ = if x0 < 1 then Rx k_X0_tellDays 23 [.inl x0, .inr (.inl (7, r1)), u2] [] σ else Rx k_X0_tellDays 5 [.inl x0, .inr (.inl (7, r1)), u2] [] σ := by
  exact Rx_lt0 (k := 3) rfl
theorem b_X0_tellDays_5 (x0 : Int) (r1 : Nat) (u2 : AV) (σ : St) : Rx k_X0_tellDays 5 [.inl x0, .inr (.inl (7, r1)), u2] [] σ = if 60 < x0 then Rx k_X0_tellDays 23 [.inl x0, .inr (.inl (7, r1)), u2] [] σ else Rx k_X0_tellDays 11 [.inl x0, .inr (.inl (7, r1)), u2] [] σ := by
  exact Rx_gt0 (k := 3) rfl
theorem r_X0_tellDays_11 (x0 : Int) (r1 : Nat) (u2 : AV) (σ : St) : Rx k_X0_tellDays 11 [.inl x0, .inr (.inl (7, r1)), u2] [] σ = if (wr (999 - (σ 7 r1 2))) < x0 then Rx k_X0_tellDays 23 [.inl x0, .inr (.inl (7, r1)), u2] [] σ else Rx k_X0_tellDays 25 [.inl x0, .inr (.inl (7, r1)), u2] [] σ := by
  exact Rx_le0 (k := 6) rfl
theorem b_X0_tellDays_11 (x0 : Int) (r1 : Nat) (u2 : AV) (σ : St) (g0a : -2147483648 ≤ (999 - (σ 7 r1 2))) (g0b : (999 - (σ 7 r1 2)) < 2147483648) : Rx k_X0_tellDays 11 [.inl x0, .inr (.inl (7, r1)), u2] [] σ = if (999 - (σ 7 r1 2)) < x0 then Rx k_X0_tellDays 23 [.inl x0, .inr (.inl (7, r1)), u2] [] σ else Rx k_X0_tellDays 25 [.inl x0, .inr (.inl (7, r1)), u2] [] σ := by
  have e0 := wr_id (x := (999 - (σ 7 r1 2))) g0a g0b
  have raw := r_X0_tellDays_11 x0 r1 u2 σ 
  simp only [e0] at raw
  exact raw
theorem b_X0_tellDays_23 (x0 : Int) (r1 : Nat) (u2 : AV) (σ : St) : Rx k_X0_tellDays 23 [.inl x0, .inr (.inl (7, r1)), u2] [] σ = some (some (.inl 0), σ) := by
  refine (Rx_N (k := 1) (pc' := 24) (ls' := [.inl x0, .inr (.inl (7, r1)), u2]) (st' := [.inl 0]) (σ' := σ) rfl).trans ?_
  exact Rx_ret rfl rfl
theorem b_X0_tellDays_25 (x0 : Int) (r1 : Nat) (u2 : AV) (σ : St) : Rx k_X0_tellDays 25 [.inl x0, .inr (.inl (7, r1)), u2] [] σ = Rx k_X0_tellDays 27 [.inl x0, .inr (.inl (7, r1)), .inl 0] [] σ := by
  refine (Rx_N (k := 2) (pc' := 27) (ls' := [.inl x0, .inr (.inl (7, r1)), .inl 0]) (st' := []) (σ' := σ) rfl).trans ?_
  rfl
theorem b_X0_tellDays_27 (x0 : Int) (r1 : Nat) (x2 : Int) (σ : St) : Rx k_X0_tellDays 27 [.inl x0, .inr (.inl (7, r1)), .inl x2] [] σ = if x2 < x0 then Rx k_X0_tellDays 32 [.inl x0, .inr (.inl (7, r1)), .inl x2] [] σ else Rx k_X0_tellDays 42 [.inl x0, .inr (.inl (7, r1)), .inl x2] [] σ := by
  exact Rx_ge0 (k := 3) rfl
theorem b_X0_tellDays_32 (x0 : Int) (r1 : Nat) (x2 : Int) (σ : St) : Rx k_X0_tellDays 32 [.inl x0, .inr (.inl (7, r1)), .inl x2] [] σ = (Rx k_X2_passDay 0 [.inr (.inl (7, r1)), uns, uns] [] σ).bind fun q => Rx k_X0_tellDays 36 [.inl x0, .inr (.inl (7, r1)), .inl x2] (q.1.toList ++ []) q.2 := by
  refine (Rx_N (k := 1) (pc' := 33) (ls' := [.inl x0, .inr (.inl (7, r1)), .inl x2]) (st' := [.inr (.inl (7, r1))]) (σ' := σ) rfl).trans ?_
  exact Rx_call (n := 3) (y' := k_X2_passDay) (as := [.inr (.inl (7, r1))]) (rest := []) rfl rfl rfl
theorem r_X0_tellDays_36 (x0 : Int) (r1 : Nat) (x2 : Int) (σ : St) : Rx k_X0_tellDays 36 [.inl x0, .inr (.inl (7, r1)), .inl x2] [] σ = Rx k_X0_tellDays 27 [.inl x0, .inr (.inl (7, r1)), .inl (wr (x2 + 1))] [] σ := by
  refine (Rx_N (k := 2) (pc' := 27) (ls' := [.inl x0, .inr (.inl (7, r1)), .inl (wr (x2 + 1))]) (st' := []) (σ' := σ) rfl).trans ?_
  rfl
theorem b_X0_tellDays_36 (x0 : Int) (r1 : Nat) (x2 : Int) (σ : St) (g0a : -2147483648 ≤ (x2 + 1)) (g0b : (x2 + 1) < 2147483648) : Rx k_X0_tellDays 36 [.inl x0, .inr (.inl (7, r1)), .inl x2] [] σ = Rx k_X0_tellDays 27 [.inl x0, .inr (.inl (7, r1)), .inl (x2 + 1)] [] σ := by
  have e0 := wr_id (x := (x2 + 1)) g0a g0b
  have raw := r_X0_tellDays_36 x0 r1 x2 σ 
  simp only [e0] at raw
  exact raw
theorem b_X0_tellDays_42 (x0 : Int) (r1 : Nat) (x2 : Int) (σ : St) : Rx k_X0_tellDays 42 [.inl x0, .inr (.inl (7, r1)), .inl x2] [] σ = some (some (.inl 1), σ) := by
  refine (Rx_N (k := 1) (pc' := 43) (ls' := [.inl x0, .inr (.inl (7, r1)), .inl x2]) (st' := [.inl 1]) (σ' := σ) rfl).trans ?_
  exact Rx_ret rfl rfl
theorem b_X3_by_0 (x0 : Int) (x1 : Int) (x2 : Int) (x3 : Int) (x4 : Int) (u5 : AV) (u6 : AV) (u7 : AV) (σ : St) : Rx k_X3_by 0 [.inl x0, .inl x1, .inl x2, .inl x3, .inl x4, u5, u6, u7] [] σ = (Rx k_X3_ofHabit 0 [.inl x1, .inl x4, uns] [] σ).bind fun q => Rx k_X3_by 6 [.inl x0, .inl x1, .inl x2, .inl x3, .inl x4, u5, u6, u7] (q.1.toList ++ []) q.2 := by
  refine (Rx_N (k := 2) (pc' := 3) (ls' := [.inl x0, .inl x1, .inl x2, .inl x3, .inl x4, u5, u6, u7]) (st' := [.inl x4, .inl x1]) (σ' := σ) rfl).trans ?_
  exact Rx_call (n := 3) (y' := k_X3_ofHabit) (as := [.inl x1, .inl x4]) (rest := []) rfl rfl rfl
theorem b_X3_by_6 (x0 : Int) (x1 : Int) (x2 : Int) (x3 : Int) (x4 : Int) (u5 : AV) (u6 : AV) (u7 : AV) (s0 : Int) (σ : St) : Rx k_X3_by 6 [.inl x0, .inl x1, .inl x2, .inl x3, .inl x4, u5, u6, u7] [.inl s0] σ = if x2 < 50 then Rx k_X3_by 18 [.inl x0, .inl x1, .inl x2, .inl x3, .inl x4, .inl s0, u6, u7] [] σ else Rx k_X3_by 14 [.inl x0, .inl x1, .inl x2, .inl x3, .inl x4, .inl s0, u6, u7] [] σ := by
  exact Rx_lt0 (k := 4) rfl
theorem r_X3_by_14 (x0 : Int) (x1 : Int) (x2 : Int) (x3 : Int) (x4 : Int) (x5 : Int) (u6 : AV) (u7 : AV) (σ : St) : Rx k_X3_by 14 [.inl x0, .inl x1, .inl x2, .inl x3, .inl x4, .inl x5, u6, u7] [] σ = if x0 = 1 then Rx k_X3_by 64 [.inl x0, .inl x1, .inl x2, .inl x3, .inl x4, .inl x5, .inl 0, .inl (wr (1 + x1))] [] σ else if x0 = 2 then Rx k_X3_by 67 [.inl x0, .inl x1, .inl x2, .inl x3, .inl x4, .inl x5, .inl 0, .inl (wr (1 + x1))] [] σ else if x0 = 3 then Rx k_X3_by 70 [.inl x0, .inl x1, .inl x2, .inl x3, .inl x4, .inl x5, .inl 0, .inl (wr (1 + x1))] [] σ else if x0 = 4 then Rx k_X3_by 77 [.inl x0, .inl x1, .inl x2, .inl x3, .inl x4, .inl x5, .inl 0, .inl (wr (1 + x1))] [] σ else if x0 = 5 then Rx k_X3_by 80 [.inl x0, .inl x1, .inl x2, .inl x3, .inl x4, .inl x5, .inl 0, .inl (wr (1 + x1))] [] σ else Rx k_X3_by 93 [.inl x0, .inl x1, .inl x2, .inl x3, .inl x4, .inl x5, .inl 0, .inl (wr (1 + x1))] [] σ := by
  refine (Rx_N (k := 8) (pc' := 28) (ls' := [.inl x0, .inl x1, .inl x2, .inl x3, .inl x4, .inl x5, .inl 0, .inl (wr (1 + x1))]) (st' := [.inl x0]) (σ' := σ) rfl).trans ?_
  generalize x0 = z9
  by_cases e9 : z9 = 1
  · subst e9; exact Rx_N (k := 1) rfl
  by_cases e9 : z9 = 2
  · subst e9; exact Rx_N (k := 1) rfl
  by_cases e9 : z9 = 3
  · subst e9; exact Rx_N (k := 1) rfl
  by_cases e9 : z9 = 4
  · subst e9; exact Rx_N (k := 1) rfl
  by_cases e9 : z9 = 5
  · subst e9; exact Rx_N (k := 1) rfl
  rw [if_neg (by omega)]; rw [if_neg (by omega)]; rw [if_neg (by omega)]; rw [if_neg (by omega)]; rw [if_neg (by omega)]; exact Rx_tout rfl (by omega) rfl
theorem b_X3_by_14 (x0 : Int) (x1 : Int) (x2 : Int) (x3 : Int) (x4 : Int) (x5 : Int) (u6 : AV) (u7 : AV) (σ : St) (g0a : -2147483648 ≤ (1 + x1)) (g0b : (1 + x1) < 2147483648) : Rx k_X3_by 14 [.inl x0, .inl x1, .inl x2, .inl x3, .inl x4, .inl x5, u6, u7] [] σ = if x0 = 1 then Rx k_X3_by 64 [.inl x0, .inl x1, .inl x2, .inl x3, .inl x4, .inl x5, .inl 0, .inl (1 + x1)] [] σ else if x0 = 2 then Rx k_X3_by 67 [.inl x0, .inl x1, .inl x2, .inl x3, .inl x4, .inl x5, .inl 0, .inl (1 + x1)] [] σ else if x0 = 3 then Rx k_X3_by 70 [.inl x0, .inl x1, .inl x2, .inl x3, .inl x4, .inl x5, .inl 0, .inl (1 + x1)] [] σ else if x0 = 4 then Rx k_X3_by 77 [.inl x0, .inl x1, .inl x2, .inl x3, .inl x4, .inl x5, .inl 0, .inl (1 + x1)] [] σ else if x0 = 5 then Rx k_X3_by 80 [.inl x0, .inl x1, .inl x2, .inl x3, .inl x4, .inl x5, .inl 0, .inl (1 + x1)] [] σ else Rx k_X3_by 93 [.inl x0, .inl x1, .inl x2, .inl x3, .inl x4, .inl x5, .inl 0, .inl (1 + x1)] [] σ := by
  have e0 := wr_id (x := (1 + x1)) g0a g0b
  have raw := r_X3_by_14 x0 x1 x2 x3 x4 x5 u6 u7 σ 
  simp only [e0] at raw
  exact raw
theorem r_X3_by_18 (x0 : Int) (x1 : Int) (x2 : Int) (x3 : Int) (x4 : Int) (x5 : Int) (u6 : AV) (u7 : AV) (σ : St) : Rx k_X3_by 18 [.inl x0, .inl x1, .inl x2, .inl x3, .inl x4, .inl x5, u6, u7] [] σ = if x0 = 1 then Rx k_X3_by 64 [.inl x0, .inl x1, .inl x2, .inl x3, .inl x4, .inl x5, .inl x5, .inl (wr (1 + x1))] [] σ else if x0 = 2 then Rx k_X3_by 67 [.inl x0, .inl x1, .inl x2, .inl x3, .inl x4, .inl x5, .inl x5, .inl (wr (1 + x1))] [] σ else if x0 = 3 then Rx k_X3_by 70 [.inl x0, .inl x1, .inl x2, .inl x3, .inl x4, .inl x5, .inl x5, .inl (wr (1 + x1))] [] σ else if x0 = 4 then Rx k_X3_by 77 [.inl x0, .inl x1, .inl x2, .inl x3, .inl x4, .inl x5, .inl x5, .inl (wr (1 + x1))] [] σ else if x0 = 5 then Rx k_X3_by 80 [.inl x0, .inl x1, .inl x2, .inl x3, .inl x4, .inl x5, .inl x5, .inl (wr (1 + x1))] [] σ else Rx k_X3_by 93 [.inl x0, .inl x1, .inl x2, .inl x3, .inl x4, .inl x5, .inl x5, .inl (wr (1 + x1))] [] σ := by
  refine (Rx_N (k := 7) (pc' := 28) (ls' := [.inl x0, .inl x1, .inl x2, .inl x3, .inl x4, .inl x5, .inl x5, .inl (wr (1 + x1))]) (st' := [.inl x0]) (σ' := σ) rfl).trans ?_
  generalize x0 = z9
  by_cases e9 : z9 = 1
  · subst e9; exact Rx_N (k := 1) rfl
  by_cases e9 : z9 = 2
  · subst e9; exact Rx_N (k := 1) rfl
  by_cases e9 : z9 = 3
  · subst e9; exact Rx_N (k := 1) rfl
  by_cases e9 : z9 = 4
  · subst e9; exact Rx_N (k := 1) rfl
  by_cases e9 : z9 = 5
  · subst e9; exact Rx_N (k := 1) rfl
  rw [if_neg (by omega)]; rw [if_neg (by omega)]; rw [if_neg (by omega)]; rw [if_neg (by omega)]; rw [if_neg (by omega)]; exact Rx_tout rfl (by omega) rfl
theorem b_X3_by_18 (x0 : Int) (x1 : Int) (x2 : Int) (x3 : Int) (x4 : Int) (x5 : Int) (u6 : AV) (u7 : AV) (σ : St) (g0a : -2147483648 ≤ (1 + x1)) (g0b : (1 + x1) < 2147483648) : Rx k_X3_by 18 [.inl x0, .inl x1, .inl x2, .inl x3, .inl x4, .inl x5, u6, u7] [] σ = if x0 = 1 then Rx k_X3_by 64 [.inl x0, .inl x1, .inl x2, .inl x3, .inl x4, .inl x5, .inl x5, .inl (1 + x1)] [] σ else if x0 = 2 then Rx k_X3_by 67 [.inl x0, .inl x1, .inl x2, .inl x3, .inl x4, .inl x5, .inl x5, .inl (1 + x1)] [] σ else if x0 = 3 then Rx k_X3_by 70 [.inl x0, .inl x1, .inl x2, .inl x3, .inl x4, .inl x5, .inl x5, .inl (1 + x1)] [] σ else if x0 = 4 then Rx k_X3_by 77 [.inl x0, .inl x1, .inl x2, .inl x3, .inl x4, .inl x5, .inl x5, .inl (1 + x1)] [] σ else if x0 = 5 then Rx k_X3_by 80 [.inl x0, .inl x1, .inl x2, .inl x3, .inl x4, .inl x5, .inl x5, .inl (1 + x1)] [] σ else Rx k_X3_by 93 [.inl x0, .inl x1, .inl x2, .inl x3, .inl x4, .inl x5, .inl x5, .inl (1 + x1)] [] σ := by
  have e0 := wr_id (x := (1 + x1)) g0a g0b
  have raw := r_X3_by_18 x0 x1 x2 x3 x4 x5 u6 u7 σ 
  simp only [e0] at raw
  exact raw
theorem b_X3_by_64 (x0 : Int) (x1 : Int) (x2 : Int) (x3 : Int) (x4 : Int) (x5 : Int) (x6 : Int) (x7 : Int) (σ : St) : Rx k_X3_by 64 [.inl x0, .inl x1, .inl x2, .inl x3, .inl x4, .inl x5, .inl x6, .inl x7] [] σ = some (some (.inl x5), σ) := by
  refine (Rx_N (k := 1) (pc' := 66) (ls' := [.inl x0, .inl x1, .inl x2, .inl x3, .inl x4, .inl x5, .inl x6, .inl x7]) (st' := [.inl x5]) (σ' := σ) rfl).trans ?_
  exact Rx_ret rfl rfl
theorem b_X3_by_67 (x0 : Int) (x1 : Int) (x2 : Int) (x3 : Int) (x4 : Int) (x5 : Int) (x6 : Int) (x7 : Int) (σ : St) : Rx k_X3_by 67 [.inl x0, .inl x1, .inl x2, .inl x3, .inl x4, .inl x5, .inl x6, .inl x7] [] σ = some (some (.inl x6), σ) := by
  refine (Rx_N (k := 1) (pc' := 69) (ls' := [.inl x0, .inl x1, .inl x2, .inl x3, .inl x4, .inl x5, .inl x6, .inl x7]) (st' := [.inl x6]) (σ' := σ) rfl).trans ?_
  exact Rx_ret rfl rfl
theorem r_X3_by_70 (x0 : Int) (x1 : Int) (x2 : Int) (x3 : Int) (x4 : Int) (x5 : Int) (x6 : Int) (x7 : Int) (σ : St) : Rx k_X3_by 70 [.inl x0, .inl x1, .inl x2, .inl x3, .inl x4, .inl x5, .inl x6, .inl x7] [] σ = some (some (.inl (wr (x6 + (wr (x1.tdiv 3))))), σ) := by
  refine (Rx_N (k := 5) (pc' := 76) (ls' := [.inl x0, .inl x1, .inl x2, .inl x3, .inl x4, .inl x5, .inl x6, .inl x7]) (st' := [.inl (wr (x6 + (wr (x1.tdiv 3))))]) (σ' := σ) rfl).trans ?_
  exact Rx_ret rfl rfl
theorem b_X3_by_70 (x0 : Int) (x1 : Int) (x2 : Int) (x3 : Int) (x4 : Int) (x5 : Int) (x6 : Int) (x7 : Int) (σ : St) (g0a : -2147483648 ≤ (x1.tdiv 3)) (g0b : (x1.tdiv 3) < 2147483648) (g1a : -2147483648 ≤ (x6 + (x1.tdiv 3))) (g1b : (x6 + (x1.tdiv 3)) < 2147483648) : Rx k_X3_by 70 [.inl x0, .inl x1, .inl x2, .inl x3, .inl x4, .inl x5, .inl x6, .inl x7] [] σ = some (some (.inl (x6 + (x1.tdiv 3))), σ) := by
  have e0 := wr_id (x := (x1.tdiv 3)) g0a g0b
  have e1 := wr_id (x := (x6 + (x1.tdiv 3))) g1a g1b
  have raw := r_X3_by_70 x0 x1 x2 x3 x4 x5 x6 x7 σ 
  simp only [e0, e1] at raw
  exact raw
theorem b_X3_by_77 (x0 : Int) (x1 : Int) (x2 : Int) (x3 : Int) (x4 : Int) (x5 : Int) (x6 : Int) (x7 : Int) (σ : St) : Rx k_X3_by 77 [.inl x0, .inl x1, .inl x2, .inl x3, .inl x4, .inl x5, .inl x6, .inl x7] [] σ = some (some (.inl x7), σ) := by
  refine (Rx_N (k := 1) (pc' := 79) (ls' := [.inl x0, .inl x1, .inl x2, .inl x3, .inl x4, .inl x5, .inl x6, .inl x7]) (st' := [.inl x7]) (σ' := σ) rfl).trans ?_
  exact Rx_ret rfl rfl
theorem b_X3_by_80 (x0 : Int) (x1 : Int) (x2 : Int) (x3 : Int) (x4 : Int) (x5 : Int) (x6 : Int) (x7 : Int) (σ : St) : Rx k_X3_by 80 [.inl x0, .inl x1, .inl x2, .inl x3, .inl x4, .inl x5, .inl x6, .inl x7] [] σ = if 0 < x3 then Rx k_X3_by 84 [.inl x0, .inl x1, .inl x2, .inl x3, .inl x4, .inl x5, .inl x6, .inl x7] [] σ else Rx k_X3_by 91 [.inl x0, .inl x1, .inl x2, .inl x3, .inl x4, .inl x5, .inl x6, .inl x7] [] σ := by
  exact Rx_le0 (k := 2) rfl
theorem r_X3_by_84 (x0 : Int) (x1 : Int) (x2 : Int) (x3 : Int) (x4 : Int) (x5 : Int) (x6 : Int) (x7 : Int) (σ : St) : Rx k_X3_by 84 [.inl x0, .inl x1, .inl x2, .inl x3, .inl x4, .inl x5, .inl x6, .inl x7] [] σ = some (some (.inl (wr (2 * x7))), σ) := by
  refine (Rx_N (k := 4) (pc' := 92) (ls' := [.inl x0, .inl x1, .inl x2, .inl x3, .inl x4, .inl x5, .inl x6, .inl x7]) (st' := [.inl (wr (2 * x7))]) (σ' := σ) rfl).trans ?_
  exact Rx_ret rfl rfl
theorem b_X3_by_84 (x0 : Int) (x1 : Int) (x2 : Int) (x3 : Int) (x4 : Int) (x5 : Int) (x6 : Int) (x7 : Int) (σ : St) (g0a : -2147483648 ≤ (2 * x7)) (g0b : (2 * x7) < 2147483648) : Rx k_X3_by 84 [.inl x0, .inl x1, .inl x2, .inl x3, .inl x4, .inl x5, .inl x6, .inl x7] [] σ = some (some (.inl (2 * x7)), σ) := by
  have e0 := wr_id (x := (2 * x7)) g0a g0b
  have raw := r_X3_by_84 x0 x1 x2 x3 x4 x5 x6 x7 σ 
  simp only [e0] at raw
  exact raw
theorem b_X3_by_91 (x0 : Int) (x1 : Int) (x2 : Int) (x3 : Int) (x4 : Int) (x5 : Int) (x6 : Int) (x7 : Int) (σ : St) : Rx k_X3_by 91 [.inl x0, .inl x1, .inl x2, .inl x3, .inl x4, .inl x5, .inl x6, .inl x7] [] σ = some (some (.inl 0), σ) := by
  refine (Rx_N (k := 1) (pc' := 92) (ls' := [.inl x0, .inl x1, .inl x2, .inl x3, .inl x4, .inl x5, .inl x6, .inl x7]) (st' := [.inl 0]) (σ' := σ) rfl).trans ?_
  exact Rx_ret rfl rfl
theorem b_X3_by_93 (x0 : Int) (x1 : Int) (x2 : Int) (x3 : Int) (x4 : Int) (x5 : Int) (x6 : Int) (x7 : Int) (σ : St) : Rx k_X3_by 93 [.inl x0, .inl x1, .inl x2, .inl x3, .inl x4, .inl x5, .inl x6, .inl x7] [] σ = some (some (.inl 1), σ) := by
  refine (Rx_N (k := 1) (pc' := 94) (ls' := [.inl x0, .inl x1, .inl x2, .inl x3, .inl x4, .inl x5, .inl x6, .inl x7]) (st' := [.inl 1]) (σ' := σ) rfl).trans ?_
  exact Rx_ret rfl rfl
theorem r_X3_ofHabit_0 (x0 : Int) (x1 : Int) (u2 : AV) (σ : St) : Rx k_X3_ofHabit 0 [.inl x0, .inl x1, u2] [] σ = if 0 < (wr (x0 + 1)) then Rx k_X3_ofHabit 8 [.inl x0, .inl x1, .inl (wr (x0 + 1))] [] σ else Rx k_X3_ofHabit 18 [.inl x0, .inl x1, .inl (wr (x0 + 1))] [] σ := by
  exact Rx_le0 (k := 6) rfl
theorem b_X3_ofHabit_0 (x0 : Int) (x1 : Int) (u2 : AV) (σ : St) (g0a : -2147483648 ≤ (x0 + 1)) (g0b : (x0 + 1) < 2147483648) : Rx k_X3_ofHabit 0 [.inl x0, .inl x1, u2] [] σ = if 0 < (x0 + 1) then Rx k_X3_ofHabit 8 [.inl x0, .inl x1, .inl (x0 + 1)] [] σ else Rx k_X3_ofHabit 18 [.inl x0, .inl x1, .inl (x0 + 1)] [] σ := by
  have e0 := wr_id (x := (x0 + 1)) g0a g0b
  have raw := r_X3_ofHabit_0 x0 x1 u2 σ 
  simp only [e0] at raw
  exact raw
theorem b_X3_ofHabit_8 (x0 : Int) (x1 : Int) (x2 : Int) (σ : St) (h0 : x2 ≠ 0) : Rx k_X3_ofHabit 8 [.inl x0, .inl x1, .inl x2] [] σ = if (x1.tmod x2) = 0 then Rx k_X3_ofHabit 14 [.inl x0, .inl x1, .inl x2] [] σ else Rx k_X3_ofHabit 18 [.inl x0, .inl x1, .inl x2] [] σ := by
  refine (Rx_N (k := 2) (pc' := 10) (ls' := [.inl x0, .inl x1, .inl x2]) (st' := [.inl x2, .inl x1]) (σ' := σ) rfl).trans ?_
  refine (Rx_irem rfl h0).trans ?_
  exact Rx_ne0 (k := 1) rfl
theorem b_X3_ofHabit_14 (x0 : Int) (x1 : Int) (x2 : Int) (σ : St) : Rx k_X3_ofHabit 14 [.inl x0, .inl x1, .inl x2] [] σ = some (some (.inl 1), σ) := by
  refine (Rx_N (k := 2) (pc' := 19) (ls' := [.inl x0, .inl x1, .inl x2]) (st' := [.inl 1]) (σ' := σ) rfl).trans ?_
  exact Rx_ret rfl rfl
theorem b_X3_ofHabit_18 (x0 : Int) (x1 : Int) (x2 : Int) (σ : St) : Rx k_X3_ofHabit 18 [.inl x0, .inl x1, .inl x2] [] σ = some (some (.inl 0), σ) := by
  refine (Rx_N (k := 1) (pc' := 19) (ls' := [.inl x0, .inl x1, .inl x2]) (st' := [.inl 0]) (σ' := σ) rfl).trans ?_
  exact Rx_ret rfl rfl
