set_option maxRecDepth 100000 in
theorem b_L_law_16 (x3 : Int) (σ : St) : Rx k_L_law 16 [.inr (.inl (32, 0)), .inr (.inl (0, 0)), .inr (.inl (16, 0)), .inl x3] [] σ = Rx k_L_law 18 [.inr (.inl (32, 0)), .inr (.inl (0, 0)), .inr (.inl (16, 0)), .inl 0] [] σ := by
  refine (Rx_N (k := 2) (pc' := 18) (ls' := [.inr (.inl (32, 0)), .inr (.inl (0, 0)), .inr (.inl (16, 0)), .inl 0]) (st' := []) (σ' := σ) rfl).trans ?_
  rfl
set_option maxRecDepth 100000 in
theorem r_L_law_18 (x3 : Int) (σ : St) : Rx k_L_law 18 [.inr (.inl (32, 0)), .inr (.inl (0, 0)), .inr (.inl (16, 0)), .inl x3] [] σ = if (wr ((σ 32 1 0) - 6)) < x3 then Rx k_L_law 1352 [.inr (.inl (32, 0)), .inr (.inl (0, 0)), .inr (.inl (16, 0)), .inl x3] [] σ else Rx k_L_law 27 [.inr (.inl (32, 0)), .inr (.inl (0, 0)), .inr (.inl (16, 0)), .inl x3] [] σ := by
  exact Rx_gt0 (k := 6) rfl
set_option maxRecDepth 100000 in
theorem b_L_law_18 (x3 : Int) (σ : St) (g0a : -2147483648 ≤ ((σ 32 1 0) - 6)) (g0b : ((σ 32 1 0) - 6) < 2147483648) : Rx k_L_law 18 [.inr (.inl (32, 0)), .inr (.inl (0, 0)), .inr (.inl (16, 0)), .inl x3] [] σ = if ((σ 32 1 0) - 6) < x3 then Rx k_L_law 1352 [.inr (.inl (32, 0)), .inr (.inl (0, 0)), .inr (.inl (16, 0)), .inl x3] [] σ else Rx k_L_law 27 [.inr (.inl (32, 0)), .inr (.inl (0, 0)), .inr (.inl (16, 0)), .inl x3] [] σ := by
  have e0 := wr_id (x := ((σ 32 1 0) - 6)) g0a g0b
  have raw := r_L_law_18 x3 σ 
  simp only [e0] at raw
  exact raw
set_option maxRecDepth 100000 in
theorem b_L_law_27 (x3 : Int) (σ : St) (h0 : 0 ≤ x3) (h1 : x3 < σ 32 1 0) : Rx k_L_law 27 [.inr (.inl (32, 0)), .inr (.inl (0, 0)), .inr (.inl (16, 0)), .inl x3] [] σ = if (bAnd (σ 32 0 x3.toNat) 63) = 0 then Rx k_L_law 212 [.inr (.inl (32, 0)), .inr (.inl (0, 0)), .inr (.inl (16, 0)), .inl x3] [] σ else if (bAnd (σ 32 0 x3.toNat) 63) = 1 then Rx k_L_law 235 [.inr (.inl (32, 0)), .inr (.inl (0, 0)), .inr (.inl (16, 0)), .inl x3] [] σ else if (bAnd (σ 32 0 x3.toNat) 63) = 2 then Rx k_L_law 248 [.inr (.inl (32, 0)), .inr (.inl (0, 0)), .inr (.inl (16, 0)), .inl x3] [] σ else if (bAnd (σ 32 0 x3.toNat) 63) = 3 then Rx k_L_law 281 [.inr (.inl (32, 0)), .inr (.inl (0, 0)), .inr (.inl (16, 0)), .inl x3] [] σ else if (bAnd (σ 32 0 x3.toNat) 63) = 4 then Rx k_L_law 304 [.inr (.inl (32, 0)), .inr (.inl (0, 0)), .inr (.inl (16, 0)), .inl x3] [] σ else if (bAnd (σ 32 0 x3.toNat) 63) = 5 then Rx k_L_law 337 [.inr (.inl (32, 0)), .inr (.inl (0, 0)), .inr (.inl (16, 0)), .inl x3] [] σ else if (bAnd (σ 32 0 x3.toNat) 63) = 6 then Rx k_L_law 360 [.inr (.inl (32, 0)), .inr (.inl (0, 0)), .inr (.inl (16, 0)), .inl x3] [] σ else if (bAnd (σ 32 0 x3.toNat) 63) = 7 then Rx k_L_law 393 [.inr (.inl (32, 0)), .inr (.inl (0, 0)), .inr (.inl (16, 0)), .inl x3] [] σ else if (bAnd (σ 32 0 x3.toNat) 63) = 8 then Rx k_L_law 426 [.inr (.inl (32, 0)), .inr (.inl (0, 0)), .inr (.inl (16, 0)), .inl x3] [] σ else if (bAnd (σ 32 0 x3.toNat) 63) = 9 then Rx k_L_law 449 [.inr (.inl (32, 0)), .inr (.inl (0, 0)), .inr (.inl (16, 0)), .inl x3] [] σ else if (bAnd (σ 32 0 x3.toNat) 63) = 10 then Rx k_L_law 472 [.inr (.inl (32, 0)), .inr (.inl (0, 0)), .inr (.inl (16, 0)), .inl x3] [] σ else if (bAnd (σ 32 0 x3.toNat) 63) = 11 then Rx k_L_law 505 [.inr (.inl (32, 0)), .inr (.inl (0, 0)), .inr (.inl (16, 0)), .inl x3] [] σ else if (bAnd (σ 32 0 x3.toNat) 63) = 12 then Rx k_L_law 548 [.inr (.inl (32, 0)), .inr (.inl (0, 0)), .inr (.inl (16, 0)), .inl x3] [] σ else if (bAnd (σ 32 0 x3.toNat) 63) = 13 then Rx k_L_law 571 [.inr (.inl (32, 0)), .inr (.inl (0, 0)), .inr (.inl (16, 0)), .inl x3] [] σ else if (bAnd (σ 32 0 x3.toNat) 63) = 14 then Rx k_L_law 604 [.inr (.inl (32, 0)), .inr (.inl (0, 0)), .inr (.inl (16, 0)), .inl x3] [] σ else if (bAnd (σ 32 0 x3.toNat) 63) = 15 then Rx k_L_law 627 [.inr (.inl (32, 0)), .inr (.inl (0, 0)), .inr (.inl (16, 0)), .inl x3] [] σ else if (bAnd (σ 32 0 x3.toNat) 63) = 16 then Rx k_L_law 670 [.inr (.inl (32, 0)), .inr (.inl (0, 0)), .inr (.inl (16, 0)), .inl x3] [] σ else if (bAnd (σ 32 0 x3.toNat) 63) = 17 then Rx k_L_law 693 [.inr (.inl (32, 0)), .inr (.inl (0, 0)), .inr (.inl (16, 0)), .inl x3] [] σ else if (bAnd (σ 32 0 x3.toNat) 63) = 18 then Rx k_L_law 716 [.inr (.inl (32, 0)), .inr (.inl (0, 0)), .inr (.inl (16, 0)), .inl x3] [] σ else if (bAnd (σ 32 0 x3.toNat) 63) = 19 then Rx k_L_law 739 [.inr (.inl (32, 0)), .inr (.inl (0, 0)), .inr (.inl (16, 0)), .inl x3] [] σ else if (bAnd (σ 32 0 x3.toNat) 63) = 20 then Rx k_L_law 762 [.inr (.inl (32, 0)), .inr (.inl (0, 0)), .inr (.inl (16, 0)), .inl x3] [] σ else if (bAnd (σ 32 0 x3.toNat) 63) = 21 then Rx k_L_law 785 [.inr (.inl (32, 0)), .inr (.inl (0, 0)), .inr (.inl (16, 0)), .inl x3] [] σ else if (bAnd (σ 32 0 x3.toNat) 63) = 22 then Rx k_L_law 808 [.inr (.inl (32, 0)), .inr (.inl (0, 0)), .inr (.inl (16, 0)), .inl x3] [] σ else if (bAnd (σ 32 0 x3.toNat) 63) = 23 then Rx k_L_law 831 [.inr (.inl (32, 0)), .inr (.inl (0, 0)), .inr (.inl (16, 0)), .inl x3] [] σ else if (bAnd (σ 32 0 x3.toNat) 63) = 24 then Rx k_L_law 894 [.inr (.inl (32, 0)), .inr (.inl (0, 0)), .inr (.inl (16, 0)), .inl x3] [] σ else if (bAnd (σ 32 0 x3.toNat) 63) = 25 then Rx k_L_law 917 [.inr (.inl (32, 0)), .inr (.inl (0, 0)), .inr (.inl (16, 0)), .inl x3] [] σ else if (bAnd (σ 32 0 x3.toNat) 63) = 26 then Rx k_L_law 940 [.inr (.inl (32, 0)), .inr (.inl (0, 0)), .inr (.inl (16, 0)), .inl x3] [] σ else if (bAnd (σ 32 0 x3.toNat) 63) = 27 then Rx k_L_law 973 [.inr (.inl (32, 0)), .inr (.inl (0, 0)), .inr (.inl (16, 0)), .inl x3] [] σ else if (bAnd (σ 32 0 x3.toNat) 63) = 28 then Rx k_L_law 1006 [.inr (.inl (32, 0)), .inr (.inl (0, 0)), .inr (.inl (16, 0)), .inl x3] [] σ else if (bAnd (σ 32 0 x3.toNat) 63) = 29 then Rx k_L_law 1029 [.inr (.inl (32, 0)), .inr (.inl (0, 0)), .inr (.inl (16, 0)), .inl x3] [] σ else if (bAnd (σ 32 0 x3.toNat) 63) = 30 then Rx k_L_law 1042 [.inr (.inl (32, 0)), .inr (.inl (0, 0)), .inr (.inl (16, 0)), .inl x3] [] σ else if (bAnd (σ 32 0 x3.toNat) 63) = 31 then Rx k_L_law 1075 [.inr (.inl (32, 0)), .inr (.inl (0, 0)), .inr (.inl (16, 0)), .inl x3] [] σ else if (bAnd (σ 32 0 x3.toNat) 63) = 32 then Rx k_L_law 1129 [.inr (.inl (32, 0)), .inr (.inl (0, 0)), .inr (.inl (16, 0)), .inl x3] [] σ else if (bAnd (σ 32 0 x3.toNat) 63) = 33 then Rx k_L_law 1172 [.inr (.inl (32, 0)), .inr (.inl (0, 0)), .inr (.inl (16, 0)), .inl x3] [] σ else if (bAnd (σ 32 0 x3.toNat) 63) = 34 then Rx k_L_law 1205 [.inr (.inl (32, 0)), .inr (.inl (0, 0)), .inr (.inl (16, 0)), .inl x3] [] σ else if (bAnd (σ 32 0 x3.toNat) 63) = 35 then Rx k_L_law 1228 [.inr (.inl (32, 0)), .inr (.inl (0, 0)), .inr (.inl (16, 0)), .inl x3] [] σ else if (bAnd (σ 32 0 x3.toNat) 63) = 36 then Rx k_L_law 1241 [.inr (.inl (32, 0)), .inr (.inl (0, 0)), .inr (.inl (16, 0)), .inl x3] [] σ else if (bAnd (σ 32 0 x3.toNat) 63) = 37 then Rx k_L_law 1254 [.inr (.inl (32, 0)), .inr (.inl (0, 0)), .inr (.inl (16, 0)), .inl x3] [] σ else if (bAnd (σ 32 0 x3.toNat) 63) = 38 then Rx k_L_law 1297 [.inr (.inl (32, 0)), .inr (.inl (0, 0)), .inr (.inl (16, 0)), .inl x3] [] σ else if (bAnd (σ 32 0 x3.toNat) 63) = 39 then Rx k_L_law 1310 [.inr (.inl (32, 0)), .inr (.inl (0, 0)), .inr (.inl (16, 0)), .inl x3] [] σ else if (bAnd (σ 32 0 x3.toNat) 63) = 40 then Rx k_L_law 1323 [.inr (.inl (32, 0)), .inr (.inl (0, 0)), .inr (.inl (16, 0)), .inl x3] [] σ else Rx k_L_law 1346 [.inr (.inl (32, 0)), .inr (.inl (0, 0)), .inr (.inl (16, 0)), .inl x3] [] σ := by
  refine (Rx_N (k := 2) (pc' := 29) (ls' := [.inr (.inl (32, 0)), .inr (.inl (0, 0)), .inr (.inl (16, 0)), .inl x3]) (st' := [.inl x3, .inr (.inl (32, 0))]) (σ' := σ) rfl).trans ?_
  refine (Rx_sld rfl h0 h1).trans ?_
  refine (Rx_N (k := 2) (pc' := 33) (ls' := [.inr (.inl (32, 0)), .inr (.inl (0, 0)), .inr (.inl (16, 0)), .inl x3]) (st' := [.inl (bAnd (σ 32 0 x3.toNat) 63)]) (σ' := σ) rfl).trans ?_
  generalize (bAnd (σ 32 0 x3.toNat) 63) = z9
  by_cases e9 : z9 = 0
  · subst e9; exact Rx_N (k := 1) rfl
  by_cases e9 : z9 = 1
  · subst e9; exact Rx_N (k := 1) rfl
  by_cases e9 : z9 = 2
  · subst e9; exact Rx_N (k := 1) rfl
  by_cases e9 : z9 = 3
  · subst e9; exact Rx_N (k := 1) rfl
  by_cases e9 : z9 = 4
  · subst e9; exact Rx_N (k := 1) rfl
  by_cases e9 : z9 = 5
  · subst e9; exact Rx_N (k := 1) rfl
  by_cases e9 : z9 = 6
  · subst e9; exact Rx_N (k := 1) rfl
  by_cases e9 : z9 = 7
  · subst e9; exact Rx_N (k := 1) rfl
  by_cases e9 : z9 = 8
  · subst e9; exact Rx_N (k := 1) rfl
  by_cases e9 : z9 = 9
  · subst e9; exact Rx_N (k := 1) rfl
  by_cases e9 : z9 = 10
  · subst e9; exact Rx_N (k := 1) rfl
  by_cases e9 : z9 = 11
  · subst e9; exact Rx_N (k := 1) rfl
  by_cases e9 : z9 = 12
  · subst e9; exact Rx_N (k := 1) rfl
  by_cases e9 : z9 = 13
  · subst e9; exact Rx_N (k := 1) rfl
  by_cases e9 : z9 = 14
  · subst e9; exact Rx_N (k := 1) rfl
  by_cases e9 : z9 = 15
  · subst e9; exact Rx_N (k := 1) rfl
  by_cases e9 : z9 = 16
  · subst e9; exact Rx_N (k := 1) rfl
  by_cases e9 : z9 = 17
  · subst e9; exact Rx_N (k := 1) rfl
  by_cases e9 : z9 = 18
  · subst e9; exact Rx_N (k := 1) rfl
  by_cases e9 : z9 = 19
  · subst e9; exact Rx_N (k := 1) rfl
  by_cases e9 : z9 = 20
  · subst e9; exact Rx_N (k := 1) rfl
  by_cases e9 : z9 = 21
  · subst e9; exact Rx_N (k := 1) rfl
  by_cases e9 : z9 = 22
  · subst e9; exact Rx_N (k := 1) rfl
  by_cases e9 : z9 = 23
  · subst e9; exact Rx_N (k := 1) rfl
  by_cases e9 : z9 = 24
  · subst e9; exact Rx_N (k := 1) rfl
  by_cases e9 : z9 = 25
  · subst e9; exact Rx_N (k := 1) rfl
  by_cases e9 : z9 = 26
  · subst e9; exact Rx_N (k := 1) rfl
  by_cases e9 : z9 = 27
  · subst e9; exact Rx_N (k := 1) rfl
  by_cases e9 : z9 = 28
  · subst e9; exact Rx_N (k := 1) rfl
  by_cases e9 : z9 = 29
  · subst e9; exact Rx_N (k := 1) rfl
  by_cases e9 : z9 = 30
  · subst e9; exact Rx_N (k := 1) rfl
  by_cases e9 : z9 = 31
  · subst e9; exact Rx_N (k := 1) rfl
  by_cases e9 : z9 = 32
  · subst e9; exact Rx_N (k := 1) rfl
  by_cases e9 : z9 = 33
  · subst e9; exact Rx_N (k := 1) rfl
  by_cases e9 : z9 = 34
  · subst e9; exact Rx_N (k := 1) rfl
  by_cases e9 : z9 = 35
  · subst e9; exact Rx_N (k := 1) rfl
  by_cases e9 : z9 = 36
  · subst e9; exact Rx_N (k := 1) rfl
  by_cases e9 : z9 = 37
  · subst e9; exact Rx_N (k := 1) rfl
  by_cases e9 : z9 = 38
  · subst e9; exact Rx_N (k := 1) rfl
  by_cases e9 : z9 = 39
  · subst e9; exact Rx_N (k := 1) rfl
  by_cases e9 : z9 = 40
  · subst e9; exact Rx_N (k := 1) rfl
  rw [if_neg (by omega)]; rw [if_neg (by omega)]; rw [if_neg (by omega)]; rw [if_neg (by omega)]; rw [if_neg (by omega)]; rw [if_neg (by omega)]; rw [if_neg (by omega)]; rw [if_neg (by omega)]; rw [if_neg (by omega)]; rw [if_neg (by omega)]; rw [if_neg (by omega)]; rw [if_neg (by omega)]; rw [if_neg (by omega)]; rw [if_neg (by omega)]; rw [if_neg (by omega)]; rw [if_neg (by omega)]; rw [if_neg (by omega)]; rw [if_neg (by omega)]; rw [if_neg (by omega)]; rw [if_neg (by omega)]; rw [if_neg (by omega)]; rw [if_neg (by omega)]; rw [if_neg (by omega)]; rw [if_neg (by omega)]; rw [if_neg (by omega)]; rw [if_neg (by omega)]; rw [if_neg (by omega)]; rw [if_neg (by omega)]; rw [if_neg (by omega)]; rw [if_neg (by omega)]; rw [if_neg (by omega)]; rw [if_neg (by omega)]; rw [if_neg (by omega)]; rw [if_neg (by omega)]; rw [if_neg (by omega)]; rw [if_neg (by omega)]; rw [if_neg (by omega)]; rw [if_neg (by omega)]; rw [if_neg (by omega)]; rw [if_neg (by omega)]; rw [if_neg (by omega)]; exact Rx_tout rfl (by omega) rfl
set_option maxRecDepth 100000 in
theorem r_L_law_212 (x3 : Int) (σ : St) (h0 : 0 ≤ (wr (x3 + 1))) (h1 : (wr (x3 + 1)) < σ 32 1 0) : Rx k_L_law 212 [.inr (.inl (32, 0)), .inr (.inl (0, 0)), .inr (.inl (16, 0)), .inl x3] [] σ = (Rx k_X4_letter 0 [.inr (.inl (0, 0)), .inl (σ 32 0 (wr (x3 + 1)).toNat)] [] σ).bind fun q => Rx k_L_law 221 [.inr (.inl (32, 0)), .inr (.inl (0, 0)), .inr (.inl (16, 0)), .inl x3] (q.1.toList ++ []) q.2 := by
  refine (Rx_N (k := 5) (pc' := 217) (ls' := [.inr (.inl (32, 0)), .inr (.inl (0, 0)), .inr (.inl (16, 0)), .inl x3]) (st' := [.inl (wr (x3 + 1)), .inr (.inl (32, 0)), .inr (.inl (0, 0))]) (σ' := σ) rfl).trans ?_
  refine (Rx_sld rfl h0 h1).trans ?_
  exact Rx_call (n := 3) (y' := k_X4_letter) (as := [.inr (.inl (0, 0)), .inl (σ 32 0 (wr (x3 + 1)).toNat)]) (rest := []) rfl rfl rfl
set_option maxRecDepth 100000 in
theorem b_L_law_212 (x3 : Int) (σ : St) (h0 : 0 ≤ (x3 + 1)) (h1 : (x3 + 1) < σ 32 1 0) (g0a : -2147483648 ≤ (x3 + 1)) (g0b : (x3 + 1) < 2147483648) : Rx k_L_law 212 [.inr (.inl (32, 0)), .inr (.inl (0, 0)), .inr (.inl (16, 0)), .inl x3] [] σ = (Rx k_X4_letter 0 [.inr (.inl (0, 0)), .inl (σ 32 0 (x3 + 1).toNat)] [] σ).bind fun q => Rx k_L_law 221 [.inr (.inl (32, 0)), .inr (.inl (0, 0)), .inr (.inl (16, 0)), .inl x3] (q.1.toList ++ []) q.2 := by
  have e0 := wr_id (x := (x3 + 1)) g0a g0b
  have raw := r_L_law_212 x3 σ (by simp only [e0]; exact h0) (by simp only [e0]; exact h1)
  simp only [e0] at raw
  exact raw
set_option maxRecDepth 100000 in
theorem r_L_law_221 (x3 : Int) (s0 : Int) (σ : St) (h0 : 0 ≤ (wr (x3 + 1))) (h1 : (wr (x3 + 1)) < σ 32 1 0) : Rx k_L_law 221 [.inr (.inl (32, 0)), .inr (.inl (0, 0)), .inr (.inl (16, 0)), .inl x3] [.inl s0] σ = (Rx k_X5_letter 0 [.inr (.inl (16, 0)), .inl (σ 32 0 (wr (x3 + 1)).toNat)] [] σ).bind fun q => Rx k_L_law 230 [.inr (.inl (32, 0)), .inr (.inl (0, 0)), .inr (.inl (16, 0)), .inl x3] (q.1.toList ++ [.inl s0]) q.2 := by
  refine (Rx_N (k := 5) (pc' := 226) (ls' := [.inr (.inl (32, 0)), .inr (.inl (0, 0)), .inr (.inl (16, 0)), .inl x3]) (st' := [.inl (wr (x3 + 1)), .inr (.inl (32, 0)), .inr (.inl (16, 0)), .inl s0]) (σ' := σ) rfl).trans ?_
  refine (Rx_sld rfl h0 h1).trans ?_
  exact Rx_call (n := 3) (y' := k_X5_letter) (as := [.inr (.inl (16, 0)), .inl (σ 32 0 (wr (x3 + 1)).toNat)]) (rest := [.inl s0]) rfl rfl rfl
set_option maxRecDepth 100000 in
theorem b_L_law_221 (x3 : Int) (s0 : Int) (σ : St) (h0 : 0 ≤ (x3 + 1)) (h1 : (x3 + 1) < σ 32 1 0) (g0a : -2147483648 ≤ (x3 + 1)) (g0b : (x3 + 1) < 2147483648) : Rx k_L_law 221 [.inr (.inl (32, 0)), .inr (.inl (0, 0)), .inr (.inl (16, 0)), .inl x3] [.inl s0] σ = (Rx k_X5_letter 0 [.inr (.inl (16, 0)), .inl (σ 32 0 (x3 + 1).toNat)] [] σ).bind fun q => Rx k_L_law 230 [.inr (.inl (32, 0)), .inr (.inl (0, 0)), .inr (.inl (16, 0)), .inl x3] (q.1.toList ++ [.inl s0]) q.2 := by
  have e0 := wr_id (x := (x3 + 1)) g0a g0b
  have raw := r_L_law_221 x3 s0 σ (by simp only [e0]; exact h0) (by simp only [e0]; exact h1)
  simp only [e0] at raw
  exact raw
set_option maxRecDepth 100000 in
theorem b_L_law_230 (x3 : Int) (s1 : Int) (s0 : Int) (σ : St) : Rx k_L_law 230 [.inr (.inl (32, 0)), .inr (.inl (0, 0)), .inr (.inl (16, 0)), .inl x3] [.inl s1, .inl s0] σ = if s0 = s1 then Rx k_L_law 1346 [.inr (.inl (32, 0)), .inr (.inl (0, 0)), .inr (.inl (16, 0)), .inl x3] [] σ else Rx k_L_law 233 [.inr (.inl (32, 0)), .inr (.inl (0, 0)), .inr (.inl (16, 0)), .inl x3] [] σ := by
  exact Rx_eq0 (k := 1) rfl
set_option maxRecDepth 100000 in
theorem b_L_law_233 (x3 : Int) (σ : St) : Rx k_L_law 233 [.inr (.inl (32, 0)), .inr (.inl (0, 0)), .inr (.inl (16, 0)), .inl x3] [] σ = some (some (.inl 0), σ) := by
  refine (Rx_N (k := 1) (pc' := 234) (ls' := [.inr (.inl (32, 0)), .inr (.inl (0, 0)), .inr (.inl (16, 0)), .inl x3]) (st' := [.inl 0]) (σ' := σ) rfl).trans ?_
  exact Rx_ret rfl rfl
set_option maxRecDepth 100000 in
theorem b_L_law_235 (x3 : Int) (σ : St) : Rx k_L_law 235 [.inr (.inl (32, 0)), .inr (.inl (0, 0)), .inr (.inl (16, 0)), .inl x3] [] σ = (Rx k_X4_rack 0 [.inr (.inl (0, 0)), uns, uns] [] σ).bind fun q => Rx k_L_law 239 [.inr (.inl (32, 0)), .inr (.inl (0, 0)), .inr (.inl (16, 0)), .inl x3] (q.1.toList ++ []) q.2 := by
  refine (Rx_N (k := 1) (pc' := 236) (ls' := [.inr (.inl (32, 0)), .inr (.inl (0, 0)), .inr (.inl (16, 0)), .inl x3]) (st' := [.inr (.inl (0, 0))]) (σ' := σ) rfl).trans ?_
  exact Rx_call (n := 3) (y' := k_X4_rack) (as := [.inr (.inl (0, 0))]) (rest := []) rfl rfl rfl
set_option maxRecDepth 100000 in
theorem b_L_law_239 (x3 : Int) (s0 : Int) (σ : St) : Rx k_L_law 239 [.inr (.inl (32, 0)), .inr (.inl (0, 0)), .inr (.inl (16, 0)), .inl x3] [.inl s0] σ = (Rx k_X5_rack 0 [.inr (.inl (16, 0)), uns, uns, uns, uns, uns] [] σ).bind fun q => Rx k_L_law 243 [.inr (.inl (32, 0)), .inr (.inl (0, 0)), .inr (.inl (16, 0)), .inl x3] (q.1.toList ++ [.inl s0]) q.2 := by
  refine (Rx_N (k := 1) (pc' := 240) (ls' := [.inr (.inl (32, 0)), .inr (.inl (0, 0)), .inr (.inl (16, 0)), .inl x3]) (st' := [.inr (.inl (16, 0)), .inl s0]) (σ' := σ) rfl).trans ?_
  exact Rx_call (n := 3) (y' := k_X5_rack) (as := [.inr (.inl (16, 0))]) (rest := [.inl s0]) rfl rfl rfl
set_option maxRecDepth 100000 in
theorem b_L_law_243 (x3 : Int) (s1 : Int) (s0 : Int) (σ : St) : Rx k_L_law 243 [.inr (.inl (32, 0)), .inr (.inl (0, 0)), .inr (.inl (16, 0)), .inl x3] [.inl s1, .inl s0] σ = if s0 = s1 then Rx k_L_law 1346 [.inr (.inl (32, 0)), .inr (.inl (0, 0)), .inr (.inl (16, 0)), .inl x3] [] σ else Rx k_L_law 246 [.inr (.inl (32, 0)), .inr (.inl (0, 0)), .inr (.inl (16, 0)), .inl x3] [] σ := by
  exact Rx_eq0 (k := 1) rfl
set_option maxRecDepth 100000 in
theorem b_L_law_246 (x3 : Int) (σ : St) : Rx k_L_law 246 [.inr (.inl (32, 0)), .inr (.inl (0, 0)), .inr (.inl (16, 0)), .inl x3] [] σ = some (some (.inl 0), σ) := by
  refine (Rx_N (k := 1) (pc' := 247) (ls' := [.inr (.inl (32, 0)), .inr (.inl (0, 0)), .inr (.inl (16, 0)), .inl x3]) (st' := [.inl 0]) (σ' := σ) rfl).trans ?_
  exact Rx_ret rfl rfl
set_option maxRecDepth 100000 in
theorem r_L_law_248 (x3 : Int) (σ : St) (h0 : 0 ≤ (wr (x3 + 1))) (h1 : (wr (x3 + 1)) < σ 32 1 0) (h2 : 0 ≤ (wr (x3 + 2))) (h3 : (wr (x3 + 2)) < σ 32 1 0) : Rx k_L_law 248 [.inr (.inl (32, 0)), .inr (.inl (0, 0)), .inr (.inl (16, 0)), .inl x3] [] σ = (Rx k_X4_purpose 0 [.inr (.inl (0, 0)), .inl (σ 32 0 (wr (x3 + 1)).toNat), .inl (σ 32 0 (wr (x3 + 2)).toNat)] [] σ).bind fun q => Rx k_L_law 262 [.inr (.inl (32, 0)), .inr (.inl (0, 0)), .inr (.inl (16, 0)), .inl x3] (q.1.toList ++ []) q.2 := by
  refine (Rx_N (k := 5) (pc' := 253) (ls' := [.inr (.inl (32, 0)), .inr (.inl (0, 0)), .inr (.inl (16, 0)), .inl x3]) (st' := [.inl (wr (x3 + 1)), .inr (.inl (32, 0)), .inr (.inl (0, 0))]) (σ' := σ) rfl).trans ?_
  refine (Rx_sld rfl h0 h1).trans ?_
  refine (Rx_N (k := 4) (pc' := 258) (ls' := [.inr (.inl (32, 0)), .inr (.inl (0, 0)), .inr (.inl (16, 0)), .inl x3]) (st' := [.inl (wr (x3 + 2)), .inr (.inl (32, 0)), .inl (σ 32 0 (wr (x3 + 1)).toNat), .inr (.inl (0, 0))]) (σ' := σ) rfl).trans ?_
  refine (Rx_sld rfl h2 h3).trans ?_
  exact Rx_call (n := 3) (y' := k_X4_purpose) (as := [.inr (.inl (0, 0)), .inl (σ 32 0 (wr (x3 + 1)).toNat), .inl (σ 32 0 (wr (x3 + 2)).toNat)]) (rest := []) rfl rfl rfl
set_option maxRecDepth 100000 in
theorem b_L_law_248 (x3 : Int) (σ : St) (h0 : 0 ≤ (x3 + 1)) (h1 : (x3 + 1) < σ 32 1 0) (h2 : 0 ≤ (x3 + 2)) (h3 : (x3 + 2) < σ 32 1 0) (g0a : -2147483648 ≤ (x3 + 1)) (g0b : (x3 + 1) < 2147483648) (g1a : -2147483648 ≤ (x3 + 2)) (g1b : (x3 + 2) < 2147483648) : Rx k_L_law 248 [.inr (.inl (32, 0)), .inr (.inl (0, 0)), .inr (.inl (16, 0)), .inl x3] [] σ = (Rx k_X4_purpose 0 [.inr (.inl (0, 0)), .inl (σ 32 0 (x3 + 1).toNat), .inl (σ 32 0 (x3 + 2).toNat)] [] σ).bind fun q => Rx k_L_law 262 [.inr (.inl (32, 0)), .inr (.inl (0, 0)), .inr (.inl (16, 0)), .inl x3] (q.1.toList ++ []) q.2 := by
  have e0 := wr_id (x := (x3 + 1)) g0a g0b
  have e1 := wr_id (x := (x3 + 2)) g1a g1b
  have raw := r_L_law_248 x3 σ (by simp only [e0, e1]; exact h0) (by simp only [e0, e1]; exact h1) (by simp only [e0, e1]; exact h2) (by simp only [e0, e1]; exact h3)
  simp only [e0, e1] at raw
  exact raw
set_option maxRecDepth 100000 in
theorem r_L_law_262 (x3 : Int) (s0 : Int) (σ : St) (h0 : 0 ≤ (wr (x3 + 1))) (h1 : (wr (x3 + 1)) < σ 32 1 0) (h2 : 0 ≤ (wr (x3 + 2))) (h3 : (wr (x3 + 2)) < σ 32 1 0) : Rx k_L_law 262 [.inr (.inl (32, 0)), .inr (.inl (0, 0)), .inr (.inl (16, 0)), .inl x3] [.inl s0] σ = (Rx k_X5_purpose 0 [.inr (.inl (16, 0)), .inl (σ 32 0 (wr (x3 + 1)).toNat), .inl (σ 32 0 (wr (x3 + 2)).toNat)] [] σ).bind fun q => Rx k_L_law 276 [.inr (.inl (32, 0)), .inr (.inl (0, 0)), .inr (.inl (16, 0)), .inl x3] (q.1.toList ++ [.inl s0]) q.2 := by
  refine (Rx_N (k := 5) (pc' := 267) (ls' := [.inr (.inl (32, 0)), .inr (.inl (0, 0)), .inr (.inl (16, 0)), .inl x3]) (st' := [.inl (wr (x3 + 1)), .inr (.inl (32, 0)), .inr (.inl (16, 0)), .inl s0]) (σ' := σ) rfl).trans ?_
  refine (Rx_sld rfl h0 h1).trans ?_
  refine (Rx_N (k := 4) (pc' := 272) (ls' := [.inr (.inl (32, 0)), .inr (.inl (0, 0)), .inr (.inl (16, 0)), .inl x3]) (st' := [.inl (wr (x3 + 2)), .inr (.inl (32, 0)), .inl (σ 32 0 (wr (x3 + 1)).toNat), .inr (.inl (16, 0)), .inl s0]) (σ' := σ) rfl).trans ?_
  refine (Rx_sld rfl h2 h3).trans ?_
  exact Rx_call (n := 3) (y' := k_X5_purpose) (as := [.inr (.inl (16, 0)), .inl (σ 32 0 (wr (x3 + 1)).toNat), .inl (σ 32 0 (wr (x3 + 2)).toNat)]) (rest := [.inl s0]) rfl rfl rfl
set_option maxRecDepth 100000 in
theorem b_L_law_262 (x3 : Int) (s0 : Int) (σ : St) (h0 : 0 ≤ (x3 + 1)) (h1 : (x3 + 1) < σ 32 1 0) (h2 : 0 ≤ (x3 + 2)) (h3 : (x3 + 2) < σ 32 1 0) (g0a : -2147483648 ≤ (x3 + 1)) (g0b : (x3 + 1) < 2147483648) (g1a : -2147483648 ≤ (x3 + 2)) (g1b : (x3 + 2) < 2147483648) : Rx k_L_law 262 [.inr (.inl (32, 0)), .inr (.inl (0, 0)), .inr (.inl (16, 0)), .inl x3] [.inl s0] σ = (Rx k_X5_purpose 0 [.inr (.inl (16, 0)), .inl (σ 32 0 (x3 + 1).toNat), .inl (σ 32 0 (x3 + 2).toNat)] [] σ).bind fun q => Rx k_L_law 276 [.inr (.inl (32, 0)), .inr (.inl (0, 0)), .inr (.inl (16, 0)), .inl x3] (q.1.toList ++ [.inl s0]) q.2 := by
  have e0 := wr_id (x := (x3 + 1)) g0a g0b
  have e1 := wr_id (x := (x3 + 2)) g1a g1b
  have raw := r_L_law_262 x3 s0 σ (by simp only [e0, e1]; exact h0) (by simp only [e0, e1]; exact h1) (by simp only [e0, e1]; exact h2) (by simp only [e0, e1]; exact h3)
  simp only [e0, e1] at raw
  exact raw
set_option maxRecDepth 100000 in
theorem b_L_law_276 (x3 : Int) (s1 : Int) (s0 : Int) (σ : St) : Rx k_L_law 276 [.inr (.inl (32, 0)), .inr (.inl (0, 0)), .inr (.inl (16, 0)), .inl x3] [.inl s1, .inl s0] σ = if s0 = s1 then Rx k_L_law 1346 [.inr (.inl (32, 0)), .inr (.inl (0, 0)), .inr (.inl (16, 0)), .inl x3] [] σ else Rx k_L_law 279 [.inr (.inl (32, 0)), .inr (.inl (0, 0)), .inr (.inl (16, 0)), .inl x3] [] σ := by
  exact Rx_eq0 (k := 1) rfl
set_option maxRecDepth 100000 in
theorem b_L_law_279 (x3 : Int) (σ : St) : Rx k_L_law 279 [.inr (.inl (32, 0)), .inr (.inl (0, 0)), .inr (.inl (16, 0)), .inl x3] [] σ = some (some (.inl 0), σ) := by
  refine (Rx_N (k := 1) (pc' := 280) (ls' := [.inr (.inl (32, 0)), .inr (.inl (0, 0)), .inr (.inl (16, 0)), .inl x3]) (st' := [.inl 0]) (σ' := σ) rfl).trans ?_
  exact Rx_ret rfl rfl
set_option maxRecDepth 100000 in
theorem r_L_law_281 (x3 : Int) (σ : St) (h0 : 0 ≤ (wr (x3 + 1))) (h1 : (wr (x3 + 1)) < σ 32 1 0) : Rx k_L_law 281 [.inr (.inl (32, 0)), .inr (.inl (0, 0)), .inr (.inl (16, 0)), .inl x3] [] σ = (Rx k_X4_spare 0 [.inr (.inl (0, 0)), .inl (σ 32 0 (wr (x3 + 1)).toNat)] [] σ).bind fun q => Rx k_L_law 290 [.inr (.inl (32, 0)), .inr (.inl (0, 0)), .inr (.inl (16, 0)), .inl x3] (q.1.toList ++ []) q.2 := by
  refine (Rx_N (k := 5) (pc' := 286) (ls' := [.inr (.inl (32, 0)), .inr (.inl (0, 0)), .inr (.inl (16, 0)), .inl x3]) (st' := [.inl (wr (x3 + 1)), .inr (.inl (32, 0)), .inr (.inl (0, 0))]) (σ' := σ) rfl).trans ?_
  refine (Rx_sld rfl h0 h1).trans ?_
  exact Rx_call (n := 3) (y' := k_X4_spare) (as := [.inr (.inl (0, 0)), .inl (σ 32 0 (wr (x3 + 1)).toNat)]) (rest := []) rfl rfl rfl
set_option maxRecDepth 100000 in
theorem b_L_law_281 (x3 : Int) (σ : St) (h0 : 0 ≤ (x3 + 1)) (h1 : (x3 + 1) < σ 32 1 0) (g0a : -2147483648 ≤ (x3 + 1)) (g0b : (x3 + 1) < 2147483648) : Rx k_L_law 281 [.inr (.inl (32, 0)), .inr (.inl (0, 0)), .inr (.inl (16, 0)), .inl x3] [] σ = (Rx k_X4_spare 0 [.inr (.inl (0, 0)), .inl (σ 32 0 (x3 + 1).toNat)] [] σ).bind fun q => Rx k_L_law 290 [.inr (.inl (32, 0)), .inr (.inl (0, 0)), .inr (.inl (16, 0)), .inl x3] (q.1.toList ++ []) q.2 := by
  have e0 := wr_id (x := (x3 + 1)) g0a g0b
  have raw := r_L_law_281 x3 σ (by simp only [e0]; exact h0) (by simp only [e0]; exact h1)
  simp only [e0] at raw
  exact raw
set_option maxRecDepth 100000 in
theorem r_L_law_290 (x3 : Int) (s0 : Int) (σ : St) (h0 : 0 ≤ (wr (x3 + 1))) (h1 : (wr (x3 + 1)) < σ 32 1 0) : Rx k_L_law 290 [.inr (.inl (32, 0)), .inr (.inl (0, 0)), .inr (.inl (16, 0)), .inl x3] [.inl s0] σ = (Rx k_X5_spare 0 [.inr (.inl (16, 0)), .inl (σ 32 0 (wr (x3 + 1)).toNat)] [] σ).bind fun q => Rx k_L_law 299 [.inr (.inl (32, 0)), .inr (.inl (0, 0)), .inr (.inl (16, 0)), .inl x3] (q.1.toList ++ [.inl s0]) q.2 := by
  refine (Rx_N (k := 5) (pc' := 295) (ls' := [.inr (.inl (32, 0)), .inr (.inl (0, 0)), .inr (.inl (16, 0)), .inl x3]) (st' := [.inl (wr (x3 + 1)), .inr (.inl (32, 0)), .inr (.inl (16, 0)), .inl s0]) (σ' := σ) rfl).trans ?_
  refine (Rx_sld rfl h0 h1).trans ?_
  exact Rx_call (n := 3) (y' := k_X5_spare) (as := [.inr (.inl (16, 0)), .inl (σ 32 0 (wr (x3 + 1)).toNat)]) (rest := [.inl s0]) rfl rfl rfl
set_option maxRecDepth 100000 in
theorem b_L_law_290 (x3 : Int) (s0 : Int) (σ : St) (h0 : 0 ≤ (x3 + 1)) (h1 : (x3 + 1) < σ 32 1 0) (g0a : -2147483648 ≤ (x3 + 1)) (g0b : (x3 + 1) < 2147483648) : Rx k_L_law 290 [.inr (.inl (32, 0)), .inr (.inl (0, 0)), .inr (.inl (16, 0)), .inl x3] [.inl s0] σ = (Rx k_X5_spare 0 [.inr (.inl (16, 0)), .inl (σ 32 0 (x3 + 1).toNat)] [] σ).bind fun q => Rx k_L_law 299 [.inr (.inl (32, 0)), .inr (.inl (0, 0)), .inr (.inl (16, 0)), .inl x3] (q.1.toList ++ [.inl s0]) q.2 := by
  have e0 := wr_id (x := (x3 + 1)) g0a g0b
  have raw := r_L_law_290 x3 s0 σ (by simp only [e0]; exact h0) (by simp only [e0]; exact h1)
  simp only [e0] at raw
  exact raw
set_option maxRecDepth 100000 in
theorem b_L_law_299 (x3 : Int) (s1 : Int) (s0 : Int) (σ : St) : Rx k_L_law 299 [.inr (.inl (32, 0)), .inr (.inl (0, 0)), .inr (.inl (16, 0)), .inl x3] [.inl s1, .inl s0] σ = if s0 = s1 then Rx k_L_law 1346 [.inr (.inl (32, 0)), .inr (.inl (0, 0)), .inr (.inl (16, 0)), .inl x3] [] σ else Rx k_L_law 302 [.inr (.inl (32, 0)), .inr (.inl (0, 0)), .inr (.inl (16, 0)), .inl x3] [] σ := by
  exact Rx_eq0 (k := 1) rfl
set_option maxRecDepth 100000 in
theorem b_L_law_302 (x3 : Int) (σ : St) : Rx k_L_law 302 [.inr (.inl (32, 0)), .inr (.inl (0, 0)), .inr (.inl (16, 0)), .inl x3] [] σ = some (some (.inl 0), σ) := by
  refine (Rx_N (k := 1) (pc' := 303) (ls' := [.inr (.inl (32, 0)), .inr (.inl (0, 0)), .inr (.inl (16, 0)), .inl x3]) (st' := [.inl 0]) (σ' := σ) rfl).trans ?_
  exact Rx_ret rfl rfl
set_option maxRecDepth 100000 in
theorem r_L_law_304 (x3 : Int) (σ : St) (h0 : 0 ≤ (wr (x3 + 1))) (h1 : (wr (x3 + 1)) < σ 32 1 0) (h2 : 0 ≤ (wr (x3 + 2))) (h3 : (wr (x3 + 2)) < σ 32 1 0) : Rx k_L_law 304 [.inr (.inl (32, 0)), .inr (.inl (0, 0)), .inr (.inl (16, 0)), .inl x3] [] σ = (Rx k_X4_thing 0 [.inr (.inl (0, 0)), .inl (σ 32 0 (wr (x3 + 1)).toNat), .inl (σ 32 0 (wr (x3 + 2)).toNat)] [] σ).bind fun q => Rx k_L_law 318 [.inr (.inl (32, 0)), .inr (.inl (0, 0)), .inr (.inl (16, 0)), .inl x3] (q.1.toList ++ []) q.2 := by
  refine (Rx_N (k := 5) (pc' := 309) (ls' := [.inr (.inl (32, 0)), .inr (.inl (0, 0)), .inr (.inl (16, 0)), .inl x3]) (st' := [.inl (wr (x3 + 1)), .inr (.inl (32, 0)), .inr (.inl (0, 0))]) (σ' := σ) rfl).trans ?_
  refine (Rx_sld rfl h0 h1).trans ?_
  refine (Rx_N (k := 4) (pc' := 314) (ls' := [.inr (.inl (32, 0)), .inr (.inl (0, 0)), .inr (.inl (16, 0)), .inl x3]) (st' := [.inl (wr (x3 + 2)), .inr (.inl (32, 0)), .inl (σ 32 0 (wr (x3 + 1)).toNat), .inr (.inl (0, 0))]) (σ' := σ) rfl).trans ?_
  refine (Rx_sld rfl h2 h3).trans ?_
  exact Rx_call (n := 3) (y' := k_X4_thing) (as := [.inr (.inl (0, 0)), .inl (σ 32 0 (wr (x3 + 1)).toNat), .inl (σ 32 0 (wr (x3 + 2)).toNat)]) (rest := []) rfl rfl rfl
set_option maxRecDepth 100000 in
theorem b_L_law_304 (x3 : Int) (σ : St) (h0 : 0 ≤ (x3 + 1)) (h1 : (x3 + 1) < σ 32 1 0) (h2 : 0 ≤ (x3 + 2)) (h3 : (x3 + 2) < σ 32 1 0) (g0a : -2147483648 ≤ (x3 + 1)) (g0b : (x3 + 1) < 2147483648) (g1a : -2147483648 ≤ (x3 + 2)) (g1b : (x3 + 2) < 2147483648) : Rx k_L_law 304 [.inr (.inl (32, 0)), .inr (.inl (0, 0)), .inr (.inl (16, 0)), .inl x3] [] σ = (Rx k_X4_thing 0 [.inr (.inl (0, 0)), .inl (σ 32 0 (x3 + 1).toNat), .inl (σ 32 0 (x3 + 2).toNat)] [] σ).bind fun q => Rx k_L_law 318 [.inr (.inl (32, 0)), .inr (.inl (0, 0)), .inr (.inl (16, 0)), .inl x3] (q.1.toList ++ []) q.2 := by
  have e0 := wr_id (x := (x3 + 1)) g0a g0b
  have e1 := wr_id (x := (x3 + 2)) g1a g1b
  have raw := r_L_law_304 x3 σ (by simp only [e0, e1]; exact h0) (by simp only [e0, e1]; exact h1) (by simp only [e0, e1]; exact h2) (by simp only [e0, e1]; exact h3)
  simp only [e0, e1] at raw
  exact raw
set_option maxRecDepth 100000 in
theorem r_L_law_318 (x3 : Int) (s0 : Int) (σ : St) (h0 : 0 ≤ (wr (x3 + 1))) (h1 : (wr (x3 + 1)) < σ 32 1 0) (h2 : 0 ≤ (wr (x3 + 2))) (h3 : (wr (x3 + 2)) < σ 32 1 0) : Rx k_L_law 318 [.inr (.inl (32, 0)), .inr (.inl (0, 0)), .inr (.inl (16, 0)), .inl x3] [.inl s0] σ = (Rx k_X5_thing 0 [.inr (.inl (16, 0)), .inl (σ 32 0 (wr (x3 + 1)).toNat), .inl (σ 32 0 (wr (x3 + 2)).toNat)] [] σ).bind fun q => Rx k_L_law 332 [.inr (.inl (32, 0)), .inr (.inl (0, 0)), .inr (.inl (16, 0)), .inl x3] (q.1.toList ++ [.inl s0]) q.2 := by
  refine (Rx_N (k := 5) (pc' := 323) (ls' := [.inr (.inl (32, 0)), .inr (.inl (0, 0)), .inr (.inl (16, 0)), .inl x3]) (st' := [.inl (wr (x3 + 1)), .inr (.inl (32, 0)), .inr (.inl (16, 0)), .inl s0]) (σ' := σ) rfl).trans ?_
  refine (Rx_sld rfl h0 h1).trans ?_
  refine (Rx_N (k := 4) (pc' := 328) (ls' := [.inr (.inl (32, 0)), .inr (.inl (0, 0)), .inr (.inl (16, 0)), .inl x3]) (st' := [.inl (wr (x3 + 2)), .inr (.inl (32, 0)), .inl (σ 32 0 (wr (x3 + 1)).toNat), .inr (.inl (16, 0)), .inl s0]) (σ' := σ) rfl).trans ?_
  refine (Rx_sld rfl h2 h3).trans ?_
  exact Rx_call (n := 3) (y' := k_X5_thing) (as := [.inr (.inl (16, 0)), .inl (σ 32 0 (wr (x3 + 1)).toNat), .inl (σ 32 0 (wr (x3 + 2)).toNat)]) (rest := [.inl s0]) rfl rfl rfl
set_option maxRecDepth 100000 in
theorem b_L_law_318 (x3 : Int) (s0 : Int) (σ : St) (h0 : 0 ≤ (x3 + 1)) (h1 : (x3 + 1) < σ 32 1 0) (h2 : 0 ≤ (x3 + 2)) (h3 : (x3 + 2) < σ 32 1 0) (g0a : -2147483648 ≤ (x3 + 1)) (g0b : (x3 + 1) < 2147483648) (g1a : -2147483648 ≤ (x3 + 2)) (g1b : (x3 + 2) < 2147483648) : Rx k_L_law 318 [.inr (.inl (32, 0)), .inr (.inl (0, 0)), .inr (.inl (16, 0)), .inl x3] [.inl s0] σ = (Rx k_X5_thing 0 [.inr (.inl (16, 0)), .inl (σ 32 0 (x3 + 1).toNat), .inl (σ 32 0 (x3 + 2).toNat)] [] σ).bind fun q => Rx k_L_law 332 [.inr (.inl (32, 0)), .inr (.inl (0, 0)), .inr (.inl (16, 0)), .inl x3] (q.1.toList ++ [.inl s0]) q.2 := by
  have e0 := wr_id (x := (x3 + 1)) g0a g0b
  have e1 := wr_id (x := (x3 + 2)) g1a g1b
  have raw := r_L_law_318 x3 s0 σ (by simp only [e0, e1]; exact h0) (by simp only [e0, e1]; exact h1) (by simp only [e0, e1]; exact h2) (by simp only [e0, e1]; exact h3)
  simp only [e0, e1] at raw
  exact raw
set_option maxRecDepth 100000 in
theorem b_L_law_332 (x3 : Int) (s1 : Int) (s0 : Int) (σ : St) : Rx k_L_law 332 [.inr (.inl (32, 0)), .inr (.inl (0, 0)), .inr (.inl (16, 0)), .inl x3] [.inl s1, .inl s0] σ = if s0 = s1 then Rx k_L_law 1346 [.inr (.inl (32, 0)), .inr (.inl (0, 0)), .inr (.inl (16, 0)), .inl x3] [] σ else Rx k_L_law 335 [.inr (.inl (32, 0)), .inr (.inl (0, 0)), .inr (.inl (16, 0)), .inl x3] [] σ := by
  exact Rx_eq0 (k := 1) rfl
set_option maxRecDepth 100000 in
theorem b_L_law_335 (x3 : Int) (σ : St) : Rx k_L_law 335 [.inr (.inl (32, 0)), .inr (.inl (0, 0)), .inr (.inl (16, 0)), .inl x3] [] σ = some (some (.inl 0), σ) := by
  refine (Rx_N (k := 1) (pc' := 336) (ls' := [.inr (.inl (32, 0)), .inr (.inl (0, 0)), .inr (.inl (16, 0)), .inl x3]) (st' := [.inl 0]) (σ' := σ) rfl).trans ?_
  exact Rx_ret rfl rfl
set_option maxRecDepth 100000 in
theorem r_L_law_337 (x3 : Int) (σ : St) (h0 : 0 ≤ (wr (x3 + 1))) (h1 : (wr (x3 + 1)) < σ 32 1 0) : Rx k_L_law 337 [.inr (.inl (32, 0)), .inr (.inl (0, 0)), .inr (.inl (16, 0)), .inl x3] [] σ = (Rx k_X4_at 0 [.inr (.inl (0, 0)), .inl (σ 32 0 (wr (x3 + 1)).toNat)] [] σ).bind fun q => Rx k_L_law 346 [.inr (.inl (32, 0)), .inr (.inl (0, 0)), .inr (.inl (16, 0)), .inl x3] (q.1.toList ++ []) q.2 := by
  refine (Rx_N (k := 5) (pc' := 342) (ls' := [.inr (.inl (32, 0)), .inr (.inl (0, 0)), .inr (.inl (16, 0)), .inl x3]) (st' := [.inl (wr (x3 + 1)), .inr (.inl (32, 0)), .inr (.inl (0, 0))]) (σ' := σ) rfl).trans ?_
  refine (Rx_sld rfl h0 h1).trans ?_
  exact Rx_call (n := 3) (y' := k_X4_at) (as := [.inr (.inl (0, 0)), .inl (σ 32 0 (wr (x3 + 1)).toNat)]) (rest := []) rfl rfl rfl
set_option maxRecDepth 100000 in
theorem b_L_law_337 (x3 : Int) (σ : St) (h0 : 0 ≤ (x3 + 1)) (h1 : (x3 + 1) < σ 32 1 0) (g0a : -2147483648 ≤ (x3 + 1)) (g0b : (x3 + 1) < 2147483648) : Rx k_L_law 337 [.inr (.inl (32, 0)), .inr (.inl (0, 0)), .inr (.inl (16, 0)), .inl x3] [] σ = (Rx k_X4_at 0 [.inr (.inl (0, 0)), .inl (σ 32 0 (x3 + 1).toNat)] [] σ).bind fun q => Rx k_L_law 346 [.inr (.inl (32, 0)), .inr (.inl (0, 0)), .inr (.inl (16, 0)), .inl x3] (q.1.toList ++ []) q.2 := by
  have e0 := wr_id (x := (x3 + 1)) g0a g0b
  have raw := r_L_law_337 x3 σ (by simp only [e0]; exact h0) (by simp only [e0]; exact h1)
  simp only [e0] at raw
  exact raw
set_option maxRecDepth 100000 in
theorem r_L_law_346 (x3 : Int) (s0 : Int) (σ : St) (h0 : 0 ≤ (wr (x3 + 1))) (h1 : (wr (x3 + 1)) < σ 32 1 0) : Rx k_L_law 346 [.inr (.inl (32, 0)), .inr (.inl (0, 0)), .inr (.inl (16, 0)), .inl x3] [.inl s0] σ = (Rx k_X5_at 0 [.inr (.inl (16, 0)), .inl (σ 32 0 (wr (x3 + 1)).toNat)] [] σ).bind fun q => Rx k_L_law 355 [.inr (.inl (32, 0)), .inr (.inl (0, 0)), .inr (.inl (16, 0)), .inl x3] (q.1.toList ++ [.inl s0]) q.2 := by
  refine (Rx_N (k := 5) (pc' := 351) (ls' := [.inr (.inl (32, 0)), .inr (.inl (0, 0)), .inr (.inl (16, 0)), .inl x3]) (st' := [.inl (wr (x3 + 1)), .inr (.inl (32, 0)), .inr (.inl (16, 0)), .inl s0]) (σ' := σ) rfl).trans ?_
  refine (Rx_sld rfl h0 h1).trans ?_
  exact Rx_call (n := 3) (y' := k_X5_at) (as := [.inr (.inl (16, 0)), .inl (σ 32 0 (wr (x3 + 1)).toNat)]) (rest := [.inl s0]) rfl rfl rfl
set_option maxRecDepth 100000 in
theorem b_L_law_346 (x3 : Int) (s0 : Int) (σ : St) (h0 : 0 ≤ (x3 + 1)) (h1 : (x3 + 1) < σ 32 1 0) (g0a : -2147483648 ≤ (x3 + 1)) (g0b : (x3 + 1) < 2147483648) : Rx k_L_law 346 [.inr (.inl (32, 0)), .inr (.inl (0, 0)), .inr (.inl (16, 0)), .inl x3] [.inl s0] σ = (Rx k_X5_at 0 [.inr (.inl (16, 0)), .inl (σ 32 0 (x3 + 1).toNat)] [] σ).bind fun q => Rx k_L_law 355 [.inr (.inl (32, 0)), .inr (.inl (0, 0)), .inr (.inl (16, 0)), .inl x3] (q.1.toList ++ [.inl s0]) q.2 := by
  have e0 := wr_id (x := (x3 + 1)) g0a g0b
  have raw := r_L_law_346 x3 s0 σ (by simp only [e0]; exact h0) (by simp only [e0]; exact h1)
  simp only [e0] at raw
  exact raw
set_option maxRecDepth 100000 in
theorem b_L_law_355 (x3 : Int) (s1 : Int) (s0 : Int) (σ : St) : Rx k_L_law 355 [.inr (.inl (32, 0)), .inr (.inl (0, 0)), .inr (.inl (16, 0)), .inl x3] [.inl s1, .inl s0] σ = if s0 = s1 then Rx k_L_law 1346 [.inr (.inl (32, 0)), .inr (.inl (0, 0)), .inr (.inl (16, 0)), .inl x3] [] σ else Rx k_L_law 358 [.inr (.inl (32, 0)), .inr (.inl (0, 0)), .inr (.inl (16, 0)), .inl x3] [] σ := by
  exact Rx_eq0 (k := 1) rfl
set_option maxRecDepth 100000 in
theorem b_L_law_358 (x3 : Int) (σ : St) : Rx k_L_law 358 [.inr (.inl (32, 0)), .inr (.inl (0, 0)), .inr (.inl (16, 0)), .inl x3] [] σ = some (some (.inl 0), σ) := by
  refine (Rx_N (k := 1) (pc' := 359) (ls' := [.inr (.inl (32, 0)), .inr (.inl (0, 0)), .inr (.inl (16, 0)), .inl x3]) (st' := [.inl 0]) (σ' := σ) rfl).trans ?_
  exact Rx_ret rfl rfl
set_option maxRecDepth 100000 in
theorem r_L_law_360 (x3 : Int) (σ : St) (h0 : 0 ≤ (wr (x3 + 1))) (h1 : (wr (x3 + 1)) < σ 32 1 0) (h2 : 0 ≤ (wr (x3 + 2))) (h3 : (wr (x3 + 2)) < σ 32 1 0) : Rx k_L_law 360 [.inr (.inl (32, 0)), .inr (.inl (0, 0)), .inr (.inl (16, 0)), .inl x3] [] σ = (Rx k_X4_leans 0 [.inr (.inl (0, 0)), .inl (σ 32 0 (wr (x3 + 1)).toNat), .inl (σ 32 0 (wr (x3 + 2)).toNat), uns] [] σ).bind fun q => Rx k_L_law 374 [.inr (.inl (32, 0)), .inr (.inl (0, 0)), .inr (.inl (16, 0)), .inl x3] (q.1.toList ++ []) q.2 := by
  refine (Rx_N (k := 5) (pc' := 365) (ls' := [.inr (.inl (32, 0)), .inr (.inl (0, 0)), .inr (.inl (16, 0)), .inl x3]) (st' := [.inl (wr (x3 + 1)), .inr (.inl (32, 0)), .inr (.inl (0, 0))]) (σ' := σ) rfl).trans ?_
  refine (Rx_sld rfl h0 h1).trans ?_
  refine (Rx_N (k := 4) (pc' := 370) (ls' := [.inr (.inl (32, 0)), .inr (.inl (0, 0)), .inr (.inl (16, 0)), .inl x3]) (st' := [.inl (wr (x3 + 2)), .inr (.inl (32, 0)), .inl (σ 32 0 (wr (x3 + 1)).toNat), .inr (.inl (0, 0))]) (σ' := σ) rfl).trans ?_
  refine (Rx_sld rfl h2 h3).trans ?_
  exact Rx_call (n := 3) (y' := k_X4_leans) (as := [.inr (.inl (0, 0)), .inl (σ 32 0 (wr (x3 + 1)).toNat), .inl (σ 32 0 (wr (x3 + 2)).toNat)]) (rest := []) rfl rfl rfl
set_option maxRecDepth 100000 in
theorem b_L_law_360 (x3 : Int) (σ : St) (h0 : 0 ≤ (x3 + 1)) (h1 : (x3 + 1) < σ 32 1 0) (h2 : 0 ≤ (x3 + 2)) (h3 : (x3 + 2) < σ 32 1 0) (g0a : -2147483648 ≤ (x3 + 1)) (g0b : (x3 + 1) < 2147483648) (g1a : -2147483648 ≤ (x3 + 2)) (g1b : (x3 + 2) < 2147483648) : Rx k_L_law 360 [.inr (.inl (32, 0)), .inr (.inl (0, 0)), .inr (.inl (16, 0)), .inl x3] [] σ = (Rx k_X4_leans 0 [.inr (.inl (0, 0)), .inl (σ 32 0 (x3 + 1).toNat), .inl (σ 32 0 (x3 + 2).toNat), uns] [] σ).bind fun q => Rx k_L_law 374 [.inr (.inl (32, 0)), .inr (.inl (0, 0)), .inr (.inl (16, 0)), .inl x3] (q.1.toList ++ []) q.2 := by
  have e0 := wr_id (x := (x3 + 1)) g0a g0b
  have e1 := wr_id (x := (x3 + 2)) g1a g1b
  have raw := r_L_law_360 x3 σ (by simp only [e0, e1]; exact h0) (by simp only [e0, e1]; exact h1) (by simp only [e0, e1]; exact h2) (by simp only [e0, e1]; exact h3)
  simp only [e0, e1] at raw
  exact raw
set_option maxRecDepth 100000 in
theorem r_L_law_374 (x3 : Int) (s0 : Int) (σ : St) (h0 : 0 ≤ (wr (x3 + 1))) (h1 : (wr (x3 + 1)) < σ 32 1 0) (h2 : 0 ≤ (wr (x3 + 2))) (h3 : (wr (x3 + 2)) < σ 32 1 0) : Rx k_L_law 374 [.inr (.inl (32, 0)), .inr (.inl (0, 0)), .inr (.inl (16, 0)), .inl x3] [.inl s0] σ = (Rx k_X5_leans 0 [.inr (.inl (16, 0)), .inl (σ 32 0 (wr (x3 + 1)).toNat), .inl (σ 32 0 (wr (x3 + 2)).toNat), uns] [] σ).bind fun q => Rx k_L_law 388 [.inr (.inl (32, 0)), .inr (.inl (0, 0)), .inr (.inl (16, 0)), .inl x3] (q.1.toList ++ [.inl s0]) q.2 := by
  refine (Rx_N (k := 5) (pc' := 379) (ls' := [.inr (.inl (32, 0)), .inr (.inl (0, 0)), .inr (.inl (16, 0)), .inl x3]) (st' := [.inl (wr (x3 + 1)), .inr (.inl (32, 0)), .inr (.inl (16, 0)), .inl s0]) (σ' := σ) rfl).trans ?_
  refine (Rx_sld rfl h0 h1).trans ?_
  refine (Rx_N (k := 4) (pc' := 384) (ls' := [.inr (.inl (32, 0)), .inr (.inl (0, 0)), .inr (.inl (16, 0)), .inl x3]) (st' := [.inl (wr (x3 + 2)), .inr (.inl (32, 0)), .inl (σ 32 0 (wr (x3 + 1)).toNat), .inr (.inl (16, 0)), .inl s0]) (σ' := σ) rfl).trans ?_
  refine (Rx_sld rfl h2 h3).trans ?_
  exact Rx_call (n := 3) (y' := k_X5_leans) (as := [.inr (.inl (16, 0)), .inl (σ 32 0 (wr (x3 + 1)).toNat), .inl (σ 32 0 (wr (x3 + 2)).toNat)]) (rest := [.inl s0]) rfl rfl rfl
set_option maxRecDepth 100000 in
theorem b_L_law_374 (x3 : Int) (s0 : Int) (σ : St) (h0 : 0 ≤ (x3 + 1)) (h1 : (x3 + 1) < σ 32 1 0) (h2 : 0 ≤ (x3 + 2)) (h3 : (x3 + 2) < σ 32 1 0) (g0a : -2147483648 ≤ (x3 + 1)) (g0b : (x3 + 1) < 2147483648) (g1a : -2147483648 ≤ (x3 + 2)) (g1b : (x3 + 2) < 2147483648) : Rx k_L_law 374 [.inr (.inl (32, 0)), .inr (.inl (0, 0)), .inr (.inl (16, 0)), .inl x3] [.inl s0] σ = (Rx k_X5_leans 0 [.inr (.inl (16, 0)), .inl (σ 32 0 (x3 + 1).toNat), .inl (σ 32 0 (x3 + 2).toNat), uns] [] σ).bind fun q => Rx k_L_law 388 [.inr (.inl (32, 0)), .inr (.inl (0, 0)), .inr (.inl (16, 0)), .inl x3] (q.1.toList ++ [.inl s0]) q.2 := by
  have e0 := wr_id (x := (x3 + 1)) g0a g0b
  have e1 := wr_id (x := (x3 + 2)) g1a g1b
  have raw := r_L_law_374 x3 s0 σ (by simp only [e0, e1]; exact h0) (by simp only [e0, e1]; exact h1) (by simp only [e0, e1]; exact h2) (by simp only [e0, e1]; exact h3)
  simp only [e0, e1] at raw
  exact raw
set_option maxRecDepth 100000 in
theorem b_L_law_388 (x3 : Int) (s1 : Int) (s0 : Int) (σ : St) : Rx k_L_law 388 [.inr (.inl (32, 0)), .inr (.inl (0, 0)), .inr (.inl (16, 0)), .inl x3] [.inl s1, .inl s0] σ = if s0 = s1 then Rx k_L_law 1346 [.inr (.inl (32, 0)), .inr (.inl (0, 0)), .inr (.inl (16, 0)), .inl x3] [] σ else Rx k_L_law 391 [.inr (.inl (32, 0)), .inr (.inl (0, 0)), .inr (.inl (16, 0)), .inl x3] [] σ := by
  exact Rx_eq0 (k := 1) rfl
set_option maxRecDepth 100000 in
theorem b_L_law_391 (x3 : Int) (σ : St) : Rx k_L_law 391 [.inr (.inl (32, 0)), .inr (.inl (0, 0)), .inr (.inl (16, 0)), .inl x3] [] σ = some (some (.inl 0), σ) := by
  refine (Rx_N (k := 1) (pc' := 392) (ls' := [.inr (.inl (32, 0)), .inr (.inl (0, 0)), .inr (.inl (16, 0)), .inl x3]) (st' := [.inl 0]) (σ' := σ) rfl).trans ?_
  exact Rx_ret rfl rfl
set_option maxRecDepth 100000 in
theorem r_L_law_393 (x3 : Int) (σ : St) (h0 : 0 ≤ (wr (x3 + 1))) (h1 : (wr (x3 + 1)) < σ 32 1 0) (h2 : 0 ≤ (wr (x3 + 2))) (h3 : (wr (x3 + 2)) < σ 32 1 0) : Rx k_L_law 393 [.inr (.inl (32, 0)), .inr (.inl (0, 0)), .inr (.inl (16, 0)), .inl x3] [] σ = (Rx k_X4_moves 0 [.inr (.inl (0, 0)), .inl (σ 32 0 (wr (x3 + 1)).toNat), .inl (σ 32 0 (wr (x3 + 2)).toNat), uns] [] σ).bind fun q => Rx k_L_law 407 [.inr (.inl (32, 0)), .inr (.inl (0, 0)), .inr (.inl (16, 0)), .inl x3] (q.1.toList ++ []) q.2 := by
  refine (Rx_N (k := 5) (pc' := 398) (ls' := [.inr (.inl (32, 0)), .inr (.inl (0, 0)), .inr (.inl (16, 0)), .inl x3]) (st' := [.inl (wr (x3 + 1)), .inr (.inl (32, 0)), .inr (.inl (0, 0))]) (σ' := σ) rfl).trans ?_
  refine (Rx_sld rfl h0 h1).trans ?_
  refine (Rx_N (k := 4) (pc' := 403) (ls' := [.inr (.inl (32, 0)), .inr (.inl (0, 0)), .inr (.inl (16, 0)), .inl x3]) (st' := [.inl (wr (x3 + 2)), .inr (.inl (32, 0)), .inl (σ 32 0 (wr (x3 + 1)).toNat), .inr (.inl (0, 0))]) (σ' := σ) rfl).trans ?_
  refine (Rx_sld rfl h2 h3).trans ?_
  exact Rx_call (n := 3) (y' := k_X4_moves) (as := [.inr (.inl (0, 0)), .inl (σ 32 0 (wr (x3 + 1)).toNat), .inl (σ 32 0 (wr (x3 + 2)).toNat)]) (rest := []) rfl rfl rfl
set_option maxRecDepth 100000 in
theorem b_L_law_393 (x3 : Int) (σ : St) (h0 : 0 ≤ (x3 + 1)) (h1 : (x3 + 1) < σ 32 1 0) (h2 : 0 ≤ (x3 + 2)) (h3 : (x3 + 2) < σ 32 1 0) (g0a : -2147483648 ≤ (x3 + 1)) (g0b : (x3 + 1) < 2147483648) (g1a : -2147483648 ≤ (x3 + 2)) (g1b : (x3 + 2) < 2147483648) : Rx k_L_law 393 [.inr (.inl (32, 0)), .inr (.inl (0, 0)), .inr (.inl (16, 0)), .inl x3] [] σ = (Rx k_X4_moves 0 [.inr (.inl (0, 0)), .inl (σ 32 0 (x3 + 1).toNat), .inl (σ 32 0 (x3 + 2).toNat), uns] [] σ).bind fun q => Rx k_L_law 407 [.inr (.inl (32, 0)), .inr (.inl (0, 0)), .inr (.inl (16, 0)), .inl x3] (q.1.toList ++ []) q.2 := by
  have e0 := wr_id (x := (x3 + 1)) g0a g0b
  have e1 := wr_id (x := (x3 + 2)) g1a g1b
  have raw := r_L_law_393 x3 σ (by simp only [e0, e1]; exact h0) (by simp only [e0, e1]; exact h1) (by simp only [e0, e1]; exact h2) (by simp only [e0, e1]; exact h3)
  simp only [e0, e1] at raw
  exact raw
set_option maxRecDepth 100000 in
theorem r_L_law_407 (x3 : Int) (s0 : Int) (σ : St) (h0 : 0 ≤ (wr (x3 + 1))) (h1 : (wr (x3 + 1)) < σ 32 1 0) (h2 : 0 ≤ (wr (x3 + 2))) (h3 : (wr (x3 + 2)) < σ 32 1 0) : Rx k_L_law 407 [.inr (.inl (32, 0)), .inr (.inl (0, 0)), .inr (.inl (16, 0)), .inl x3] [.inl s0] σ = (Rx k_X5_moves 0 [.inr (.inl (16, 0)), .inl (σ 32 0 (wr (x3 + 1)).toNat), .inl (σ 32 0 (wr (x3 + 2)).toNat), uns, uns] [] σ).bind fun q => Rx k_L_law 421 [.inr (.inl (32, 0)), .inr (.inl (0, 0)), .inr (.inl (16, 0)), .inl x3] (q.1.toList ++ [.inl s0]) q.2 := by
  refine (Rx_N (k := 5) (pc' := 412) (ls' := [.inr (.inl (32, 0)), .inr (.inl (0, 0)), .inr (.inl (16, 0)), .inl x3]) (st' := [.inl (wr (x3 + 1)), .inr (.inl (32, 0)), .inr (.inl (16, 0)), .inl s0]) (σ' := σ) rfl).trans ?_
  refine (Rx_sld rfl h0 h1).trans ?_
  refine (Rx_N (k := 4) (pc' := 417) (ls' := [.inr (.inl (32, 0)), .inr (.inl (0, 0)), .inr (.inl (16, 0)), .inl x3]) (st' := [.inl (wr (x3 + 2)), .inr (.inl (32, 0)), .inl (σ 32 0 (wr (x3 + 1)).toNat), .inr (.inl (16, 0)), .inl s0]) (σ' := σ) rfl).trans ?_
  refine (Rx_sld rfl h2 h3).trans ?_
  exact Rx_call (n := 3) (y' := k_X5_moves) (as := [.inr (.inl (16, 0)), .inl (σ 32 0 (wr (x3 + 1)).toNat), .inl (σ 32 0 (wr (x3 + 2)).toNat)]) (rest := [.inl s0]) rfl rfl rfl
set_option maxRecDepth 100000 in
theorem b_L_law_407 (x3 : Int) (s0 : Int) (σ : St) (h0 : 0 ≤ (x3 + 1)) (h1 : (x3 + 1) < σ 32 1 0) (h2 : 0 ≤ (x3 + 2)) (h3 : (x3 + 2) < σ 32 1 0) (g0a : -2147483648 ≤ (x3 + 1)) (g0b : (x3 + 1) < 2147483648) (g1a : -2147483648 ≤ (x3 + 2)) (g1b : (x3 + 2) < 2147483648) : Rx k_L_law 407 [.inr (.inl (32, 0)), .inr (.inl (0, 0)), .inr (.inl (16, 0)), .inl x3] [.inl s0] σ = (Rx k_X5_moves 0 [.inr (.inl (16, 0)), .inl (σ 32 0 (x3 + 1).toNat), .inl (σ 32 0 (x3 + 2).toNat), uns, uns] [] σ).bind fun q => Rx k_L_law 421 [.inr (.inl (32, 0)), .inr (.inl (0, 0)), .inr (.inl (16, 0)), .inl x3] (q.1.toList ++ [.inl s0]) q.2 := by
  have e0 := wr_id (x := (x3 + 1)) g0a g0b
  have e1 := wr_id (x := (x3 + 2)) g1a g1b
  have raw := r_L_law_407 x3 s0 σ (by simp only [e0, e1]; exact h0) (by simp only [e0, e1]; exact h1) (by simp only [e0, e1]; exact h2) (by simp only [e0, e1]; exact h3)
  simp only [e0, e1] at raw
  exact raw
set_option maxRecDepth 100000 in
theorem b_L_law_421 (x3 : Int) (s1 : Int) (s0 : Int) (σ : St) : Rx k_L_law 421 [.inr (.inl (32, 0)), .inr (.inl (0, 0)), .inr (.inl (16, 0)), .inl x3] [.inl s1, .inl s0] σ = if s0 = s1 then Rx k_L_law 1346 [.inr (.inl (32, 0)), .inr (.inl (0, 0)), .inr (.inl (16, 0)), .inl x3] [] σ else Rx k_L_law 424 [.inr (.inl (32, 0)), .inr (.inl (0, 0)), .inr (.inl (16, 0)), .inl x3] [] σ := by
  exact Rx_eq0 (k := 1) rfl
set_option maxRecDepth 100000 in
theorem b_L_law_424 (x3 : Int) (σ : St) : Rx k_L_law 424 [.inr (.inl (32, 0)), .inr (.inl (0, 0)), .inr (.inl (16, 0)), .inl x3] [] σ = some (some (.inl 0), σ) := by
  refine (Rx_N (k := 1) (pc' := 425) (ls' := [.inr (.inl (32, 0)), .inr (.inl (0, 0)), .inr (.inl (16, 0)), .inl x3]) (st' := [.inl 0]) (σ' := σ) rfl).trans ?_
  exact Rx_ret rfl rfl
set_option maxRecDepth 100000 in
theorem r_L_law_426 (x3 : Int) (σ : St) (h0 : 0 ≤ (wr (x3 + 1))) (h1 : (wr (x3 + 1)) < σ 32 1 0) : Rx k_L_law 426 [.inr (.inl (32, 0)), .inr (.inl (0, 0)), .inr (.inl (16, 0)), .inl x3] [] σ = (Rx k_X4_setsUp 0 [.inr (.inl (0, 0)), .inl (σ 32 0 (wr (x3 + 1)).toNat)] [] σ).bind fun q => Rx k_L_law 435 [.inr (.inl (32, 0)), .inr (.inl (0, 0)), .inr (.inl (16, 0)), .inl x3] (q.1.toList ++ []) q.2 := by
  refine (Rx_N (k := 5) (pc' := 431) (ls' := [.inr (.inl (32, 0)), .inr (.inl (0, 0)), .inr (.inl (16, 0)), .inl x3]) (st' := [.inl (wr (x3 + 1)), .inr (.inl (32, 0)), .inr (.inl (0, 0))]) (σ' := σ) rfl).trans ?_
  refine (Rx_sld rfl h0 h1).trans ?_
  exact Rx_call (n := 3) (y' := k_X4_setsUp) (as := [.inr (.inl (0, 0)), .inl (σ 32 0 (wr (x3 + 1)).toNat)]) (rest := []) rfl rfl rfl
set_option maxRecDepth 100000 in
theorem b_L_law_426 (x3 : Int) (σ : St) (h0 : 0 ≤ (x3 + 1)) (h1 : (x3 + 1) < σ 32 1 0) (g0a : -2147483648 ≤ (x3 + 1)) (g0b : (x3 + 1) < 2147483648) : Rx k_L_law 426 [.inr (.inl (32, 0)), .inr (.inl (0, 0)), .inr (.inl (16, 0)), .inl x3] [] σ = (Rx k_X4_setsUp 0 [.inr (.inl (0, 0)), .inl (σ 32 0 (x3 + 1).toNat)] [] σ).bind fun q => Rx k_L_law 435 [.inr (.inl (32, 0)), .inr (.inl (0, 0)), .inr (.inl (16, 0)), .inl x3] (q.1.toList ++ []) q.2 := by
  have e0 := wr_id (x := (x3 + 1)) g0a g0b
  have raw := r_L_law_426 x3 σ (by simp only [e0]; exact h0) (by simp only [e0]; exact h1)
  simp only [e0] at raw
  exact raw
set_option maxRecDepth 100000 in
theorem r_L_law_435 (x3 : Int) (s0 : Int) (σ : St) (h0 : 0 ≤ (wr (x3 + 1))) (h1 : (wr (x3 + 1)) < σ 32 1 0) : Rx k_L_law 435 [.inr (.inl (32, 0)), .inr (.inl (0, 0)), .inr (.inl (16, 0)), .inl x3] [.inl s0] σ = (Rx k_X5_setsUp 0 [.inr (.inl (16, 0)), .inl (σ 32 0 (wr (x3 + 1)).toNat), uns] [] σ).bind fun q => Rx k_L_law 444 [.inr (.inl (32, 0)), .inr (.inl (0, 0)), .inr (.inl (16, 0)), .inl x3] (q.1.toList ++ [.inl s0]) q.2 := by
  refine (Rx_N (k := 5) (pc' := 440) (ls' := [.inr (.inl (32, 0)), .inr (.inl (0, 0)), .inr (.inl (16, 0)), .inl x3]) (st' := [.inl (wr (x3 + 1)), .inr (.inl (32, 0)), .inr (.inl (16, 0)), .inl s0]) (σ' := σ) rfl).trans ?_
  refine (Rx_sld rfl h0 h1).trans ?_
  exact Rx_call (n := 3) (y' := k_X5_setsUp) (as := [.inr (.inl (16, 0)), .inl (σ 32 0 (wr (x3 + 1)).toNat)]) (rest := [.inl s0]) rfl rfl rfl
set_option maxRecDepth 100000 in
theorem b_L_law_435 (x3 : Int) (s0 : Int) (σ : St) (h0 : 0 ≤ (x3 + 1)) (h1 : (x3 + 1) < σ 32 1 0) (g0a : -2147483648 ≤ (x3 + 1)) (g0b : (x3 + 1) < 2147483648) : Rx k_L_law 435 [.inr (.inl (32, 0)), .inr (.inl (0, 0)), .inr (.inl (16, 0)), .inl x3] [.inl s0] σ = (Rx k_X5_setsUp 0 [.inr (.inl (16, 0)), .inl (σ 32 0 (x3 + 1).toNat), uns] [] σ).bind fun q => Rx k_L_law 444 [.inr (.inl (32, 0)), .inr (.inl (0, 0)), .inr (.inl (16, 0)), .inl x3] (q.1.toList ++ [.inl s0]) q.2 := by
  have e0 := wr_id (x := (x3 + 1)) g0a g0b
  have raw := r_L_law_435 x3 s0 σ (by simp only [e0]; exact h0) (by simp only [e0]; exact h1)
  simp only [e0] at raw
  exact raw
set_option maxRecDepth 100000 in
theorem b_L_law_444 (x3 : Int) (s1 : Int) (s0 : Int) (σ : St) : Rx k_L_law 444 [.inr (.inl (32, 0)), .inr (.inl (0, 0)), .inr (.inl (16, 0)), .inl x3] [.inl s1, .inl s0] σ = if s0 = s1 then Rx k_L_law 1346 [.inr (.inl (32, 0)), .inr (.inl (0, 0)), .inr (.inl (16, 0)), .inl x3] [] σ else Rx k_L_law 447 [.inr (.inl (32, 0)), .inr (.inl (0, 0)), .inr (.inl (16, 0)), .inl x3] [] σ := by
  exact Rx_eq0 (k := 1) rfl
set_option maxRecDepth 100000 in
theorem b_L_law_447 (x3 : Int) (σ : St) : Rx k_L_law 447 [.inr (.inl (32, 0)), .inr (.inl (0, 0)), .inr (.inl (16, 0)), .inl x3] [] σ = some (some (.inl 0), σ) := by
  refine (Rx_N (k := 1) (pc' := 448) (ls' := [.inr (.inl (32, 0)), .inr (.inl (0, 0)), .inr (.inl (16, 0)), .inl x3]) (st' := [.inl 0]) (σ' := σ) rfl).trans ?_
  exact Rx_ret rfl rfl
set_option maxRecDepth 100000 in
theorem r_L_law_449 (x3 : Int) (σ : St) (h0 : 0 ≤ (wr (x3 + 1))) (h1 : (wr (x3 + 1)) < σ 32 1 0) : Rx k_L_law 449 [.inr (.inl (32, 0)), .inr (.inl (0, 0)), .inr (.inl (16, 0)), .inl x3] [] σ = (Rx k_X4_pushes 0 [.inr (.inl (0, 0)), .inl (σ 32 0 (wr (x3 + 1)).toNat), uns] [] σ).bind fun q => Rx k_L_law 458 [.inr (.inl (32, 0)), .inr (.inl (0, 0)), .inr (.inl (16, 0)), .inl x3] (q.1.toList ++ []) q.2 := by
  refine (Rx_N (k := 5) (pc' := 454) (ls' := [.inr (.inl (32, 0)), .inr (.inl (0, 0)), .inr (.inl (16, 0)), .inl x3]) (st' := [.inl (wr (x3 + 1)), .inr (.inl (32, 0)), .inr (.inl (0, 0))]) (σ' := σ) rfl).trans ?_
  refine (Rx_sld rfl h0 h1).trans ?_
  exact Rx_call (n := 3) (y' := k_X4_pushes) (as := [.inr (.inl (0, 0)), .inl (σ 32 0 (wr (x3 + 1)).toNat)]) (rest := []) rfl rfl rfl
set_option maxRecDepth 100000 in
theorem b_L_law_449 (x3 : Int) (σ : St) (h0 : 0 ≤ (x3 + 1)) (h1 : (x3 + 1) < σ 32 1 0) (g0a : -2147483648 ≤ (x3 + 1)) (g0b : (x3 + 1) < 2147483648) : Rx k_L_law 449 [.inr (.inl (32, 0)), .inr (.inl (0, 0)), .inr (.inl (16, 0)), .inl x3] [] σ = (Rx k_X4_pushes 0 [.inr (.inl (0, 0)), .inl (σ 32 0 (x3 + 1).toNat), uns] [] σ).bind fun q => Rx k_L_law 458 [.inr (.inl (32, 0)), .inr (.inl (0, 0)), .inr (.inl (16, 0)), .inl x3] (q.1.toList ++ []) q.2 := by
  have e0 := wr_id (x := (x3 + 1)) g0a g0b
  have raw := r_L_law_449 x3 σ (by simp only [e0]; exact h0) (by simp only [e0]; exact h1)
  simp only [e0] at raw
  exact raw
set_option maxRecDepth 100000 in
theorem r_L_law_458 (x3 : Int) (s0 : Int) (σ : St) (h0 : 0 ≤ (wr (x3 + 1))) (h1 : (wr (x3 + 1)) < σ 32 1 0) : Rx k_L_law 458 [.inr (.inl (32, 0)), .inr (.inl (0, 0)), .inr (.inl (16, 0)), .inl x3] [.inl s0] σ = (Rx k_X5_pushes 0 [.inr (.inl (16, 0)), .inl (σ 32 0 (wr (x3 + 1)).toNat), uns] [] σ).bind fun q => Rx k_L_law 467 [.inr (.inl (32, 0)), .inr (.inl (0, 0)), .inr (.inl (16, 0)), .inl x3] (q.1.toList ++ [.inl s0]) q.2 := by
  refine (Rx_N (k := 5) (pc' := 463) (ls' := [.inr (.inl (32, 0)), .inr (.inl (0, 0)), .inr (.inl (16, 0)), .inl x3]) (st' := [.inl (wr (x3 + 1)), .inr (.inl (32, 0)), .inr (.inl (16, 0)), .inl s0]) (σ' := σ) rfl).trans ?_
  refine (Rx_sld rfl h0 h1).trans ?_
  exact Rx_call (n := 3) (y' := k_X5_pushes) (as := [.inr (.inl (16, 0)), .inl (σ 32 0 (wr (x3 + 1)).toNat)]) (rest := [.inl s0]) rfl rfl rfl
set_option maxRecDepth 100000 in
theorem b_L_law_458 (x3 : Int) (s0 : Int) (σ : St) (h0 : 0 ≤ (x3 + 1)) (h1 : (x3 + 1) < σ 32 1 0) (g0a : -2147483648 ≤ (x3 + 1)) (g0b : (x3 + 1) < 2147483648) : Rx k_L_law 458 [.inr (.inl (32, 0)), .inr (.inl (0, 0)), .inr (.inl (16, 0)), .inl x3] [.inl s0] σ = (Rx k_X5_pushes 0 [.inr (.inl (16, 0)), .inl (σ 32 0 (x3 + 1).toNat), uns] [] σ).bind fun q => Rx k_L_law 467 [.inr (.inl (32, 0)), .inr (.inl (0, 0)), .inr (.inl (16, 0)), .inl x3] (q.1.toList ++ [.inl s0]) q.2 := by
  have e0 := wr_id (x := (x3 + 1)) g0a g0b
  have raw := r_L_law_458 x3 s0 σ (by simp only [e0]; exact h0) (by simp only [e0]; exact h1)
  simp only [e0] at raw
  exact raw
set_option maxRecDepth 100000 in
theorem b_L_law_467 (x3 : Int) (s1 : Int) (s0 : Int) (σ : St) : Rx k_L_law 467 [.inr (.inl (32, 0)), .inr (.inl (0, 0)), .inr (.inl (16, 0)), .inl x3] [.inl s1, .inl s0] σ = if s0 = s1 then Rx k_L_law 1346 [.inr (.inl (32, 0)), .inr (.inl (0, 0)), .inr (.inl (16, 0)), .inl x3] [] σ else Rx k_L_law 470 [.inr (.inl (32, 0)), .inr (.inl (0, 0)), .inr (.inl (16, 0)), .inl x3] [] σ := by
  exact Rx_eq0 (k := 1) rfl
set_option maxRecDepth 100000 in
theorem b_L_law_470 (x3 : Int) (σ : St) : Rx k_L_law 470 [.inr (.inl (32, 0)), .inr (.inl (0, 0)), .inr (.inl (16, 0)), .inl x3] [] σ = some (some (.inl 0), σ) := by
  refine (Rx_N (k := 1) (pc' := 471) (ls' := [.inr (.inl (32, 0)), .inr (.inl (0, 0)), .inr (.inl (16, 0)), .inl x3]) (st' := [.inl 0]) (σ' := σ) rfl).trans ?_
  exact Rx_ret rfl rfl
set_option maxRecDepth 100000 in
theorem r_L_law_472 (x3 : Int) (σ : St) (h0 : 0 ≤ (wr (x3 + 1))) (h1 : (wr (x3 + 1)) < σ 32 1 0) (h2 : 0 ≤ (wr (x3 + 2))) (h3 : (wr (x3 + 2)) < σ 32 1 0) : Rx k_L_law 472 [.inr (.inl (32, 0)), .inr (.inl (0, 0)), .inr (.inl (16, 0)), .inl x3] [] σ = (Rx k_X4_strong 0 [.inr (.inl (0, 0)), .inl (σ 32 0 (wr (x3 + 1)).toNat), .inl (σ 32 0 (wr (x3 + 2)).toNat), uns, uns] [] σ).bind fun q => Rx k_L_law 486 [.inr (.inl (32, 0)), .inr (.inl (0, 0)), .inr (.inl (16, 0)), .inl x3] (q.1.toList ++ []) q.2 := by
  refine (Rx_N (k := 5) (pc' := 477) (ls' := [.inr (.inl (32, 0)), .inr (.inl (0, 0)), .inr (.inl (16, 0)), .inl x3]) (st' := [.inl (wr (x3 + 1)), .inr (.inl (32, 0)), .inr (.inl (0, 0))]) (σ' := σ) rfl).trans ?_
  refine (Rx_sld rfl h0 h1).trans ?_
  refine (Rx_N (k := 4) (pc' := 482) (ls' := [.inr (.inl (32, 0)), .inr (.inl (0, 0)), .inr (.inl (16, 0)), .inl x3]) (st' := [.inl (wr (x3 + 2)), .inr (.inl (32, 0)), .inl (σ 32 0 (wr (x3 + 1)).toNat), .inr (.inl (0, 0))]) (σ' := σ) rfl).trans ?_
  refine (Rx_sld rfl h2 h3).trans ?_
  exact Rx_call (n := 3) (y' := k_X4_strong) (as := [.inr (.inl (0, 0)), .inl (σ 32 0 (wr (x3 + 1)).toNat), .inl (σ 32 0 (wr (x3 + 2)).toNat)]) (rest := []) rfl rfl rfl
set_option maxRecDepth 100000 in
theorem b_L_law_472 (x3 : Int) (σ : St) (h0 : 0 ≤ (x3 + 1)) (h1 : (x3 + 1) < σ 32 1 0) (h2 : 0 ≤ (x3 + 2)) (h3 : (x3 + 2) < σ 32 1 0) (g0a : -2147483648 ≤ (x3 + 1)) (g0b : (x3 + 1) < 2147483648) (g1a : -2147483648 ≤ (x3 + 2)) (g1b : (x3 + 2) < 2147483648) : Rx k_L_law 472 [.inr (.inl (32, 0)), .inr (.inl (0, 0)), .inr (.inl (16, 0)), .inl x3] [] σ = (Rx k_X4_strong 0 [.inr (.inl (0, 0)), .inl (σ 32 0 (x3 + 1).toNat), .inl (σ 32 0 (x3 + 2).toNat), uns, uns] [] σ).bind fun q => Rx k_L_law 486 [.inr (.inl (32, 0)), .inr (.inl (0, 0)), .inr (.inl (16, 0)), .inl x3] (q.1.toList ++ []) q.2 := by
  have e0 := wr_id (x := (x3 + 1)) g0a g0b
  have e1 := wr_id (x := (x3 + 2)) g1a g1b
  have raw := r_L_law_472 x3 σ (by simp only [e0, e1]; exact h0) (by simp only [e0, e1]; exact h1) (by simp only [e0, e1]; exact h2) (by simp only [e0, e1]; exact h3)
  simp only [e0, e1] at raw
  exact raw
set_option maxRecDepth 100000 in
theorem r_L_law_486 (x3 : Int) (s0 : Int) (σ : St) (h0 : 0 ≤ (wr (x3 + 1))) (h1 : (wr (x3 + 1)) < σ 32 1 0) (h2 : 0 ≤ (wr (x3 + 2))) (h3 : (wr (x3 + 2)) < σ 32 1 0) : Rx k_L_law 486 [.inr (.inl (32, 0)), .inr (.inl (0, 0)), .inr (.inl (16, 0)), .inl x3] [.inl s0] σ = (Rx k_X5_strong 0 [.inr (.inl (16, 0)), .inl (σ 32 0 (wr (x3 + 1)).toNat), .inl (σ 32 0 (wr (x3 + 2)).toNat), uns, uns] [] σ).bind fun q => Rx k_L_law 500 [.inr (.inl (32, 0)), .inr (.inl (0, 0)), .inr (.inl (16, 0)), .inl x3] (q.1.toList ++ [.inl s0]) q.2 := by
  refine (Rx_N (k := 5) (pc' := 491) (ls' := [.inr (.inl (32, 0)), .inr (.inl (0, 0)), .inr (.inl (16, 0)), .inl x3]) (st' := [.inl (wr (x3 + 1)), .inr (.inl (32, 0)), .inr (.inl (16, 0)), .inl s0]) (σ' := σ) rfl).trans ?_
  refine (Rx_sld rfl h0 h1).trans ?_
  refine (Rx_N (k := 4) (pc' := 496) (ls' := [.inr (.inl (32, 0)), .inr (.inl (0, 0)), .inr (.inl (16, 0)), .inl x3]) (st' := [.inl (wr (x3 + 2)), .inr (.inl (32, 0)), .inl (σ 32 0 (wr (x3 + 1)).toNat), .inr (.inl (16, 0)), .inl s0]) (σ' := σ) rfl).trans ?_
  refine (Rx_sld rfl h2 h3).trans ?_
  exact Rx_call (n := 3) (y' := k_X5_strong) (as := [.inr (.inl (16, 0)), .inl (σ 32 0 (wr (x3 + 1)).toNat), .inl (σ 32 0 (wr (x3 + 2)).toNat)]) (rest := [.inl s0]) rfl rfl rfl
set_option maxRecDepth 100000 in
theorem b_L_law_486 (x3 : Int) (s0 : Int) (σ : St) (h0 : 0 ≤ (x3 + 1)) (h1 : (x3 + 1) < σ 32 1 0) (h2 : 0 ≤ (x3 + 2)) (h3 : (x3 + 2) < σ 32 1 0) (g0a : -2147483648 ≤ (x3 + 1)) (g0b : (x3 + 1) < 2147483648) (g1a : -2147483648 ≤ (x3 + 2)) (g1b : (x3 + 2) < 2147483648) : Rx k_L_law 486 [.inr (.inl (32, 0)), .inr (.inl (0, 0)), .inr (.inl (16, 0)), .inl x3] [.inl s0] σ = (Rx k_X5_strong 0 [.inr (.inl (16, 0)), .inl (σ 32 0 (x3 + 1).toNat), .inl (σ 32 0 (x3 + 2).toNat), uns, uns] [] σ).bind fun q => Rx k_L_law 500 [.inr (.inl (32, 0)), .inr (.inl (0, 0)), .inr (.inl (16, 0)), .inl x3] (q.1.toList ++ [.inl s0]) q.2 := by
  have e0 := wr_id (x := (x3 + 1)) g0a g0b
  have e1 := wr_id (x := (x3 + 2)) g1a g1b
  have raw := r_L_law_486 x3 s0 σ (by simp only [e0, e1]; exact h0) (by simp only [e0, e1]; exact h1) (by simp only [e0, e1]; exact h2) (by simp only [e0, e1]; exact h3)
  simp only [e0, e1] at raw
  exact raw
set_option maxRecDepth 100000 in
theorem b_L_law_500 (x3 : Int) (s1 : Int) (s0 : Int) (σ : St) : Rx k_L_law 500 [.inr (.inl (32, 0)), .inr (.inl (0, 0)), .inr (.inl (16, 0)), .inl x3] [.inl s1, .inl s0] σ = if s0 = s1 then Rx k_L_law 1346 [.inr (.inl (32, 0)), .inr (.inl (0, 0)), .inr (.inl (16, 0)), .inl x3] [] σ else Rx k_L_law 503 [.inr (.inl (32, 0)), .inr (.inl (0, 0)), .inr (.inl (16, 0)), .inl x3] [] σ := by
  exact Rx_eq0 (k := 1) rfl
set_option maxRecDepth 100000 in
theorem b_L_law_503 (x3 : Int) (σ : St) : Rx k_L_law 503 [.inr (.inl (32, 0)), .inr (.inl (0, 0)), .inr (.inl (16, 0)), .inl x3] [] σ = some (some (.inl 0), σ) := by
  refine (Rx_N (k := 1) (pc' := 504) (ls' := [.inr (.inl (32, 0)), .inr (.inl (0, 0)), .inr (.inl (16, 0)), .inl x3]) (st' := [.inl 0]) (σ' := σ) rfl).trans ?_
  exact Rx_ret rfl rfl
set_option maxRecDepth 100000 in
theorem r_L_law_505 (x3 : Int) (σ : St) (h0 : 0 ≤ (wr (x3 + 1))) (h1 : (wr (x3 + 1)) < σ 32 1 0) (h2 : 0 ≤ (wr (x3 + 2))) (h3 : (wr (x3 + 2)) < σ 32 1 0) (h4 : 0 ≤ (wr (x3 + 3))) (h5 : (wr (x3 + 3)) < σ 32 1 0) : Rx k_L_law 505 [.inr (.inl (32, 0)), .inr (.inl (0, 0)), .inr (.inl (16, 0)), .inl x3] [] σ = (Rx k_X4_turn 0 [.inr (.inl (0, 0)), .inl (σ 32 0 (wr (x3 + 1)).toNat), .inl (σ 32 0 (wr (x3 + 2)).toNat), .inl (σ 32 0 (wr (x3 + 3)).toNat), uns, uns] [] σ).bind fun q => Rx k_L_law 524 [.inr (.inl (32, 0)), .inr (.inl (0, 0)), .inr (.inl (16, 0)), .inl x3] (q.1.toList ++ []) q.2 := by
  refine (Rx_N (k := 5) (pc' := 510) (ls' := [.inr (.inl (32, 0)), .inr (.inl (0, 0)), .inr (.inl (16, 0)), .inl x3]) (st' := [.inl (wr (x3 + 1)), .inr (.inl (32, 0)), .inr (.inl (0, 0))]) (σ' := σ) rfl).trans ?_
  refine (Rx_sld rfl h0 h1).trans ?_
  refine (Rx_N (k := 4) (pc' := 515) (ls' := [.inr (.inl (32, 0)), .inr (.inl (0, 0)), .inr (.inl (16, 0)), .inl x3]) (st' := [.inl (wr (x3 + 2)), .inr (.inl (32, 0)), .inl (σ 32 0 (wr (x3 + 1)).toNat), .inr (.inl (0, 0))]) (σ' := σ) rfl).trans ?_
  refine (Rx_sld rfl h2 h3).trans ?_
  refine (Rx_N (k := 4) (pc' := 520) (ls' := [.inr (.inl (32, 0)), .inr (.inl (0, 0)), .inr (.inl (16, 0)), .inl x3]) (st' := [.inl (wr (x3 + 3)), .inr (.inl (32, 0)), .inl (σ 32 0 (wr (x3 + 2)).toNat), .inl (σ 32 0 (wr (x3 + 1)).toNat), .inr (.inl (0, 0))]) (σ' := σ) rfl).trans ?_
  refine (Rx_sld rfl h4 h5).trans ?_
  exact Rx_call (n := 3) (y' := k_X4_turn) (as := [.inr (.inl (0, 0)), .inl (σ 32 0 (wr (x3 + 1)).toNat), .inl (σ 32 0 (wr (x3 + 2)).toNat), .inl (σ 32 0 (wr (x3 + 3)).toNat)]) (rest := []) rfl rfl rfl
set_option maxRecDepth 100000 in
theorem b_L_law_505 (x3 : Int) (σ : St) (h0 : 0 ≤ (x3 + 1)) (h1 : (x3 + 1) < σ 32 1 0) (h2 : 0 ≤ (x3 + 2)) (h3 : (x3 + 2) < σ 32 1 0) (h4 : 0 ≤ (x3 + 3)) (h5 : (x3 + 3) < σ 32 1 0) (g0a : -2147483648 ≤ (x3 + 1)) (g0b : (x3 + 1) < 2147483648) (g1a : -2147483648 ≤ (x3 + 2)) (g1b : (x3 + 2) < 2147483648) (g2a : -2147483648 ≤ (x3 + 3)) (g2b : (x3 + 3) < 2147483648) : Rx k_L_law 505 [.inr (.inl (32, 0)), .inr (.inl (0, 0)), .inr (.inl (16, 0)), .inl x3] [] σ = (Rx k_X4_turn 0 [.inr (.inl (0, 0)), .inl (σ 32 0 (x3 + 1).toNat), .inl (σ 32 0 (x3 + 2).toNat), .inl (σ 32 0 (x3 + 3).toNat), uns, uns] [] σ).bind fun q => Rx k_L_law 524 [.inr (.inl (32, 0)), .inr (.inl (0, 0)), .inr (.inl (16, 0)), .inl x3] (q.1.toList ++ []) q.2 := by
  have e0 := wr_id (x := (x3 + 1)) g0a g0b
  have e1 := wr_id (x := (x3 + 2)) g1a g1b
  have e2 := wr_id (x := (x3 + 3)) g2a g2b
  have raw := r_L_law_505 x3 σ (by simp only [e0, e1, e2]; exact h0) (by simp only [e0, e1, e2]; exact h1) (by simp only [e0, e1, e2]; exact h2) (by simp only [e0, e1, e2]; exact h3) (by simp only [e0, e1, e2]; exact h4) (by simp only [e0, e1, e2]; exact h5)
  simp only [e0, e1, e2] at raw
  exact raw
set_option maxRecDepth 100000 in
theorem r_L_law_524 (x3 : Int) (s0 : Int) (σ : St) (h0 : 0 ≤ (wr (x3 + 1))) (h1 : (wr (x3 + 1)) < σ 32 1 0) (h2 : 0 ≤ (wr (x3 + 2))) (h3 : (wr (x3 + 2)) < σ 32 1 0) (h4 : 0 ≤ (wr (x3 + 3))) (h5 : (wr (x3 + 3)) < σ 32 1 0) : Rx k_L_law 524 [.inr (.inl (32, 0)), .inr (.inl (0, 0)), .inr (.inl (16, 0)), .inl x3] [.inl s0] σ = (Rx k_X5_turn 0 [.inr (.inl (16, 0)), .inl (σ 32 0 (wr (x3 + 1)).toNat), .inl (σ 32 0 (wr (x3 + 2)).toNat), .inl (σ 32 0 (wr (x3 + 3)).toNat), uns, uns, uns] [] σ).bind fun q => Rx k_L_law 543 [.inr (.inl (32, 0)), .inr (.inl (0, 0)), .inr (.inl (16, 0)), .inl x3] (q.1.toList ++ [.inl s0]) q.2 := by
  refine (Rx_N (k := 5) (pc' := 529) (ls' := [.inr (.inl (32, 0)), .inr (.inl (0, 0)), .inr (.inl (16, 0)), .inl x3]) (st' := [.inl (wr (x3 + 1)), .inr (.inl (32, 0)), .inr (.inl (16, 0)), .inl s0]) (σ' := σ) rfl).trans ?_
  refine (Rx_sld rfl h0 h1).trans ?_
  refine (Rx_N (k := 4) (pc' := 534) (ls' := [.inr (.inl (32, 0)), .inr (.inl (0, 0)), .inr (.inl (16, 0)), .inl x3]) (st' := [.inl (wr (x3 + 2)), .inr (.inl (32, 0)), .inl (σ 32 0 (wr (x3 + 1)).toNat), .inr (.inl (16, 0)), .inl s0]) (σ' := σ) rfl).trans ?_
  refine (Rx_sld rfl h2 h3).trans ?_
  refine (Rx_N (k := 4) (pc' := 539) (ls' := [.inr (.inl (32, 0)), .inr (.inl (0, 0)), .inr (.inl (16, 0)), .inl x3]) (st' := [.inl (wr (x3 + 3)), .inr (.inl (32, 0)), .inl (σ 32 0 (wr (x3 + 2)).toNat), .inl (σ 32 0 (wr (x3 + 1)).toNat), .inr (.inl (16, 0)), .inl s0]) (σ' := σ) rfl).trans ?_
  refine (Rx_sld rfl h4 h5).trans ?_
  exact Rx_call (n := 3) (y' := k_X5_turn) (as := [.inr (.inl (16, 0)), .inl (σ 32 0 (wr (x3 + 1)).toNat), .inl (σ 32 0 (wr (x3 + 2)).toNat), .inl (σ 32 0 (wr (x3 + 3)).toNat)]) (rest := [.inl s0]) rfl rfl rfl
set_option maxRecDepth 100000 in
theorem b_L_law_524 (x3 : Int) (s0 : Int) (σ : St) (h0 : 0 ≤ (x3 + 1)) (h1 : (x3 + 1) < σ 32 1 0) (h2 : 0 ≤ (x3 + 2)) (h3 : (x3 + 2) < σ 32 1 0) (h4 : 0 ≤ (x3 + 3)) (h5 : (x3 + 3) < σ 32 1 0) (g0a : -2147483648 ≤ (x3 + 1)) (g0b : (x3 + 1) < 2147483648) (g1a : -2147483648 ≤ (x3 + 2)) (g1b : (x3 + 2) < 2147483648) (g2a : -2147483648 ≤ (x3 + 3)) (g2b : (x3 + 3) < 2147483648) : Rx k_L_law 524 [.inr (.inl (32, 0)), .inr (.inl (0, 0)), .inr (.inl (16, 0)), .inl x3] [.inl s0] σ = (Rx k_X5_turn 0 [.inr (.inl (16, 0)), .inl (σ 32 0 (x3 + 1).toNat), .inl (σ 32 0 (x3 + 2).toNat), .inl (σ 32 0 (x3 + 3).toNat), uns, uns, uns] [] σ).bind fun q => Rx k_L_law 543 [.inr (.inl (32, 0)), .inr (.inl (0, 0)), .inr (.inl (16, 0)), .inl x3] (q.1.toList ++ [.inl s0]) q.2 := by
  have e0 := wr_id (x := (x3 + 1)) g0a g0b
  have e1 := wr_id (x := (x3 + 2)) g1a g1b
  have e2 := wr_id (x := (x3 + 3)) g2a g2b
  have raw := r_L_law_524 x3 s0 σ (by simp only [e0, e1, e2]; exact h0) (by simp only [e0, e1, e2]; exact h1) (by simp only [e0, e1, e2]; exact h2) (by simp only [e0, e1, e2]; exact h3) (by simp only [e0, e1, e2]; exact h4) (by simp only [e0, e1, e2]; exact h5)
  simp only [e0, e1, e2] at raw
  exact raw
set_option maxRecDepth 100000 in
theorem b_L_law_543 (x3 : Int) (s1 : Int) (s0 : Int) (σ : St) : Rx k_L_law 543 [.inr (.inl (32, 0)), .inr (.inl (0, 0)), .inr (.inl (16, 0)), .inl x3] [.inl s1, .inl s0] σ = if s0 = s1 then Rx k_L_law 1346 [.inr (.inl (32, 0)), .inr (.inl (0, 0)), .inr (.inl (16, 0)), .inl x3] [] σ else Rx k_L_law 546 [.inr (.inl (32, 0)), .inr (.inl (0, 0)), .inr (.inl (16, 0)), .inl x3] [] σ := by
  exact Rx_eq0 (k := 1) rfl
set_option maxRecDepth 100000 in
theorem b_L_law_546 (x3 : Int) (σ : St) : Rx k_L_law 546 [.inr (.inl (32, 0)), .inr (.inl (0, 0)), .inr (.inl (16, 0)), .inl x3] [] σ = some (some (.inl 0), σ) := by
  refine (Rx_N (k := 1) (pc' := 547) (ls' := [.inr (.inl (32, 0)), .inr (.inl (0, 0)), .inr (.inl (16, 0)), .inl x3]) (st' := [.inl 0]) (σ' := σ) rfl).trans ?_
  exact Rx_ret rfl rfl
set_option maxRecDepth 100000 in
theorem r_L_law_548 (x3 : Int) (σ : St) (h0 : 0 ≤ (wr (x3 + 1))) (h1 : (wr (x3 + 1)) < σ 32 1 0) : Rx k_L_law 548 [.inr (.inl (32, 0)), .inr (.inl (0, 0)), .inr (.inl (16, 0)), .inl x3] [] σ = (Rx k_X4_days 0 [.inr (.inl (0, 0)), .inl (σ 32 0 (wr (x3 + 1)).toNat), uns] [] σ).bind fun q => Rx k_L_law 557 [.inr (.inl (32, 0)), .inr (.inl (0, 0)), .inr (.inl (16, 0)), .inl x3] (q.1.toList ++ []) q.2 := by
  refine (Rx_N (k := 5) (pc' := 553) (ls' := [.inr (.inl (32, 0)), .inr (.inl (0, 0)), .inr (.inl (16, 0)), .inl x3]) (st' := [.inl (wr (x3 + 1)), .inr (.inl (32, 0)), .inr (.inl (0, 0))]) (σ' := σ) rfl).trans ?_
  refine (Rx_sld rfl h0 h1).trans ?_
  exact Rx_call (n := 3) (y' := k_X4_days) (as := [.inr (.inl (0, 0)), .inl (σ 32 0 (wr (x3 + 1)).toNat)]) (rest := []) rfl rfl rfl
set_option maxRecDepth 100000 in
theorem b_L_law_548 (x3 : Int) (σ : St) (h0 : 0 ≤ (x3 + 1)) (h1 : (x3 + 1) < σ 32 1 0) (g0a : -2147483648 ≤ (x3 + 1)) (g0b : (x3 + 1) < 2147483648) : Rx k_L_law 548 [.inr (.inl (32, 0)), .inr (.inl (0, 0)), .inr (.inl (16, 0)), .inl x3] [] σ = (Rx k_X4_days 0 [.inr (.inl (0, 0)), .inl (σ 32 0 (x3 + 1).toNat), uns] [] σ).bind fun q => Rx k_L_law 557 [.inr (.inl (32, 0)), .inr (.inl (0, 0)), .inr (.inl (16, 0)), .inl x3] (q.1.toList ++ []) q.2 := by
  have e0 := wr_id (x := (x3 + 1)) g0a g0b
  have raw := r_L_law_548 x3 σ (by simp only [e0]; exact h0) (by simp only [e0]; exact h1)
  simp only [e0] at raw
  exact raw
set_option maxRecDepth 100000 in
theorem r_L_law_557 (x3 : Int) (s0 : Int) (σ : St) (h0 : 0 ≤ (wr (x3 + 1))) (h1 : (wr (x3 + 1)) < σ 32 1 0) : Rx k_L_law 557 [.inr (.inl (32, 0)), .inr (.inl (0, 0)), .inr (.inl (16, 0)), .inl x3] [.inl s0] σ = (Rx k_X5_days 0 [.inr (.inl (16, 0)), .inl (σ 32 0 (wr (x3 + 1)).toNat)] [] σ).bind fun q => Rx k_L_law 566 [.inr (.inl (32, 0)), .inr (.inl (0, 0)), .inr (.inl (16, 0)), .inl x3] (q.1.toList ++ [.inl s0]) q.2 := by
  refine (Rx_N (k := 5) (pc' := 562) (ls' := [.inr (.inl (32, 0)), .inr (.inl (0, 0)), .inr (.inl (16, 0)), .inl x3]) (st' := [.inl (wr (x3 + 1)), .inr (.inl (32, 0)), .inr (.inl (16, 0)), .inl s0]) (σ' := σ) rfl).trans ?_
  refine (Rx_sld rfl h0 h1).trans ?_
  exact Rx_call (n := 3) (y' := k_X5_days) (as := [.inr (.inl (16, 0)), .inl (σ 32 0 (wr (x3 + 1)).toNat)]) (rest := [.inl s0]) rfl rfl rfl
set_option maxRecDepth 100000 in
theorem b_L_law_557 (x3 : Int) (s0 : Int) (σ : St) (h0 : 0 ≤ (x3 + 1)) (h1 : (x3 + 1) < σ 32 1 0) (g0a : -2147483648 ≤ (x3 + 1)) (g0b : (x3 + 1) < 2147483648) : Rx k_L_law 557 [.inr (.inl (32, 0)), .inr (.inl (0, 0)), .inr (.inl (16, 0)), .inl x3] [.inl s0] σ = (Rx k_X5_days 0 [.inr (.inl (16, 0)), .inl (σ 32 0 (x3 + 1).toNat)] [] σ).bind fun q => Rx k_L_law 566 [.inr (.inl (32, 0)), .inr (.inl (0, 0)), .inr (.inl (16, 0)), .inl x3] (q.1.toList ++ [.inl s0]) q.2 := by
  have e0 := wr_id (x := (x3 + 1)) g0a g0b
  have raw := r_L_law_557 x3 s0 σ (by simp only [e0]; exact h0) (by simp only [e0]; exact h1)
  simp only [e0] at raw
  exact raw
set_option maxRecDepth 100000 in
theorem b_L_law_566 (x3 : Int) (s1 : Int) (s0 : Int) (σ : St) : Rx k_L_law 566 [.inr (.inl (32, 0)), .inr (.inl (0, 0)), .inr (.inl (16, 0)), .inl x3] [.inl s1, .inl s0] σ = if s0 = s1 then Rx k_L_law 1346 [.inr (.inl (32, 0)), .inr (.inl (0, 0)), .inr (.inl (16, 0)), .inl x3] [] σ else Rx k_L_law 569 [.inr (.inl (32, 0)), .inr (.inl (0, 0)), .inr (.inl (16, 0)), .inl x3] [] σ := by
  exact Rx_eq0 (k := 1) rfl
set_option maxRecDepth 100000 in
theorem b_L_law_569 (x3 : Int) (σ : St) : Rx k_L_law 569 [.inr (.inl (32, 0)), .inr (.inl (0, 0)), .inr (.inl (16, 0)), .inl x3] [] σ = some (some (.inl 0), σ) := by
  refine (Rx_N (k := 1) (pc' := 570) (ls' := [.inr (.inl (32, 0)), .inr (.inl (0, 0)), .inr (.inl (16, 0)), .inl x3]) (st' := [.inl 0]) (σ' := σ) rfl).trans ?_
  exact Rx_ret rfl rfl
set_option maxRecDepth 100000 in
theorem r_L_law_571 (x3 : Int) (σ : St) (h0 : 0 ≤ (wr (x3 + 1))) (h1 : (wr (x3 + 1)) < σ 32 1 0) (h2 : 0 ≤ (wr (x3 + 2))) (h3 : (wr (x3 + 2)) < σ 32 1 0) : Rx k_L_law 571 [.inr (.inl (32, 0)), .inr (.inl (0, 0)), .inr (.inl (16, 0)), .inl x3] [] σ = (Rx k_X4_upThen 0 [.inr (.inl (0, 0)), .inl (σ 32 0 (wr (x3 + 1)).toNat), .inl (σ 32 0 (wr (x3 + 2)).toNat), uns] [] σ).bind fun q => Rx k_L_law 585 [.inr (.inl (32, 0)), .inr (.inl (0, 0)), .inr (.inl (16, 0)), .inl x3] (q.1.toList ++ []) q.2 := by
  refine (Rx_N (k := 5) (pc' := 576) (ls' := [.inr (.inl (32, 0)), .inr (.inl (0, 0)), .inr (.inl (16, 0)), .inl x3]) (st' := [.inl (wr (x3 + 1)), .inr (.inl (32, 0)), .inr (.inl (0, 0))]) (σ' := σ) rfl).trans ?_
  refine (Rx_sld rfl h0 h1).trans ?_
  refine (Rx_N (k := 4) (pc' := 581) (ls' := [.inr (.inl (32, 0)), .inr (.inl (0, 0)), .inr (.inl (16, 0)), .inl x3]) (st' := [.inl (wr (x3 + 2)), .inr (.inl (32, 0)), .inl (σ 32 0 (wr (x3 + 1)).toNat), .inr (.inl (0, 0))]) (σ' := σ) rfl).trans ?_
  refine (Rx_sld rfl h2 h3).trans ?_
  exact Rx_call (n := 3) (y' := k_X4_upThen) (as := [.inr (.inl (0, 0)), .inl (σ 32 0 (wr (x3 + 1)).toNat), .inl (σ 32 0 (wr (x3 + 2)).toNat)]) (rest := []) rfl rfl rfl
set_option maxRecDepth 100000 in
theorem b_L_law_571 (x3 : Int) (σ : St) (h0 : 0 ≤ (x3 + 1)) (h1 : (x3 + 1) < σ 32 1 0) (h2 : 0 ≤ (x3 + 2)) (h3 : (x3 + 2) < σ 32 1 0) (g0a : -2147483648 ≤ (x3 + 1)) (g0b : (x3 + 1) < 2147483648) (g1a : -2147483648 ≤ (x3 + 2)) (g1b : (x3 + 2) < 2147483648) : Rx k_L_law 571 [.inr (.inl (32, 0)), .inr (.inl (0, 0)), .inr (.inl (16, 0)), .inl x3] [] σ = (Rx k_X4_upThen 0 [.inr (.inl (0, 0)), .inl (σ 32 0 (x3 + 1).toNat), .inl (σ 32 0 (x3 + 2).toNat), uns] [] σ).bind fun q => Rx k_L_law 585 [.inr (.inl (32, 0)), .inr (.inl (0, 0)), .inr (.inl (16, 0)), .inl x3] (q.1.toList ++ []) q.2 := by
  have e0 := wr_id (x := (x3 + 1)) g0a g0b
  have e1 := wr_id (x := (x3 + 2)) g1a g1b
  have raw := r_L_law_571 x3 σ (by simp only [e0, e1]; exact h0) (by simp only [e0, e1]; exact h1) (by simp only [e0, e1]; exact h2) (by simp only [e0, e1]; exact h3)
  simp only [e0, e1] at raw
  exact raw
set_option maxRecDepth 100000 in
theorem r_L_law_585 (x3 : Int) (s0 : Int) (σ : St) (h0 : 0 ≤ (wr (x3 + 1))) (h1 : (wr (x3 + 1)) < σ 32 1 0) (h2 : 0 ≤ (wr (x3 + 2))) (h3 : (wr (x3 + 2)) < σ 32 1 0) : Rx k_L_law 585 [.inr (.inl (32, 0)), .inr (.inl (0, 0)), .inr (.inl (16, 0)), .inl x3] [.inl s0] σ = (Rx k_X5_upThen 0 [.inr (.inl (16, 0)), .inl (σ 32 0 (wr (x3 + 1)).toNat), .inl (σ 32 0 (wr (x3 + 2)).toNat), uns] [] σ).bind fun q => Rx k_L_law 599 [.inr (.inl (32, 0)), .inr (.inl (0, 0)), .inr (.inl (16, 0)), .inl x3] (q.1.toList ++ [.inl s0]) q.2 := by
  refine (Rx_N (k := 5) (pc' := 590) (ls' := [.inr (.inl (32, 0)), .inr (.inl (0, 0)), .inr (.inl (16, 0)), .inl x3]) (st' := [.inl (wr (x3 + 1)), .inr (.inl (32, 0)), .inr (.inl (16, 0)), .inl s0]) (σ' := σ) rfl).trans ?_
  refine (Rx_sld rfl h0 h1).trans ?_
  refine (Rx_N (k := 4) (pc' := 595) (ls' := [.inr (.inl (32, 0)), .inr (.inl (0, 0)), .inr (.inl (16, 0)), .inl x3]) (st' := [.inl (wr (x3 + 2)), .inr (.inl (32, 0)), .inl (σ 32 0 (wr (x3 + 1)).toNat), .inr (.inl (16, 0)), .inl s0]) (σ' := σ) rfl).trans ?_
  refine (Rx_sld rfl h2 h3).trans ?_
  exact Rx_call (n := 3) (y' := k_X5_upThen) (as := [.inr (.inl (16, 0)), .inl (σ 32 0 (wr (x3 + 1)).toNat), .inl (σ 32 0 (wr (x3 + 2)).toNat)]) (rest := [.inl s0]) rfl rfl rfl
set_option maxRecDepth 100000 in
theorem b_L_law_585 (x3 : Int) (s0 : Int) (σ : St) (h0 : 0 ≤ (x3 + 1)) (h1 : (x3 + 1) < σ 32 1 0) (h2 : 0 ≤ (x3 + 2)) (h3 : (x3 + 2) < σ 32 1 0) (g0a : -2147483648 ≤ (x3 + 1)) (g0b : (x3 + 1) < 2147483648) (g1a : -2147483648 ≤ (x3 + 2)) (g1b : (x3 + 2) < 2147483648) : Rx k_L_law 585 [.inr (.inl (32, 0)), .inr (.inl (0, 0)), .inr (.inl (16, 0)), .inl x3] [.inl s0] σ = (Rx k_X5_upThen 0 [.inr (.inl (16, 0)), .inl (σ 32 0 (x3 + 1).toNat), .inl (σ 32 0 (x3 + 2).toNat), uns] [] σ).bind fun q => Rx k_L_law 599 [.inr (.inl (32, 0)), .inr (.inl (0, 0)), .inr (.inl (16, 0)), .inl x3] (q.1.toList ++ [.inl s0]) q.2 := by
  have e0 := wr_id (x := (x3 + 1)) g0a g0b
  have e1 := wr_id (x := (x3 + 2)) g1a g1b
  have raw := r_L_law_585 x3 s0 σ (by simp only [e0, e1]; exact h0) (by simp only [e0, e1]; exact h1) (by simp only [e0, e1]; exact h2) (by simp only [e0, e1]; exact h3)
  simp only [e0, e1] at raw
  exact raw
set_option maxRecDepth 100000 in
theorem b_L_law_599 (x3 : Int) (s1 : Int) (s0 : Int) (σ : St) : Rx k_L_law 599 [.inr (.inl (32, 0)), .inr (.inl (0, 0)), .inr (.inl (16, 0)), .inl x3] [.inl s1, .inl s0] σ = if s0 = s1 then Rx k_L_law 1346 [.inr (.inl (32, 0)), .inr (.inl (0, 0)), .inr (.inl (16, 0)), .inl x3] [] σ else Rx k_L_law 602 [.inr (.inl (32, 0)), .inr (.inl (0, 0)), .inr (.inl (16, 0)), .inl x3] [] σ := by
  exact Rx_eq0 (k := 1) rfl
set_option maxRecDepth 100000 in
theorem b_L_law_602 (x3 : Int) (σ : St) : Rx k_L_law 602 [.inr (.inl (32, 0)), .inr (.inl (0, 0)), .inr (.inl (16, 0)), .inl x3] [] σ = some (some (.inl 0), σ) := by
  refine (Rx_N (k := 1) (pc' := 603) (ls' := [.inr (.inl (32, 0)), .inr (.inl (0, 0)), .inr (.inl (16, 0)), .inl x3]) (st' := [.inl 0]) (σ' := σ) rfl).trans ?_
  exact Rx_ret rfl rfl
set_option maxRecDepth 100000 in
theorem r_L_law_604 (x3 : Int) (σ : St) (h0 : 0 ≤ (wr (x3 + 1))) (h1 : (wr (x3 + 1)) < σ 32 1 0) : Rx k_L_law 604 [.inr (.inl (32, 0)), .inr (.inl (0, 0)), .inr (.inl (16, 0)), .inl x3] [] σ = (Rx k_X4_allThen 0 [.inr (.inl (0, 0)), .inl (σ 32 0 (wr (x3 + 1)).toNat), uns] [] σ).bind fun q => Rx k_L_law 613 [.inr (.inl (32, 0)), .inr (.inl (0, 0)), .inr (.inl (16, 0)), .inl x3] (q.1.toList ++ []) q.2 := by
  refine (Rx_N (k := 5) (pc' := 609) (ls' := [.inr (.inl (32, 0)), .inr (.inl (0, 0)), .inr (.inl (16, 0)), .inl x3]) (st' := [.inl (wr (x3 + 1)), .inr (.inl (32, 0)), .inr (.inl (0, 0))]) (σ' := σ) rfl).trans ?_
  refine (Rx_sld rfl h0 h1).trans ?_
  exact Rx_call (n := 3) (y' := k_X4_allThen) (as := [.inr (.inl (0, 0)), .inl (σ 32 0 (wr (x3 + 1)).toNat)]) (rest := []) rfl rfl rfl
set_option maxRecDepth 100000 in
theorem b_L_law_604 (x3 : Int) (σ : St) (h0 : 0 ≤ (x3 + 1)) (h1 : (x3 + 1) < σ 32 1 0) (g0a : -2147483648 ≤ (x3 + 1)) (g0b : (x3 + 1) < 2147483648) : Rx k_L_law 604 [.inr (.inl (32, 0)), .inr (.inl (0, 0)), .inr (.inl (16, 0)), .inl x3] [] σ = (Rx k_X4_allThen 0 [.inr (.inl (0, 0)), .inl (σ 32 0 (x3 + 1).toNat), uns] [] σ).bind fun q => Rx k_L_law 613 [.inr (.inl (32, 0)), .inr (.inl (0, 0)), .inr (.inl (16, 0)), .inl x3] (q.1.toList ++ []) q.2 := by
  have e0 := wr_id (x := (x3 + 1)) g0a g0b
  have raw := r_L_law_604 x3 σ (by simp only [e0]; exact h0) (by simp only [e0]; exact h1)
  simp only [e0] at raw
  exact raw
set_option maxRecDepth 100000 in
theorem r_L_law_613 (x3 : Int) (s0 : Int) (σ : St) (h0 : 0 ≤ (wr (x3 + 1))) (h1 : (wr (x3 + 1)) < σ 32 1 0) : Rx k_L_law 613 [.inr (.inl (32, 0)), .inr (.inl (0, 0)), .inr (.inl (16, 0)), .inl x3] [.inl s0] σ = (Rx k_X5_allThen 0 [.inr (.inl (16, 0)), .inl (σ 32 0 (wr (x3 + 1)).toNat), uns] [] σ).bind fun q => Rx k_L_law 622 [.inr (.inl (32, 0)), .inr (.inl (0, 0)), .inr (.inl (16, 0)), .inl x3] (q.1.toList ++ [.inl s0]) q.2 := by
  refine (Rx_N (k := 5) (pc' := 618) (ls' := [.inr (.inl (32, 0)), .inr (.inl (0, 0)), .inr (.inl (16, 0)), .inl x3]) (st' := [.inl (wr (x3 + 1)), .inr (.inl (32, 0)), .inr (.inl (16, 0)), .inl s0]) (σ' := σ) rfl).trans ?_
  refine (Rx_sld rfl h0 h1).trans ?_
  exact Rx_call (n := 3) (y' := k_X5_allThen) (as := [.inr (.inl (16, 0)), .inl (σ 32 0 (wr (x3 + 1)).toNat)]) (rest := [.inl s0]) rfl rfl rfl
set_option maxRecDepth 100000 in
theorem b_L_law_613 (x3 : Int) (s0 : Int) (σ : St) (h0 : 0 ≤ (x3 + 1)) (h1 : (x3 + 1) < σ 32 1 0) (g0a : -2147483648 ≤ (x3 + 1)) (g0b : (x3 + 1) < 2147483648) : Rx k_L_law 613 [.inr (.inl (32, 0)), .inr (.inl (0, 0)), .inr (.inl (16, 0)), .inl x3] [.inl s0] σ = (Rx k_X5_allThen 0 [.inr (.inl (16, 0)), .inl (σ 32 0 (x3 + 1).toNat), uns] [] σ).bind fun q => Rx k_L_law 622 [.inr (.inl (32, 0)), .inr (.inl (0, 0)), .inr (.inl (16, 0)), .inl x3] (q.1.toList ++ [.inl s0]) q.2 := by
  have e0 := wr_id (x := (x3 + 1)) g0a g0b
  have raw := r_L_law_613 x3 s0 σ (by simp only [e0]; exact h0) (by simp only [e0]; exact h1)
  simp only [e0] at raw
  exact raw
set_option maxRecDepth 100000 in
theorem b_L_law_622 (x3 : Int) (s1 : Int) (s0 : Int) (σ : St) : Rx k_L_law 622 [.inr (.inl (32, 0)), .inr (.inl (0, 0)), .inr (.inl (16, 0)), .inl x3] [.inl s1, .inl s0] σ = if s0 = s1 then Rx k_L_law 1346 [.inr (.inl (32, 0)), .inr (.inl (0, 0)), .inr (.inl (16, 0)), .inl x3] [] σ else Rx k_L_law 625 [.inr (.inl (32, 0)), .inr (.inl (0, 0)), .inr (.inl (16, 0)), .inl x3] [] σ := by
  exact Rx_eq0 (k := 1) rfl
set_option maxRecDepth 100000 in
theorem b_L_law_625 (x3 : Int) (σ : St) : Rx k_L_law 625 [.inr (.inl (32, 0)), .inr (.inl (0, 0)), .inr (.inl (16, 0)), .inl x3] [] σ = some (some (.inl 0), σ) := by
  refine (Rx_N (k := 1) (pc' := 626) (ls' := [.inr (.inl (32, 0)), .inr (.inl (0, 0)), .inr (.inl (16, 0)), .inl x3]) (st' := [.inl 0]) (σ' := σ) rfl).trans ?_
  exact Rx_ret rfl rfl
set_option maxRecDepth 100000 in
theorem r_L_law_627 (x3 : Int) (σ : St) (h0 : 0 ≤ (wr (x3 + 1))) (h1 : (wr (x3 + 1)) < σ 32 1 0) (h2 : 0 ≤ (wr (x3 + 2))) (h3 : (wr (x3 + 2)) < σ 32 1 0) (h4 : 0 ≤ (wr (x3 + 3))) (h5 : (wr (x3 + 3)) < σ 32 1 0) : Rx k_L_law 627 [.inr (.inl (32, 0)), .inr (.inl (0, 0)), .inr (.inl (16, 0)), .inl x3] [] σ = (Rx k_X4_purposeThen 0 [.inr (.inl (0, 0)), .inl (σ 32 0 (wr (x3 + 1)).toNat), .inl (σ 32 0 (wr (x3 + 2)).toNat), .inl (σ 32 0 (wr (x3 + 3)).toNat), uns, uns] [] σ).bind fun q => Rx k_L_law 646 [.inr (.inl (32, 0)), .inr (.inl (0, 0)), .inr (.inl (16, 0)), .inl x3] (q.1.toList ++ []) q.2 := by
  refine (Rx_N (k := 5) (pc' := 632) (ls' := [.inr (.inl (32, 0)), .inr (.inl (0, 0)), .inr (.inl (16, 0)), .inl x3]) (st' := [.inl (wr (x3 + 1)), .inr (.inl (32, 0)), .inr (.inl (0, 0))]) (σ' := σ) rfl).trans ?_
  refine (Rx_sld rfl h0 h1).trans ?_
  refine (Rx_N (k := 4) (pc' := 637) (ls' := [.inr (.inl (32, 0)), .inr (.inl (0, 0)), .inr (.inl (16, 0)), .inl x3]) (st' := [.inl (wr (x3 + 2)), .inr (.inl (32, 0)), .inl (σ 32 0 (wr (x3 + 1)).toNat), .inr (.inl (0, 0))]) (σ' := σ) rfl).trans ?_
  refine (Rx_sld rfl h2 h3).trans ?_
  refine (Rx_N (k := 4) (pc' := 642) (ls' := [.inr (.inl (32, 0)), .inr (.inl (0, 0)), .inr (.inl (16, 0)), .inl x3]) (st' := [.inl (wr (x3 + 3)), .inr (.inl (32, 0)), .inl (σ 32 0 (wr (x3 + 2)).toNat), .inl (σ 32 0 (wr (x3 + 1)).toNat), .inr (.inl (0, 0))]) (σ' := σ) rfl).trans ?_
  refine (Rx_sld rfl h4 h5).trans ?_
  exact Rx_call (n := 3) (y' := k_X4_purposeThen) (as := [.inr (.inl (0, 0)), .inl (σ 32 0 (wr (x3 + 1)).toNat), .inl (σ 32 0 (wr (x3 + 2)).toNat), .inl (σ 32 0 (wr (x3 + 3)).toNat)]) (rest := []) rfl rfl rfl
set_option maxRecDepth 100000 in
theorem b_L_law_627 (x3 : Int) (σ : St) (h0 : 0 ≤ (x3 + 1)) (h1 : (x3 + 1) < σ 32 1 0) (h2 : 0 ≤ (x3 + 2)) (h3 : (x3 + 2) < σ 32 1 0) (h4 : 0 ≤ (x3 + 3)) (h5 : (x3 + 3) < σ 32 1 0) (g0a : -2147483648 ≤ (x3 + 1)) (g0b : (x3 + 1) < 2147483648) (g1a : -2147483648 ≤ (x3 + 2)) (g1b : (x3 + 2) < 2147483648) (g2a : -2147483648 ≤ (x3 + 3)) (g2b : (x3 + 3) < 2147483648) : Rx k_L_law 627 [.inr (.inl (32, 0)), .inr (.inl (0, 0)), .inr (.inl (16, 0)), .inl x3] [] σ = (Rx k_X4_purposeThen 0 [.inr (.inl (0, 0)), .inl (σ 32 0 (x3 + 1).toNat), .inl (σ 32 0 (x3 + 2).toNat), .inl (σ 32 0 (x3 + 3).toNat), uns, uns] [] σ).bind fun q => Rx k_L_law 646 [.inr (.inl (32, 0)), .inr (.inl (0, 0)), .inr (.inl (16, 0)), .inl x3] (q.1.toList ++ []) q.2 := by
  have e0 := wr_id (x := (x3 + 1)) g0a g0b
  have e1 := wr_id (x := (x3 + 2)) g1a g1b
  have e2 := wr_id (x := (x3 + 3)) g2a g2b
  have raw := r_L_law_627 x3 σ (by simp only [e0, e1, e2]; exact h0) (by simp only [e0, e1, e2]; exact h1) (by simp only [e0, e1, e2]; exact h2) (by simp only [e0, e1, e2]; exact h3) (by simp only [e0, e1, e2]; exact h4) (by simp only [e0, e1, e2]; exact h5)
  simp only [e0, e1, e2] at raw
  exact raw
set_option maxRecDepth 100000 in
theorem r_L_law_646 (x3 : Int) (s0 : Int) (σ : St) (h0 : 0 ≤ (wr (x3 + 1))) (h1 : (wr (x3 + 1)) < σ 32 1 0) (h2 : 0 ≤ (wr (x3 + 2))) (h3 : (wr (x3 + 2)) < σ 32 1 0) (h4 : 0 ≤ (wr (x3 + 3))) (h5 : (wr (x3 + 3)) < σ 32 1 0) : Rx k_L_law 646 [.inr (.inl (32, 0)), .inr (.inl (0, 0)), .inr (.inl (16, 0)), .inl x3] [.inl s0] σ = (Rx k_X5_purposeThen 0 [.inr (.inl (16, 0)), .inl (σ 32 0 (wr (x3 + 1)).toNat), .inl (σ 32 0 (wr (x3 + 2)).toNat), .inl (σ 32 0 (wr (x3 + 3)).toNat), uns] [] σ).bind fun q => Rx k_L_law 665 [.inr (.inl (32, 0)), .inr (.inl (0, 0)), .inr (.inl (16, 0)), .inl x3] (q.1.toList ++ [.inl s0]) q.2 := by
  refine (Rx_N (k := 5) (pc' := 651) (ls' := [.inr (.inl (32, 0)), .inr (.inl (0, 0)), .inr (.inl (16, 0)), .inl x3]) (st' := [.inl (wr (x3 + 1)), .inr (.inl (32, 0)), .inr (.inl (16, 0)), .inl s0]) (σ' := σ) rfl).trans ?_
  refine (Rx_sld rfl h0 h1).trans ?_
  refine (Rx_N (k := 4) (pc' := 656) (ls' := [.inr (.inl (32, 0)), .inr (.inl (0, 0)), .inr (.inl (16, 0)), .inl x3]) (st' := [.inl (wr (x3 + 2)), .inr (.inl (32, 0)), .inl (σ 32 0 (wr (x3 + 1)).toNat), .inr (.inl (16, 0)), .inl s0]) (σ' := σ) rfl).trans ?_
  refine (Rx_sld rfl h2 h3).trans ?_
  refine (Rx_N (k := 4) (pc' := 661) (ls' := [.inr (.inl (32, 0)), .inr (.inl (0, 0)), .inr (.inl (16, 0)), .inl x3]) (st' := [.inl (wr (x3 + 3)), .inr (.inl (32, 0)), .inl (σ 32 0 (wr (x3 + 2)).toNat), .inl (σ 32 0 (wr (x3 + 1)).toNat), .inr (.inl (16, 0)), .inl s0]) (σ' := σ) rfl).trans ?_
  refine (Rx_sld rfl h4 h5).trans ?_
  exact Rx_call (n := 3) (y' := k_X5_purposeThen) (as := [.inr (.inl (16, 0)), .inl (σ 32 0 (wr (x3 + 1)).toNat), .inl (σ 32 0 (wr (x3 + 2)).toNat), .inl (σ 32 0 (wr (x3 + 3)).toNat)]) (rest := [.inl s0]) rfl rfl rfl
set_option maxRecDepth 100000 in
theorem b_L_law_646 (x3 : Int) (s0 : Int) (σ : St) (h0 : 0 ≤ (x3 + 1)) (h1 : (x3 + 1) < σ 32 1 0) (h2 : 0 ≤ (x3 + 2)) (h3 : (x3 + 2) < σ 32 1 0) (h4 : 0 ≤ (x3 + 3)) (h5 : (x3 + 3) < σ 32 1 0) (g0a : -2147483648 ≤ (x3 + 1)) (g0b : (x3 + 1) < 2147483648) (g1a : -2147483648 ≤ (x3 + 2)) (g1b : (x3 + 2) < 2147483648) (g2a : -2147483648 ≤ (x3 + 3)) (g2b : (x3 + 3) < 2147483648) : Rx k_L_law 646 [.inr (.inl (32, 0)), .inr (.inl (0, 0)), .inr (.inl (16, 0)), .inl x3] [.inl s0] σ = (Rx k_X5_purposeThen 0 [.inr (.inl (16, 0)), .inl (σ 32 0 (x3 + 1).toNat), .inl (σ 32 0 (x3 + 2).toNat), .inl (σ 32 0 (x3 + 3).toNat), uns] [] σ).bind fun q => Rx k_L_law 665 [.inr (.inl (32, 0)), .inr (.inl (0, 0)), .inr (.inl (16, 0)), .inl x3] (q.1.toList ++ [.inl s0]) q.2 := by
  have e0 := wr_id (x := (x3 + 1)) g0a g0b
  have e1 := wr_id (x := (x3 + 2)) g1a g1b
  have e2 := wr_id (x := (x3 + 3)) g2a g2b
  have raw := r_L_law_646 x3 s0 σ (by simp only [e0, e1, e2]; exact h0) (by simp only [e0, e1, e2]; exact h1) (by simp only [e0, e1, e2]; exact h2) (by simp only [e0, e1, e2]; exact h3) (by simp only [e0, e1, e2]; exact h4) (by simp only [e0, e1, e2]; exact h5)
  simp only [e0, e1, e2] at raw
  exact raw
set_option maxRecDepth 100000 in
theorem b_L_law_665 (x3 : Int) (s1 : Int) (s0 : Int) (σ : St) : Rx k_L_law 665 [.inr (.inl (32, 0)), .inr (.inl (0, 0)), .inr (.inl (16, 0)), .inl x3] [.inl s1, .inl s0] σ = if s0 = s1 then Rx k_L_law 1346 [.inr (.inl (32, 0)), .inr (.inl (0, 0)), .inr (.inl (16, 0)), .inl x3] [] σ else Rx k_L_law 668 [.inr (.inl (32, 0)), .inr (.inl (0, 0)), .inr (.inl (16, 0)), .inl x3] [] σ := by
  exact Rx_eq0 (k := 1) rfl
set_option maxRecDepth 100000 in
theorem b_L_law_668 (x3 : Int) (σ : St) : Rx k_L_law 668 [.inr (.inl (32, 0)), .inr (.inl (0, 0)), .inr (.inl (16, 0)), .inl x3] [] σ = some (some (.inl 0), σ) := by
  refine (Rx_N (k := 1) (pc' := 669) (ls' := [.inr (.inl (32, 0)), .inr (.inl (0, 0)), .inr (.inl (16, 0)), .inl x3]) (st' := [.inl 0]) (σ' := σ) rfl).trans ?_
  exact Rx_ret rfl rfl
set_option maxRecDepth 100000 in
theorem r_L_law_670 (x3 : Int) (σ : St) (h0 : 0 ≤ (wr (x3 + 1))) (h1 : (wr (x3 + 1)) < σ 32 1 0) : Rx k_L_law 670 [.inr (.inl (32, 0)), .inr (.inl (0, 0)), .inr (.inl (16, 0)), .inl x3] [] σ = (Rx k_X4_falls 0 [.inr (.inl (0, 0)), .inl (σ 32 0 (wr (x3 + 1)).toNat)] [] σ).bind fun q => Rx k_L_law 679 [.inr (.inl (32, 0)), .inr (.inl (0, 0)), .inr (.inl (16, 0)), .inl x3] (q.1.toList ++ []) q.2 := by
  refine (Rx_N (k := 5) (pc' := 675) (ls' := [.inr (.inl (32, 0)), .inr (.inl (0, 0)), .inr (.inl (16, 0)), .inl x3]) (st' := [.inl (wr (x3 + 1)), .inr (.inl (32, 0)), .inr (.inl (0, 0))]) (σ' := σ) rfl).trans ?_
  refine (Rx_sld rfl h0 h1).trans ?_
  exact Rx_call (n := 3) (y' := k_X4_falls) (as := [.inr (.inl (0, 0)), .inl (σ 32 0 (wr (x3 + 1)).toNat)]) (rest := []) rfl rfl rfl
set_option maxRecDepth 100000 in
theorem b_L_law_670 (x3 : Int) (σ : St) (h0 : 0 ≤ (x3 + 1)) (h1 : (x3 + 1) < σ 32 1 0) (g0a : -2147483648 ≤ (x3 + 1)) (g0b : (x3 + 1) < 2147483648) : Rx k_L_law 670 [.inr (.inl (32, 0)), .inr (.inl (0, 0)), .inr (.inl (16, 0)), .inl x3] [] σ = (Rx k_X4_falls 0 [.inr (.inl (0, 0)), .inl (σ 32 0 (x3 + 1).toNat)] [] σ).bind fun q => Rx k_L_law 679 [.inr (.inl (32, 0)), .inr (.inl (0, 0)), .inr (.inl (16, 0)), .inl x3] (q.1.toList ++ []) q.2 := by
  have e0 := wr_id (x := (x3 + 1)) g0a g0b
  have raw := r_L_law_670 x3 σ (by simp only [e0]; exact h0) (by simp only [e0]; exact h1)
  simp only [e0] at raw
  exact raw
set_option maxRecDepth 100000 in
theorem r_L_law_679 (x3 : Int) (s0 : Int) (σ : St) (h0 : 0 ≤ (wr (x3 + 1))) (h1 : (wr (x3 + 1)) < σ 32 1 0) : Rx k_L_law 679 [.inr (.inl (32, 0)), .inr (.inl (0, 0)), .inr (.inl (16, 0)), .inl x3] [.inl s0] σ = (Rx k_X5_falls 0 [.inr (.inl (16, 0)), .inl (σ 32 0 (wr (x3 + 1)).toNat)] [] σ).bind fun q => Rx k_L_law 688 [.inr (.inl (32, 0)), .inr (.inl (0, 0)), .inr (.inl (16, 0)), .inl x3] (q.1.toList ++ [.inl s0]) q.2 := by
  refine (Rx_N (k := 5) (pc' := 684) (ls' := [.inr (.inl (32, 0)), .inr (.inl (0, 0)), .inr (.inl (16, 0)), .inl x3]) (st' := [.inl (wr (x3 + 1)), .inr (.inl (32, 0)), .inr (.inl (16, 0)), .inl s0]) (σ' := σ) rfl).trans ?_
  refine (Rx_sld rfl h0 h1).trans ?_
  exact Rx_call (n := 3) (y' := k_X5_falls) (as := [.inr (.inl (16, 0)), .inl (σ 32 0 (wr (x3 + 1)).toNat)]) (rest := [.inl s0]) rfl rfl rfl
set_option maxRecDepth 100000 in
theorem b_L_law_679 (x3 : Int) (s0 : Int) (σ : St) (h0 : 0 ≤ (x3 + 1)) (h1 : (x3 + 1) < σ 32 1 0) (g0a : -2147483648 ≤ (x3 + 1)) (g0b : (x3 + 1) < 2147483648) : Rx k_L_law 679 [.inr (.inl (32, 0)), .inr (.inl (0, 0)), .inr (.inl (16, 0)), .inl x3] [.inl s0] σ = (Rx k_X5_falls 0 [.inr (.inl (16, 0)), .inl (σ 32 0 (x3 + 1).toNat)] [] σ).bind fun q => Rx k_L_law 688 [.inr (.inl (32, 0)), .inr (.inl (0, 0)), .inr (.inl (16, 0)), .inl x3] (q.1.toList ++ [.inl s0]) q.2 := by
  have e0 := wr_id (x := (x3 + 1)) g0a g0b
  have raw := r_L_law_679 x3 s0 σ (by simp only [e0]; exact h0) (by simp only [e0]; exact h1)
  simp only [e0] at raw
  exact raw
set_option maxRecDepth 100000 in
theorem b_L_law_688 (x3 : Int) (s1 : Int) (s0 : Int) (σ : St) : Rx k_L_law 688 [.inr (.inl (32, 0)), .inr (.inl (0, 0)), .inr (.inl (16, 0)), .inl x3] [.inl s1, .inl s0] σ = if s0 = s1 then Rx k_L_law 1346 [.inr (.inl (32, 0)), .inr (.inl (0, 0)), .inr (.inl (16, 0)), .inl x3] [] σ else Rx k_L_law 691 [.inr (.inl (32, 0)), .inr (.inl (0, 0)), .inr (.inl (16, 0)), .inl x3] [] σ := by
  exact Rx_eq0 (k := 1) rfl
set_option maxRecDepth 100000 in
theorem b_L_law_691 (x3 : Int) (σ : St) : Rx k_L_law 691 [.inr (.inl (32, 0)), .inr (.inl (0, 0)), .inr (.inl (16, 0)), .inl x3] [] σ = some (some (.inl 0), σ) := by
  refine (Rx_N (k := 1) (pc' := 692) (ls' := [.inr (.inl (32, 0)), .inr (.inl (0, 0)), .inr (.inl (16, 0)), .inl x3]) (st' := [.inl 0]) (σ' := σ) rfl).trans ?_
  exact Rx_ret rfl rfl
set_option maxRecDepth 100000 in
theorem r_L_law_693 (x3 : Int) (σ : St) (h0 : 0 ≤ (wr (x3 + 1))) (h1 : (wr (x3 + 1)) < σ 32 1 0) : Rx k_L_law 693 [.inr (.inl (32, 0)), .inr (.inl (0, 0)), .inr (.inl (16, 0)), .inl x3] [] σ = (Rx k_X4_first 0 [.inr (.inl (0, 0)), .inl (σ 32 0 (wr (x3 + 1)).toNat), uns] [] σ).bind fun q => Rx k_L_law 702 [.inr (.inl (32, 0)), .inr (.inl (0, 0)), .inr (.inl (16, 0)), .inl x3] (q.1.toList ++ []) q.2 := by
  refine (Rx_N (k := 5) (pc' := 698) (ls' := [.inr (.inl (32, 0)), .inr (.inl (0, 0)), .inr (.inl (16, 0)), .inl x3]) (st' := [.inl (wr (x3 + 1)), .inr (.inl (32, 0)), .inr (.inl (0, 0))]) (σ' := σ) rfl).trans ?_
  refine (Rx_sld rfl h0 h1).trans ?_
  exact Rx_call (n := 3) (y' := k_X4_first) (as := [.inr (.inl (0, 0)), .inl (σ 32 0 (wr (x3 + 1)).toNat)]) (rest := []) rfl rfl rfl
set_option maxRecDepth 100000 in
theorem b_L_law_693 (x3 : Int) (σ : St) (h0 : 0 ≤ (x3 + 1)) (h1 : (x3 + 1) < σ 32 1 0) (g0a : -2147483648 ≤ (x3 + 1)) (g0b : (x3 + 1) < 2147483648) : Rx k_L_law 693 [.inr (.inl (32, 0)), .inr (.inl (0, 0)), .inr (.inl (16, 0)), .inl x3] [] σ = (Rx k_X4_first 0 [.inr (.inl (0, 0)), .inl (σ 32 0 (x3 + 1).toNat), uns] [] σ).bind fun q => Rx k_L_law 702 [.inr (.inl (32, 0)), .inr (.inl (0, 0)), .inr (.inl (16, 0)), .inl x3] (q.1.toList ++ []) q.2 := by
  have e0 := wr_id (x := (x3 + 1)) g0a g0b
  have raw := r_L_law_693 x3 σ (by simp only [e0]; exact h0) (by simp only [e0]; exact h1)
  simp only [e0] at raw
  exact raw
set_option maxRecDepth 100000 in
theorem r_L_law_702 (x3 : Int) (s0 : Int) (σ : St) (h0 : 0 ≤ (wr (x3 + 1))) (h1 : (wr (x3 + 1)) < σ 32 1 0) : Rx k_L_law 702 [.inr (.inl (32, 0)), .inr (.inl (0, 0)), .inr (.inl (16, 0)), .inl x3] [.inl s0] σ = (Rx k_X5_first 0 [.inr (.inl (16, 0)), .inl (σ 32 0 (wr (x3 + 1)).toNat), uns, uns, uns, uns, uns] [] σ).bind fun q => Rx k_L_law 711 [.inr (.inl (32, 0)), .inr (.inl (0, 0)), .inr (.inl (16, 0)), .inl x3] (q.1.toList ++ [.inl s0]) q.2 := by
  refine (Rx_N (k := 5) (pc' := 707) (ls' := [.inr (.inl (32, 0)), .inr (.inl (0, 0)), .inr (.inl (16, 0)), .inl x3]) (st' := [.inl (wr (x3 + 1)), .inr (.inl (32, 0)), .inr (.inl (16, 0)), .inl s0]) (σ' := σ) rfl).trans ?_
  refine (Rx_sld rfl h0 h1).trans ?_
  exact Rx_call (n := 3) (y' := k_X5_first) (as := [.inr (.inl (16, 0)), .inl (σ 32 0 (wr (x3 + 1)).toNat)]) (rest := [.inl s0]) rfl rfl rfl
set_option maxRecDepth 100000 in
theorem b_L_law_702 (x3 : Int) (s0 : Int) (σ : St) (h0 : 0 ≤ (x3 + 1)) (h1 : (x3 + 1) < σ 32 1 0) (g0a : -2147483648 ≤ (x3 + 1)) (g0b : (x3 + 1) < 2147483648) : Rx k_L_law 702 [.inr (.inl (32, 0)), .inr (.inl (0, 0)), .inr (.inl (16, 0)), .inl x3] [.inl s0] σ = (Rx k_X5_first 0 [.inr (.inl (16, 0)), .inl (σ 32 0 (x3 + 1).toNat), uns, uns, uns, uns, uns] [] σ).bind fun q => Rx k_L_law 711 [.inr (.inl (32, 0)), .inr (.inl (0, 0)), .inr (.inl (16, 0)), .inl x3] (q.1.toList ++ [.inl s0]) q.2 := by
  have e0 := wr_id (x := (x3 + 1)) g0a g0b
  have raw := r_L_law_702 x3 s0 σ (by simp only [e0]; exact h0) (by simp only [e0]; exact h1)
  simp only [e0] at raw
  exact raw
set_option maxRecDepth 100000 in
theorem b_L_law_711 (x3 : Int) (s1 : Int) (s0 : Int) (σ : St) : Rx k_L_law 711 [.inr (.inl (32, 0)), .inr (.inl (0, 0)), .inr (.inl (16, 0)), .inl x3] [.inl s1, .inl s0] σ = if s0 = s1 then Rx k_L_law 1346 [.inr (.inl (32, 0)), .inr (.inl (0, 0)), .inr (.inl (16, 0)), .inl x3] [] σ else Rx k_L_law 714 [.inr (.inl (32, 0)), .inr (.inl (0, 0)), .inr (.inl (16, 0)), .inl x3] [] σ := by
  exact Rx_eq0 (k := 1) rfl
set_option maxRecDepth 100000 in
theorem b_L_law_714 (x3 : Int) (σ : St) : Rx k_L_law 714 [.inr (.inl (32, 0)), .inr (.inl (0, 0)), .inr (.inl (16, 0)), .inl x3] [] σ = some (some (.inl 0), σ) := by
  refine (Rx_N (k := 1) (pc' := 715) (ls' := [.inr (.inl (32, 0)), .inr (.inl (0, 0)), .inr (.inl (16, 0)), .inl x3]) (st' := [.inl 0]) (σ' := σ) rfl).trans ?_
  exact Rx_ret rfl rfl
set_option maxRecDepth 100000 in
theorem r_L_law_716 (x3 : Int) (σ : St) (h0 : 0 ≤ (wr (x3 + 1))) (h1 : (wr (x3 + 1)) < σ 32 1 0) : Rx k_L_law 716 [.inr (.inl (32, 0)), .inr (.inl (0, 0)), .inr (.inl (16, 0)), .inl x3] [] σ = (Rx k_X4_pushed 0 [.inr (.inl (0, 0)), .inl (σ 32 0 (wr (x3 + 1)).toNat), uns] [] σ).bind fun q => Rx k_L_law 725 [.inr (.inl (32, 0)), .inr (.inl (0, 0)), .inr (.inl (16, 0)), .inl x3] (q.1.toList ++ []) q.2 := by
  refine (Rx_N (k := 5) (pc' := 721) (ls' := [.inr (.inl (32, 0)), .inr (.inl (0, 0)), .inr (.inl (16, 0)), .inl x3]) (st' := [.inl (wr (x3 + 1)), .inr (.inl (32, 0)), .inr (.inl (0, 0))]) (σ' := σ) rfl).trans ?_
  refine (Rx_sld rfl h0 h1).trans ?_
  exact Rx_call (n := 3) (y' := k_X4_pushed) (as := [.inr (.inl (0, 0)), .inl (σ 32 0 (wr (x3 + 1)).toNat)]) (rest := []) rfl rfl rfl
set_option maxRecDepth 100000 in
theorem b_L_law_716 (x3 : Int) (σ : St) (h0 : 0 ≤ (x3 + 1)) (h1 : (x3 + 1) < σ 32 1 0) (g0a : -2147483648 ≤ (x3 + 1)) (g0b : (x3 + 1) < 2147483648) : Rx k_L_law 716 [.inr (.inl (32, 0)), .inr (.inl (0, 0)), .inr (.inl (16, 0)), .inl x3] [] σ = (Rx k_X4_pushed 0 [.inr (.inl (0, 0)), .inl (σ 32 0 (x3 + 1).toNat), uns] [] σ).bind fun q => Rx k_L_law 725 [.inr (.inl (32, 0)), .inr (.inl (0, 0)), .inr (.inl (16, 0)), .inl x3] (q.1.toList ++ []) q.2 := by
  have e0 := wr_id (x := (x3 + 1)) g0a g0b
  have raw := r_L_law_716 x3 σ (by simp only [e0]; exact h0) (by simp only [e0]; exact h1)
  simp only [e0] at raw
  exact raw
set_option maxRecDepth 100000 in
theorem r_L_law_725 (x3 : Int) (s0 : Int) (σ : St) (h0 : 0 ≤ (wr (x3 + 1))) (h1 : (wr (x3 + 1)) < σ 32 1 0) : Rx k_L_law 725 [.inr (.inl (32, 0)), .inr (.inl (0, 0)), .inr (.inl (16, 0)), .inl x3] [.inl s0] σ = (Rx k_X5_pushed 0 [.inr (.inl (16, 0)), .inl (σ 32 0 (wr (x3 + 1)).toNat), uns] [] σ).bind fun q => Rx k_L_law 734 [.inr (.inl (32, 0)), .inr (.inl (0, 0)), .inr (.inl (16, 0)), .inl x3] (q.1.toList ++ [.inl s0]) q.2 := by
  refine (Rx_N (k := 5) (pc' := 730) (ls' := [.inr (.inl (32, 0)), .inr (.inl (0, 0)), .inr (.inl (16, 0)), .inl x3]) (st' := [.inl (wr (x3 + 1)), .inr (.inl (32, 0)), .inr (.inl (16, 0)), .inl s0]) (σ' := σ) rfl).trans ?_
  refine (Rx_sld rfl h0 h1).trans ?_
  exact Rx_call (n := 3) (y' := k_X5_pushed) (as := [.inr (.inl (16, 0)), .inl (σ 32 0 (wr (x3 + 1)).toNat)]) (rest := [.inl s0]) rfl rfl rfl
set_option maxRecDepth 100000 in
theorem b_L_law_725 (x3 : Int) (s0 : Int) (σ : St) (h0 : 0 ≤ (x3 + 1)) (h1 : (x3 + 1) < σ 32 1 0) (g0a : -2147483648 ≤ (x3 + 1)) (g0b : (x3 + 1) < 2147483648) : Rx k_L_law 725 [.inr (.inl (32, 0)), .inr (.inl (0, 0)), .inr (.inl (16, 0)), .inl x3] [.inl s0] σ = (Rx k_X5_pushed 0 [.inr (.inl (16, 0)), .inl (σ 32 0 (x3 + 1).toNat), uns] [] σ).bind fun q => Rx k_L_law 734 [.inr (.inl (32, 0)), .inr (.inl (0, 0)), .inr (.inl (16, 0)), .inl x3] (q.1.toList ++ [.inl s0]) q.2 := by
  have e0 := wr_id (x := (x3 + 1)) g0a g0b
  have raw := r_L_law_725 x3 s0 σ (by simp only [e0]; exact h0) (by simp only [e0]; exact h1)
  simp only [e0] at raw
  exact raw
set_option maxRecDepth 100000 in
theorem b_L_law_734 (x3 : Int) (s1 : Int) (s0 : Int) (σ : St) : Rx k_L_law 734 [.inr (.inl (32, 0)), .inr (.inl (0, 0)), .inr (.inl (16, 0)), .inl x3] [.inl s1, .inl s0] σ = if s0 = s1 then Rx k_L_law 1346 [.inr (.inl (32, 0)), .inr (.inl (0, 0)), .inr (.inl (16, 0)), .inl x3] [] σ else Rx k_L_law 737 [.inr (.inl (32, 0)), .inr (.inl (0, 0)), .inr (.inl (16, 0)), .inl x3] [] σ := by
  exact Rx_eq0 (k := 1) rfl
set_option maxRecDepth 100000 in
theorem b_L_law_737 (x3 : Int) (σ : St) : Rx k_L_law 737 [.inr (.inl (32, 0)), .inr (.inl (0, 0)), .inr (.inl (16, 0)), .inl x3] [] σ = some (some (.inl 0), σ) := by
  refine (Rx_N (k := 1) (pc' := 738) (ls' := [.inr (.inl (32, 0)), .inr (.inl (0, 0)), .inr (.inl (16, 0)), .inl x3]) (st' := [.inl 0]) (σ' := σ) rfl).trans ?_
  exact Rx_ret rfl rfl
set_option maxRecDepth 100000 in
theorem r_L_law_739 (x3 : Int) (σ : St) (h0 : 0 ≤ (wr (x3 + 1))) (h1 : (wr (x3 + 1)) < σ 32 1 0) : Rx k_L_law 739 [.inr (.inl (32, 0)), .inr (.inl (0, 0)), .inr (.inl (16, 0)), .inl x3] [] σ = (Rx k_X4_worst 0 [.inr (.inl (0, 0)), .inl (σ 32 0 (wr (x3 + 1)).toNat), uns] [] σ).bind fun q => Rx k_L_law 748 [.inr (.inl (32, 0)), .inr (.inl (0, 0)), .inr (.inl (16, 0)), .inl x3] (q.1.toList ++ []) q.2 := by
  refine (Rx_N (k := 5) (pc' := 744) (ls' := [.inr (.inl (32, 0)), .inr (.inl (0, 0)), .inr (.inl (16, 0)), .inl x3]) (st' := [.inl (wr (x3 + 1)), .inr (.inl (32, 0)), .inr (.inl (0, 0))]) (σ' := σ) rfl).trans ?_
  refine (Rx_sld rfl h0 h1).trans ?_
  exact Rx_call (n := 3) (y' := k_X4_worst) (as := [.inr (.inl (0, 0)), .inl (σ 32 0 (wr (x3 + 1)).toNat)]) (rest := []) rfl rfl rfl
set_option maxRecDepth 100000 in
theorem b_L_law_739 (x3 : Int) (σ : St) (h0 : 0 ≤ (x3 + 1)) (h1 : (x3 + 1) < σ 32 1 0) (g0a : -2147483648 ≤ (x3 + 1)) (g0b : (x3 + 1) < 2147483648) : Rx k_L_law 739 [.inr (.inl (32, 0)), .inr (.inl (0, 0)), .inr (.inl (16, 0)), .inl x3] [] σ = (Rx k_X4_worst 0 [.inr (.inl (0, 0)), .inl (σ 32 0 (x3 + 1).toNat), uns] [] σ).bind fun q => Rx k_L_law 748 [.inr (.inl (32, 0)), .inr (.inl (0, 0)), .inr (.inl (16, 0)), .inl x3] (q.1.toList ++ []) q.2 := by
  have e0 := wr_id (x := (x3 + 1)) g0a g0b
  have raw := r_L_law_739 x3 σ (by simp only [e0]; exact h0) (by simp only [e0]; exact h1)
  simp only [e0] at raw
  exact raw
set_option maxRecDepth 100000 in
theorem r_L_law_748 (x3 : Int) (s0 : Int) (σ : St) (h0 : 0 ≤ (wr (x3 + 1))) (h1 : (wr (x3 + 1)) < σ 32 1 0) : Rx k_L_law 748 [.inr (.inl (32, 0)), .inr (.inl (0, 0)), .inr (.inl (16, 0)), .inl x3] [.inl s0] σ = (Rx k_X5_worst 0 [.inr (.inl (16, 0)), .inl (σ 32 0 (wr (x3 + 1)).toNat), uns, uns, uns, uns, uns] [] σ).bind fun q => Rx k_L_law 757 [.inr (.inl (32, 0)), .inr (.inl (0, 0)), .inr (.inl (16, 0)), .inl x3] (q.1.toList ++ [.inl s0]) q.2 := by
  refine (Rx_N (k := 5) (pc' := 753) (ls' := [.inr (.inl (32, 0)), .inr (.inl (0, 0)), .inr (.inl (16, 0)), .inl x3]) (st' := [.inl (wr (x3 + 1)), .inr (.inl (32, 0)), .inr (.inl (16, 0)), .inl s0]) (σ' := σ) rfl).trans ?_
  refine (Rx_sld rfl h0 h1).trans ?_
  exact Rx_call (n := 3) (y' := k_X5_worst) (as := [.inr (.inl (16, 0)), .inl (σ 32 0 (wr (x3 + 1)).toNat)]) (rest := [.inl s0]) rfl rfl rfl
set_option maxRecDepth 100000 in
theorem b_L_law_748 (x3 : Int) (s0 : Int) (σ : St) (h0 : 0 ≤ (x3 + 1)) (h1 : (x3 + 1) < σ 32 1 0) (g0a : -2147483648 ≤ (x3 + 1)) (g0b : (x3 + 1) < 2147483648) : Rx k_L_law 748 [.inr (.inl (32, 0)), .inr (.inl (0, 0)), .inr (.inl (16, 0)), .inl x3] [.inl s0] σ = (Rx k_X5_worst 0 [.inr (.inl (16, 0)), .inl (σ 32 0 (x3 + 1).toNat), uns, uns, uns, uns, uns] [] σ).bind fun q => Rx k_L_law 757 [.inr (.inl (32, 0)), .inr (.inl (0, 0)), .inr (.inl (16, 0)), .inl x3] (q.1.toList ++ [.inl s0]) q.2 := by
  have e0 := wr_id (x := (x3 + 1)) g0a g0b
  have raw := r_L_law_748 x3 s0 σ (by simp only [e0]; exact h0) (by simp only [e0]; exact h1)
  simp only [e0] at raw
  exact raw
set_option maxRecDepth 100000 in
theorem b_L_law_757 (x3 : Int) (s1 : Int) (s0 : Int) (σ : St) : Rx k_L_law 757 [.inr (.inl (32, 0)), .inr (.inl (0, 0)), .inr (.inl (16, 0)), .inl x3] [.inl s1, .inl s0] σ = if s0 = s1 then Rx k_L_law 1346 [.inr (.inl (32, 0)), .inr (.inl (0, 0)), .inr (.inl (16, 0)), .inl x3] [] σ else Rx k_L_law 760 [.inr (.inl (32, 0)), .inr (.inl (0, 0)), .inr (.inl (16, 0)), .inl x3] [] σ := by
  exact Rx_eq0 (k := 1) rfl
set_option maxRecDepth 100000 in
theorem b_L_law_760 (x3 : Int) (σ : St) : Rx k_L_law 760 [.inr (.inl (32, 0)), .inr (.inl (0, 0)), .inr (.inl (16, 0)), .inl x3] [] σ = some (some (.inl 0), σ) := by
  refine (Rx_N (k := 1) (pc' := 761) (ls' := [.inr (.inl (32, 0)), .inr (.inl (0, 0)), .inr (.inl (16, 0)), .inl x3]) (st' := [.inl 0]) (σ' := σ) rfl).trans ?_
  exact Rx_ret rfl rfl
set_option maxRecDepth 100000 in
theorem r_L_law_762 (x3 : Int) (σ : St) (h0 : 0 ≤ (wr (x3 + 1))) (h1 : (wr (x3 + 1)) < σ 32 1 0) : Rx k_L_law 762 [.inr (.inl (32, 0)), .inr (.inl (0, 0)), .inr (.inl (16, 0)), .inl x3] [] σ = (Rx k_X4_gap 0 [.inr (.inl (0, 0)), .inl (σ 32 0 (wr (x3 + 1)).toNat), uns] [] σ).bind fun q => Rx k_L_law 771 [.inr (.inl (32, 0)), .inr (.inl (0, 0)), .inr (.inl (16, 0)), .inl x3] (q.1.toList ++ []) q.2 := by
  refine (Rx_N (k := 5) (pc' := 767) (ls' := [.inr (.inl (32, 0)), .inr (.inl (0, 0)), .inr (.inl (16, 0)), .inl x3]) (st' := [.inl (wr (x3 + 1)), .inr (.inl (32, 0)), .inr (.inl (0, 0))]) (σ' := σ) rfl).trans ?_
  refine (Rx_sld rfl h0 h1).trans ?_
  exact Rx_call (n := 3) (y' := k_X4_gap) (as := [.inr (.inl (0, 0)), .inl (σ 32 0 (wr (x3 + 1)).toNat)]) (rest := []) rfl rfl rfl
set_option maxRecDepth 100000 in
theorem b_L_law_762 (x3 : Int) (σ : St) (h0 : 0 ≤ (x3 + 1)) (h1 : (x3 + 1) < σ 32 1 0) (g0a : -2147483648 ≤ (x3 + 1)) (g0b : (x3 + 1) < 2147483648) : Rx k_L_law 762 [.inr (.inl (32, 0)), .inr (.inl (0, 0)), .inr (.inl (16, 0)), .inl x3] [] σ = (Rx k_X4_gap 0 [.inr (.inl (0, 0)), .inl (σ 32 0 (x3 + 1).toNat), uns] [] σ).bind fun q => Rx k_L_law 771 [.inr (.inl (32, 0)), .inr (.inl (0, 0)), .inr (.inl (16, 0)), .inl x3] (q.1.toList ++ []) q.2 := by
  have e0 := wr_id (x := (x3 + 1)) g0a g0b
  have raw := r_L_law_762 x3 σ (by simp only [e0]; exact h0) (by simp only [e0]; exact h1)
  simp only [e0] at raw
  exact raw
set_option maxRecDepth 100000 in
theorem r_L_law_771 (x3 : Int) (s0 : Int) (σ : St) (h0 : 0 ≤ (wr (x3 + 1))) (h1 : (wr (x3 + 1)) < σ 32 1 0) : Rx k_L_law 771 [.inr (.inl (32, 0)), .inr (.inl (0, 0)), .inr (.inl (16, 0)), .inl x3] [.inl s0] σ = (Rx k_X5_gap 0 [.inr (.inl (16, 0)), .inl (σ 32 0 (wr (x3 + 1)).toNat), uns, uns, uns, uns, uns] [] σ).bind fun q => Rx k_L_law 780 [.inr (.inl (32, 0)), .inr (.inl (0, 0)), .inr (.inl (16, 0)), .inl x3] (q.1.toList ++ [.inl s0]) q.2 := by
  refine (Rx_N (k := 5) (pc' := 776) (ls' := [.inr (.inl (32, 0)), .inr (.inl (0, 0)), .inr (.inl (16, 0)), .inl x3]) (st' := [.inl (wr (x3 + 1)), .inr (.inl (32, 0)), .inr (.inl (16, 0)), .inl s0]) (σ' := σ) rfl).trans ?_
  refine (Rx_sld rfl h0 h1).trans ?_
  exact Rx_call (n := 3) (y' := k_X5_gap) (as := [.inr (.inl (16, 0)), .inl (σ 32 0 (wr (x3 + 1)).toNat)]) (rest := [.inl s0]) rfl rfl rfl
set_option maxRecDepth 100000 in
theorem b_L_law_771 (x3 : Int) (s0 : Int) (σ : St) (h0 : 0 ≤ (x3 + 1)) (h1 : (x3 + 1) < σ 32 1 0) (g0a : -2147483648 ≤ (x3 + 1)) (g0b : (x3 + 1) < 2147483648) : Rx k_L_law 771 [.inr (.inl (32, 0)), .inr (.inl (0, 0)), .inr (.inl (16, 0)), .inl x3] [.inl s0] σ = (Rx k_X5_gap 0 [.inr (.inl (16, 0)), .inl (σ 32 0 (x3 + 1).toNat), uns, uns, uns, uns, uns] [] σ).bind fun q => Rx k_L_law 780 [.inr (.inl (32, 0)), .inr (.inl (0, 0)), .inr (.inl (16, 0)), .inl x3] (q.1.toList ++ [.inl s0]) q.2 := by
  have e0 := wr_id (x := (x3 + 1)) g0a g0b
  have raw := r_L_law_771 x3 s0 σ (by simp only [e0]; exact h0) (by simp only [e0]; exact h1)
  simp only [e0] at raw
  exact raw
set_option maxRecDepth 100000 in
theorem b_L_law_780 (x3 : Int) (s1 : Int) (s0 : Int) (σ : St) : Rx k_L_law 780 [.inr (.inl (32, 0)), .inr (.inl (0, 0)), .inr (.inl (16, 0)), .inl x3] [.inl s1, .inl s0] σ = if s0 = s1 then Rx k_L_law 1346 [.inr (.inl (32, 0)), .inr (.inl (0, 0)), .inr (.inl (16, 0)), .inl x3] [] σ else Rx k_L_law 783 [.inr (.inl (32, 0)), .inr (.inl (0, 0)), .inr (.inl (16, 0)), .inl x3] [] σ := by
  exact Rx_eq0 (k := 1) rfl
set_option maxRecDepth 100000 in
theorem b_L_law_783 (x3 : Int) (σ : St) : Rx k_L_law 783 [.inr (.inl (32, 0)), .inr (.inl (0, 0)), .inr (.inl (16, 0)), .inl x3] [] σ = some (some (.inl 0), σ) := by
  refine (Rx_N (k := 1) (pc' := 784) (ls' := [.inr (.inl (32, 0)), .inr (.inl (0, 0)), .inr (.inl (16, 0)), .inl x3]) (st' := [.inl 0]) (σ' := σ) rfl).trans ?_
  exact Rx_ret rfl rfl
set_option maxRecDepth 100000 in
theorem r_L_law_785 (x3 : Int) (σ : St) (h0 : 0 ≤ (wr (x3 + 1))) (h1 : (wr (x3 + 1)) < σ 32 1 0) : Rx k_L_law 785 [.inr (.inl (32, 0)), .inr (.inl (0, 0)), .inr (.inl (16, 0)), .inl x3] [] σ = (Rx k_X4_longest 0 [.inr (.inl (0, 0)), .inl (σ 32 0 (wr (x3 + 1)).toNat), uns] [] σ).bind fun q => Rx k_L_law 794 [.inr (.inl (32, 0)), .inr (.inl (0, 0)), .inr (.inl (16, 0)), .inl x3] (q.1.toList ++ []) q.2 := by
  refine (Rx_N (k := 5) (pc' := 790) (ls' := [.inr (.inl (32, 0)), .inr (.inl (0, 0)), .inr (.inl (16, 0)), .inl x3]) (st' := [.inl (wr (x3 + 1)), .inr (.inl (32, 0)), .inr (.inl (0, 0))]) (σ' := σ) rfl).trans ?_
  refine (Rx_sld rfl h0 h1).trans ?_
  exact Rx_call (n := 3) (y' := k_X4_longest) (as := [.inr (.inl (0, 0)), .inl (σ 32 0 (wr (x3 + 1)).toNat)]) (rest := []) rfl rfl rfl
set_option maxRecDepth 100000 in
theorem b_L_law_785 (x3 : Int) (σ : St) (h0 : 0 ≤ (x3 + 1)) (h1 : (x3 + 1) < σ 32 1 0) (g0a : -2147483648 ≤ (x3 + 1)) (g0b : (x3 + 1) < 2147483648) : Rx k_L_law 785 [.inr (.inl (32, 0)), .inr (.inl (0, 0)), .inr (.inl (16, 0)), .inl x3] [] σ = (Rx k_X4_longest 0 [.inr (.inl (0, 0)), .inl (σ 32 0 (x3 + 1).toNat), uns] [] σ).bind fun q => Rx k_L_law 794 [.inr (.inl (32, 0)), .inr (.inl (0, 0)), .inr (.inl (16, 0)), .inl x3] (q.1.toList ++ []) q.2 := by
  have e0 := wr_id (x := (x3 + 1)) g0a g0b
  have raw := r_L_law_785 x3 σ (by simp only [e0]; exact h0) (by simp only [e0]; exact h1)
  simp only [e0] at raw
  exact raw
set_option maxRecDepth 100000 in
theorem r_L_law_794 (x3 : Int) (s0 : Int) (σ : St) (h0 : 0 ≤ (wr (x3 + 1))) (h1 : (wr (x3 + 1)) < σ 32 1 0) : Rx k_L_law 794 [.inr (.inl (32, 0)), .inr (.inl (0, 0)), .inr (.inl (16, 0)), .inl x3] [.inl s0] σ = (Rx k_X5_longest 0 [.inr (.inl (16, 0)), .inl (σ 32 0 (wr (x3 + 1)).toNat), uns, uns, uns, uns, uns] [] σ).bind fun q => Rx k_L_law 803 [.inr (.inl (32, 0)), .inr (.inl (0, 0)), .inr (.inl (16, 0)), .inl x3] (q.1.toList ++ [.inl s0]) q.2 := by
  refine (Rx_N (k := 5) (pc' := 799) (ls' := [.inr (.inl (32, 0)), .inr (.inl (0, 0)), .inr (.inl (16, 0)), .inl x3]) (st' := [.inl (wr (x3 + 1)), .inr (.inl (32, 0)), .inr (.inl (16, 0)), .inl s0]) (σ' := σ) rfl).trans ?_
  refine (Rx_sld rfl h0 h1).trans ?_
  exact Rx_call (n := 3) (y' := k_X5_longest) (as := [.inr (.inl (16, 0)), .inl (σ 32 0 (wr (x3 + 1)).toNat)]) (rest := [.inl s0]) rfl rfl rfl
set_option maxRecDepth 100000 in
theorem b_L_law_794 (x3 : Int) (s0 : Int) (σ : St) (h0 : 0 ≤ (x3 + 1)) (h1 : (x3 + 1) < σ 32 1 0) (g0a : -2147483648 ≤ (x3 + 1)) (g0b : (x3 + 1) < 2147483648) : Rx k_L_law 794 [.inr (.inl (32, 0)), .inr (.inl (0, 0)), .inr (.inl (16, 0)), .inl x3] [.inl s0] σ = (Rx k_X5_longest 0 [.inr (.inl (16, 0)), .inl (σ 32 0 (x3 + 1).toNat), uns, uns, uns, uns, uns] [] σ).bind fun q => Rx k_L_law 803 [.inr (.inl (32, 0)), .inr (.inl (0, 0)), .inr (.inl (16, 0)), .inl x3] (q.1.toList ++ [.inl s0]) q.2 := by
  have e0 := wr_id (x := (x3 + 1)) g0a g0b
  have raw := r_L_law_794 x3 s0 σ (by simp only [e0]; exact h0) (by simp only [e0]; exact h1)
  simp only [e0] at raw
  exact raw
set_option maxRecDepth 100000 in
theorem b_L_law_803 (x3 : Int) (s1 : Int) (s0 : Int) (σ : St) : Rx k_L_law 803 [.inr (.inl (32, 0)), .inr (.inl (0, 0)), .inr (.inl (16, 0)), .inl x3] [.inl s1, .inl s0] σ = if s0 = s1 then Rx k_L_law 1346 [.inr (.inl (32, 0)), .inr (.inl (0, 0)), .inr (.inl (16, 0)), .inl x3] [] σ else Rx k_L_law 806 [.inr (.inl (32, 0)), .inr (.inl (0, 0)), .inr (.inl (16, 0)), .inl x3] [] σ := by
  exact Rx_eq0 (k := 1) rfl
set_option maxRecDepth 100000 in
theorem b_L_law_806 (x3 : Int) (σ : St) : Rx k_L_law 806 [.inr (.inl (32, 0)), .inr (.inl (0, 0)), .inr (.inl (16, 0)), .inl x3] [] σ = some (some (.inl 0), σ) := by
  refine (Rx_N (k := 1) (pc' := 807) (ls' := [.inr (.inl (32, 0)), .inr (.inl (0, 0)), .inr (.inl (16, 0)), .inl x3]) (st' := [.inl 0]) (σ' := σ) rfl).trans ?_
  exact Rx_ret rfl rfl
set_option maxRecDepth 100000 in
theorem r_L_law_808 (x3 : Int) (σ : St) (h0 : 0 ≤ (wr (x3 + 1))) (h1 : (wr (x3 + 1)) < σ 32 1 0) : Rx k_L_law 808 [.inr (.inl (32, 0)), .inr (.inl (0, 0)), .inr (.inl (16, 0)), .inl x3] [] σ = (Rx k_X4_lean 0 [.inr (.inl (0, 0)), .inl (σ 32 0 (wr (x3 + 1)).toNat), uns] [] σ).bind fun q => Rx k_L_law 817 [.inr (.inl (32, 0)), .inr (.inl (0, 0)), .inr (.inl (16, 0)), .inl x3] (q.1.toList ++ []) q.2 := by
  refine (Rx_N (k := 5) (pc' := 813) (ls' := [.inr (.inl (32, 0)), .inr (.inl (0, 0)), .inr (.inl (16, 0)), .inl x3]) (st' := [.inl (wr (x3 + 1)), .inr (.inl (32, 0)), .inr (.inl (0, 0))]) (σ' := σ) rfl).trans ?_
  refine (Rx_sld rfl h0 h1).trans ?_
  exact Rx_call (n := 3) (y' := k_X4_lean) (as := [.inr (.inl (0, 0)), .inl (σ 32 0 (wr (x3 + 1)).toNat)]) (rest := []) rfl rfl rfl
set_option maxRecDepth 100000 in
theorem b_L_law_808 (x3 : Int) (σ : St) (h0 : 0 ≤ (x3 + 1)) (h1 : (x3 + 1) < σ 32 1 0) (g0a : -2147483648 ≤ (x3 + 1)) (g0b : (x3 + 1) < 2147483648) : Rx k_L_law 808 [.inr (.inl (32, 0)), .inr (.inl (0, 0)), .inr (.inl (16, 0)), .inl x3] [] σ = (Rx k_X4_lean 0 [.inr (.inl (0, 0)), .inl (σ 32 0 (x3 + 1).toNat), uns] [] σ).bind fun q => Rx k_L_law 817 [.inr (.inl (32, 0)), .inr (.inl (0, 0)), .inr (.inl (16, 0)), .inl x3] (q.1.toList ++ []) q.2 := by
  have e0 := wr_id (x := (x3 + 1)) g0a g0b
  have raw := r_L_law_808 x3 σ (by simp only [e0]; exact h0) (by simp only [e0]; exact h1)
  simp only [e0] at raw
  exact raw
set_option maxRecDepth 100000 in
theorem r_L_law_817 (x3 : Int) (s0 : Int) (σ : St) (h0 : 0 ≤ (wr (x3 + 1))) (h1 : (wr (x3 + 1)) < σ 32 1 0) : Rx k_L_law 817 [.inr (.inl (32, 0)), .inr (.inl (0, 0)), .inr (.inl (16, 0)), .inl x3] [.inl s0] σ = (Rx k_X5_lean 0 [.inr (.inl (16, 0)), .inl (σ 32 0 (wr (x3 + 1)).toNat), uns, uns, uns, uns, uns] [] σ).bind fun q => Rx k_L_law 826 [.inr (.inl (32, 0)), .inr (.inl (0, 0)), .inr (.inl (16, 0)), .inl x3] (q.1.toList ++ [.inl s0]) q.2 := by
  refine (Rx_N (k := 5) (pc' := 822) (ls' := [.inr (.inl (32, 0)), .inr (.inl (0, 0)), .inr (.inl (16, 0)), .inl x3]) (st' := [.inl (wr (x3 + 1)), .inr (.inl (32, 0)), .inr (.inl (16, 0)), .inl s0]) (σ' := σ) rfl).trans ?_
  refine (Rx_sld rfl h0 h1).trans ?_
  exact Rx_call (n := 3) (y' := k_X5_lean) (as := [.inr (.inl (16, 0)), .inl (σ 32 0 (wr (x3 + 1)).toNat)]) (rest := [.inl s0]) rfl rfl rfl
set_option maxRecDepth 100000 in
theorem b_L_law_817 (x3 : Int) (s0 : Int) (σ : St) (h0 : 0 ≤ (x3 + 1)) (h1 : (x3 + 1) < σ 32 1 0) (g0a : -2147483648 ≤ (x3 + 1)) (g0b : (x3 + 1) < 2147483648) : Rx k_L_law 817 [.inr (.inl (32, 0)), .inr (.inl (0, 0)), .inr (.inl (16, 0)), .inl x3] [.inl s0] σ = (Rx k_X5_lean 0 [.inr (.inl (16, 0)), .inl (σ 32 0 (x3 + 1).toNat), uns, uns, uns, uns, uns] [] σ).bind fun q => Rx k_L_law 826 [.inr (.inl (32, 0)), .inr (.inl (0, 0)), .inr (.inl (16, 0)), .inl x3] (q.1.toList ++ [.inl s0]) q.2 := by
  have e0 := wr_id (x := (x3 + 1)) g0a g0b
  have raw := r_L_law_817 x3 s0 σ (by simp only [e0]; exact h0) (by simp only [e0]; exact h1)
  simp only [e0] at raw
  exact raw
set_option maxRecDepth 100000 in
theorem b_L_law_826 (x3 : Int) (s1 : Int) (s0 : Int) (σ : St) : Rx k_L_law 826 [.inr (.inl (32, 0)), .inr (.inl (0, 0)), .inr (.inl (16, 0)), .inl x3] [.inl s1, .inl s0] σ = if s0 = s1 then Rx k_L_law 1346 [.inr (.inl (32, 0)), .inr (.inl (0, 0)), .inr (.inl (16, 0)), .inl x3] [] σ else Rx k_L_law 829 [.inr (.inl (32, 0)), .inr (.inl (0, 0)), .inr (.inl (16, 0)), .inl x3] [] σ := by
  exact Rx_eq0 (k := 1) rfl
set_option maxRecDepth 100000 in
theorem b_L_law_829 (x3 : Int) (σ : St) : Rx k_L_law 829 [.inr (.inl (32, 0)), .inr (.inl (0, 0)), .inr (.inl (16, 0)), .inl x3] [] σ = some (some (.inl 0), σ) := by
  refine (Rx_N (k := 1) (pc' := 830) (ls' := [.inr (.inl (32, 0)), .inr (.inl (0, 0)), .inr (.inl (16, 0)), .inl x3]) (st' := [.inl 0]) (σ' := σ) rfl).trans ?_
  exact Rx_ret rfl rfl
set_option maxRecDepth 100000 in
theorem r_L_law_831 (x3 : Int) (σ : St) (h0 : 0 ≤ (wr (x3 + 1))) (h1 : (wr (x3 + 1)) < σ 32 1 0) (h2 : 0 ≤ (wr (x3 + 2))) (h3 : (wr (x3 + 2)) < σ 32 1 0) (h4 : 0 ≤ (wr (x3 + 3))) (h5 : (wr (x3 + 3)) < σ 32 1 0) (h6 : 0 ≤ (wr (x3 + 4))) (h7 : (wr (x3 + 4)) < σ 32 1 0) (h8 : 0 ≤ (wr (x3 + 5))) (h9 : (wr (x3 + 5)) < σ 32 1 0) : Rx k_L_law 831 [.inr (.inl (32, 0)), .inr (.inl (0, 0)), .inr (.inl (16, 0)), .inl x3] [] σ = (Rx k_X4_bestLeans 0 [.inr (.inl (0, 0)), .inl (σ 32 0 (wr (x3 + 1)).toNat), .inl (σ 32 0 (wr (x3 + 2)).toNat), .inl (σ 32 0 (wr (x3 + 3)).toNat), .inl (σ 32 0 (wr (x3 + 4)).toNat), .inl (σ 32 0 (wr (x3 + 5)).toNat), uns, uns] [] σ).bind fun q => Rx k_L_law 860 [.inr (.inl (32, 0)), .inr (.inl (0, 0)), .inr (.inl (16, 0)), .inl x3] (q.1.toList ++ []) q.2 := by
  refine (Rx_N (k := 5) (pc' := 836) (ls' := [.inr (.inl (32, 0)), .inr (.inl (0, 0)), .inr (.inl (16, 0)), .inl x3]) (st' := [.inl (wr (x3 + 1)), .inr (.inl (32, 0)), .inr (.inl (0, 0))]) (σ' := σ) rfl).trans ?_
  refine (Rx_sld rfl h0 h1).trans ?_
  refine (Rx_N (k := 4) (pc' := 841) (ls' := [.inr (.inl (32, 0)), .inr (.inl (0, 0)), .inr (.inl (16, 0)), .inl x3]) (st' := [.inl (wr (x3 + 2)), .inr (.inl (32, 0)), .inl (σ 32 0 (wr (x3 + 1)).toNat), .inr (.inl (0, 0))]) (σ' := σ) rfl).trans ?_
  refine (Rx_sld rfl h2 h3).trans ?_
  refine (Rx_N (k := 4) (pc' := 846) (ls' := [.inr (.inl (32, 0)), .inr (.inl (0, 0)), .inr (.inl (16, 0)), .inl x3]) (st' := [.inl (wr (x3 + 3)), .inr (.inl (32, 0)), .inl (σ 32 0 (wr (x3 + 2)).toNat), .inl (σ 32 0 (wr (x3 + 1)).toNat), .inr (.inl (0, 0))]) (σ' := σ) rfl).trans ?_
  refine (Rx_sld rfl h4 h5).trans ?_
  refine (Rx_N (k := 4) (pc' := 851) (ls' := [.inr (.inl (32, 0)), .inr (.inl (0, 0)), .inr (.inl (16, 0)), .inl x3]) (st' := [.inl (wr (x3 + 4)), .inr (.inl (32, 0)), .inl (σ 32 0 (wr (x3 + 3)).toNat), .inl (σ 32 0 (wr (x3 + 2)).toNat), .inl (σ 32 0 (wr (x3 + 1)).toNat), .inr (.inl (0, 0))]) (σ' := σ) rfl).trans ?_
  refine (Rx_sld rfl h6 h7).trans ?_
  refine (Rx_N (k := 4) (pc' := 856) (ls' := [.inr (.inl (32, 0)), .inr (.inl (0, 0)), .inr (.inl (16, 0)), .inl x3]) (st' := [.inl (wr (x3 + 5)), .inr (.inl (32, 0)), .inl (σ 32 0 (wr (x3 + 4)).toNat), .inl (σ 32 0 (wr (x3 + 3)).toNat), .inl (σ 32 0 (wr (x3 + 2)).toNat), .inl (σ 32 0 (wr (x3 + 1)).toNat), .inr (.inl (0, 0))]) (σ' := σ) rfl).trans ?_
  refine (Rx_sld rfl h8 h9).trans ?_
  exact Rx_call (n := 3) (y' := k_X4_bestLeans) (as := [.inr (.inl (0, 0)), .inl (σ 32 0 (wr (x3 + 1)).toNat), .inl (σ 32 0 (wr (x3 + 2)).toNat), .inl (σ 32 0 (wr (x3 + 3)).toNat), .inl (σ 32 0 (wr (x3 + 4)).toNat), .inl (σ 32 0 (wr (x3 + 5)).toNat)]) (rest := []) rfl rfl rfl
set_option maxRecDepth 100000 in
theorem b_L_law_831 (x3 : Int) (σ : St) (h0 : 0 ≤ (x3 + 1)) (h1 : (x3 + 1) < σ 32 1 0) (h2 : 0 ≤ (x3 + 2)) (h3 : (x3 + 2) < σ 32 1 0) (h4 : 0 ≤ (x3 + 3)) (h5 : (x3 + 3) < σ 32 1 0) (h6 : 0 ≤ (x3 + 4)) (h7 : (x3 + 4) < σ 32 1 0) (h8 : 0 ≤ (x3 + 5)) (h9 : (x3 + 5) < σ 32 1 0) (g0a : -2147483648 ≤ (x3 + 1)) (g0b : (x3 + 1) < 2147483648) (g1a : -2147483648 ≤ (x3 + 2)) (g1b : (x3 + 2) < 2147483648) (g2a : -2147483648 ≤ (x3 + 3)) (g2b : (x3 + 3) < 2147483648) (g3a : -2147483648 ≤ (x3 + 4)) (g3b : (x3 + 4) < 2147483648) (g4a : -2147483648 ≤ (x3 + 5)) (g4b : (x3 + 5) < 2147483648) : Rx k_L_law 831 [.inr (.inl (32, 0)), .inr (.inl (0, 0)), .inr (.inl (16, 0)), .inl x3] [] σ = (Rx k_X4_bestLeans 0 [.inr (.inl (0, 0)), .inl (σ 32 0 (x3 + 1).toNat), .inl (σ 32 0 (x3 + 2).toNat), .inl (σ 32 0 (x3 + 3).toNat), .inl (σ 32 0 (x3 + 4).toNat), .inl (σ 32 0 (x3 + 5).toNat), uns, uns] [] σ).bind fun q => Rx k_L_law 860 [.inr (.inl (32, 0)), .inr (.inl (0, 0)), .inr (.inl (16, 0)), .inl x3] (q.1.toList ++ []) q.2 := by
  have e0 := wr_id (x := (x3 + 1)) g0a g0b
  have e1 := wr_id (x := (x3 + 2)) g1a g1b
  have e2 := wr_id (x := (x3 + 3)) g2a g2b
  have e3 := wr_id (x := (x3 + 4)) g3a g3b
  have e4 := wr_id (x := (x3 + 5)) g4a g4b
  have raw := r_L_law_831 x3 σ (by simp only [e0, e1, e2, e3, e4]; exact h0) (by simp only [e0, e1, e2, e3, e4]; exact h1) (by simp only [e0, e1, e2, e3, e4]; exact h2) (by simp only [e0, e1, e2, e3, e4]; exact h3) (by simp only [e0, e1, e2, e3, e4]; exact h4) (by simp only [e0, e1, e2, e3, e4]; exact h5) (by simp only [e0, e1, e2, e3, e4]; exact h6) (by simp only [e0, e1, e2, e3, e4]; exact h7) (by simp only [e0, e1, e2, e3, e4]; exact h8) (by simp only [e0, e1, e2, e3, e4]; exact h9)
  simp only [e0, e1, e2, e3, e4] at raw
  exact raw
set_option maxRecDepth 100000 in
theorem r_L_law_860 (x3 : Int) (s0 : Int) (σ : St) (h0 : 0 ≤ (wr (x3 + 1))) (h1 : (wr (x3 + 1)) < σ 32 1 0) (h2 : 0 ≤ (wr (x3 + 2))) (h3 : (wr (x3 + 2)) < σ 32 1 0) (h4 : 0 ≤ (wr (x3 + 3))) (h5 : (wr (x3 + 3)) < σ 32 1 0) (h6 : 0 ≤ (wr (x3 + 4))) (h7 : (wr (x3 + 4)) < σ 32 1 0) (h8 : 0 ≤ (wr (x3 + 5))) (h9 : (wr (x3 + 5)) < σ 32 1 0) : Rx k_L_law 860 [.inr (.inl (32, 0)), .inr (.inl (0, 0)), .inr (.inl (16, 0)), .inl x3] [.inl s0] σ = (Rx k_X5_bestLeans 0 [.inr (.inl (16, 0)), .inl (σ 32 0 (wr (x3 + 1)).toNat), .inl (σ 32 0 (wr (x3 + 2)).toNat), .inl (σ 32 0 (wr (x3 + 3)).toNat), .inl (σ 32 0 (wr (x3 + 4)).toNat), .inl (σ 32 0 (wr (x3 + 5)).toNat), uns, uns, uns, uns, uns, uns, uns, uns] [] σ).bind fun q => Rx k_L_law 889 [.inr (.inl (32, 0)), .inr (.inl (0, 0)), .inr (.inl (16, 0)), .inl x3] (q.1.toList ++ [.inl s0]) q.2 := by
  refine (Rx_N (k := 5) (pc' := 865) (ls' := [.inr (.inl (32, 0)), .inr (.inl (0, 0)), .inr (.inl (16, 0)), .inl x3]) (st' := [.inl (wr (x3 + 1)), .inr (.inl (32, 0)), .inr (.inl (16, 0)), .inl s0]) (σ' := σ) rfl).trans ?_
  refine (Rx_sld rfl h0 h1).trans ?_
  refine (Rx_N (k := 4) (pc' := 870) (ls' := [.inr (.inl (32, 0)), .inr (.inl (0, 0)), .inr (.inl (16, 0)), .inl x3]) (st' := [.inl (wr (x3 + 2)), .inr (.inl (32, 0)), .inl (σ 32 0 (wr (x3 + 1)).toNat), .inr (.inl (16, 0)), .inl s0]) (σ' := σ) rfl).trans ?_
  refine (Rx_sld rfl h2 h3).trans ?_
  refine (Rx_N (k := 4) (pc' := 875) (ls' := [.inr (.inl (32, 0)), .inr (.inl (0, 0)), .inr (.inl (16, 0)), .inl x3]) (st' := [.inl (wr (x3 + 3)), .inr (.inl (32, 0)), .inl (σ 32 0 (wr (x3 + 2)).toNat), .inl (σ 32 0 (wr (x3 + 1)).toNat), .inr (.inl (16, 0)), .inl s0]) (σ' := σ) rfl).trans ?_
  refine (Rx_sld rfl h4 h5).trans ?_
  refine (Rx_N (k := 4) (pc' := 880) (ls' := [.inr (.inl (32, 0)), .inr (.inl (0, 0)), .inr (.inl (16, 0)), .inl x3]) (st' := [.inl (wr (x3 + 4)), .inr (.inl (32, 0)), .inl (σ 32 0 (wr (x3 + 3)).toNat), .inl (σ 32 0 (wr (x3 + 2)).toNat), .inl (σ 32 0 (wr (x3 + 1)).toNat), .inr (.inl (16, 0)), .inl s0]) (σ' := σ) rfl).trans ?_
  refine (Rx_sld rfl h6 h7).trans ?_
  refine (Rx_N (k := 4) (pc' := 885) (ls' := [.inr (.inl (32, 0)), .inr (.inl (0, 0)), .inr (.inl (16, 0)), .inl x3]) (st' := [.inl (wr (x3 + 5)), .inr (.inl (32, 0)), .inl (σ 32 0 (wr (x3 + 4)).toNat), .inl (σ 32 0 (wr (x3 + 3)).toNat), .inl (σ 32 0 (wr (x3 + 2)).toNat), .inl (σ 32 0 (wr (x3 + 1)).toNat), .inr (.inl (16, 0)), .inl s0]) (σ' := σ) rfl).trans ?_
  refine (Rx_sld rfl h8 h9).trans ?_
  exact Rx_call (n := 3) (y' := k_X5_bestLeans) (as := [.inr (.inl (16, 0)), .inl (σ 32 0 (wr (x3 + 1)).toNat), .inl (σ 32 0 (wr (x3 + 2)).toNat), .inl (σ 32 0 (wr (x3 + 3)).toNat), .inl (σ 32 0 (wr (x3 + 4)).toNat), .inl (σ 32 0 (wr (x3 + 5)).toNat)]) (rest := [.inl s0]) rfl rfl rfl
set_option maxRecDepth 100000 in
theorem b_L_law_860 (x3 : Int) (s0 : Int) (σ : St) (h0 : 0 ≤ (x3 + 1)) (h1 : (x3 + 1) < σ 32 1 0) (h2 : 0 ≤ (x3 + 2)) (h3 : (x3 + 2) < σ 32 1 0) (h4 : 0 ≤ (x3 + 3)) (h5 : (x3 + 3) < σ 32 1 0) (h6 : 0 ≤ (x3 + 4)) (h7 : (x3 + 4) < σ 32 1 0) (h8 : 0 ≤ (x3 + 5)) (h9 : (x3 + 5) < σ 32 1 0) (g0a : -2147483648 ≤ (x3 + 1)) (g0b : (x3 + 1) < 2147483648) (g1a : -2147483648 ≤ (x3 + 2)) (g1b : (x3 + 2) < 2147483648) (g2a : -2147483648 ≤ (x3 + 3)) (g2b : (x3 + 3) < 2147483648) (g3a : -2147483648 ≤ (x3 + 4)) (g3b : (x3 + 4) < 2147483648) (g4a : -2147483648 ≤ (x3 + 5)) (g4b : (x3 + 5) < 2147483648) : Rx k_L_law 860 [.inr (.inl (32, 0)), .inr (.inl (0, 0)), .inr (.inl (16, 0)), .inl x3] [.inl s0] σ = (Rx k_X5_bestLeans 0 [.inr (.inl (16, 0)), .inl (σ 32 0 (x3 + 1).toNat), .inl (σ 32 0 (x3 + 2).toNat), .inl (σ 32 0 (x3 + 3).toNat), .inl (σ 32 0 (x3 + 4).toNat), .inl (σ 32 0 (x3 + 5).toNat), uns, uns, uns, uns, uns, uns, uns, uns] [] σ).bind fun q => Rx k_L_law 889 [.inr (.inl (32, 0)), .inr (.inl (0, 0)), .inr (.inl (16, 0)), .inl x3] (q.1.toList ++ [.inl s0]) q.2 := by
  have e0 := wr_id (x := (x3 + 1)) g0a g0b
  have e1 := wr_id (x := (x3 + 2)) g1a g1b
  have e2 := wr_id (x := (x3 + 3)) g2a g2b
  have e3 := wr_id (x := (x3 + 4)) g3a g3b
  have e4 := wr_id (x := (x3 + 5)) g4a g4b
  have raw := r_L_law_860 x3 s0 σ (by simp only [e0, e1, e2, e3, e4]; exact h0) (by simp only [e0, e1, e2, e3, e4]; exact h1) (by simp only [e0, e1, e2, e3, e4]; exact h2) (by simp only [e0, e1, e2, e3, e4]; exact h3) (by simp only [e0, e1, e2, e3, e4]; exact h4) (by simp only [e0, e1, e2, e3, e4]; exact h5) (by simp only [e0, e1, e2, e3, e4]; exact h6) (by simp only [e0, e1, e2, e3, e4]; exact h7) (by simp only [e0, e1, e2, e3, e4]; exact h8) (by simp only [e0, e1, e2, e3, e4]; exact h9)
  simp only [e0, e1, e2, e3, e4] at raw
  exact raw
set_option maxRecDepth 100000 in
theorem b_L_law_889 (x3 : Int) (s1 : Int) (s0 : Int) (σ : St) : Rx k_L_law 889 [.inr (.inl (32, 0)), .inr (.inl (0, 0)), .inr (.inl (16, 0)), .inl x3] [.inl s1, .inl s0] σ = if s0 = s1 then Rx k_L_law 1346 [.inr (.inl (32, 0)), .inr (.inl (0, 0)), .inr (.inl (16, 0)), .inl x3] [] σ else Rx k_L_law 892 [.inr (.inl (32, 0)), .inr (.inl (0, 0)), .inr (.inl (16, 0)), .inl x3] [] σ := by
  exact Rx_eq0 (k := 1) rfl
set_option maxRecDepth 100000 in
theorem b_L_law_892 (x3 : Int) (σ : St) : Rx k_L_law 892 [.inr (.inl (32, 0)), .inr (.inl (0, 0)), .inr (.inl (16, 0)), .inl x3] [] σ = some (some (.inl 0), σ) := by
  refine (Rx_N (k := 1) (pc' := 893) (ls' := [.inr (.inl (32, 0)), .inr (.inl (0, 0)), .inr (.inl (16, 0)), .inl x3]) (st' := [.inl 0]) (σ' := σ) rfl).trans ?_
  exact Rx_ret rfl rfl
set_option maxRecDepth 100000 in
theorem r_L_law_894 (x3 : Int) (σ : St) (h0 : 0 ≤ (wr (x3 + 1))) (h1 : (wr (x3 + 1)) < σ 32 1 0) : Rx k_L_law 894 [.inr (.inl (32, 0)), .inr (.inl (0, 0)), .inr (.inl (16, 0)), .inl x3] [] σ = (Rx k_X4_mended 0 [.inr (.inl (0, 0)), .inl (σ 32 0 (wr (x3 + 1)).toNat), uns] [] σ).bind fun q => Rx k_L_law 903 [.inr (.inl (32, 0)), .inr (.inl (0, 0)), .inr (.inl (16, 0)), .inl x3] (q.1.toList ++ []) q.2 := by
  refine (Rx_N (k := 5) (pc' := 899) (ls' := [.inr (.inl (32, 0)), .inr (.inl (0, 0)), .inr (.inl (16, 0)), .inl x3]) (st' := [.inl (wr (x3 + 1)), .inr (.inl (32, 0)), .inr (.inl (0, 0))]) (σ' := σ) rfl).trans ?_
  refine (Rx_sld rfl h0 h1).trans ?_
  exact Rx_call (n := 3) (y' := k_X4_mended) (as := [.inr (.inl (0, 0)), .inl (σ 32 0 (wr (x3 + 1)).toNat)]) (rest := []) rfl rfl rfl
set_option maxRecDepth 100000 in
theorem b_L_law_894 (x3 : Int) (σ : St) (h0 : 0 ≤ (x3 + 1)) (h1 : (x3 + 1) < σ 32 1 0) (g0a : -2147483648 ≤ (x3 + 1)) (g0b : (x3 + 1) < 2147483648) : Rx k_L_law 894 [.inr (.inl (32, 0)), .inr (.inl (0, 0)), .inr (.inl (16, 0)), .inl x3] [] σ = (Rx k_X4_mended 0 [.inr (.inl (0, 0)), .inl (σ 32 0 (x3 + 1).toNat), uns] [] σ).bind fun q => Rx k_L_law 903 [.inr (.inl (32, 0)), .inr (.inl (0, 0)), .inr (.inl (16, 0)), .inl x3] (q.1.toList ++ []) q.2 := by
  have e0 := wr_id (x := (x3 + 1)) g0a g0b
  have raw := r_L_law_894 x3 σ (by simp only [e0]; exact h0) (by simp only [e0]; exact h1)
  simp only [e0] at raw
  exact raw
set_option maxRecDepth 100000 in
theorem r_L_law_903 (x3 : Int) (s0 : Int) (σ : St) (h0 : 0 ≤ (wr (x3 + 1))) (h1 : (wr (x3 + 1)) < σ 32 1 0) : Rx k_L_law 903 [.inr (.inl (32, 0)), .inr (.inl (0, 0)), .inr (.inl (16, 0)), .inl x3] [.inl s0] σ = (Rx k_X5_mended 0 [.inr (.inl (16, 0)), .inl (σ 32 0 (wr (x3 + 1)).toNat), uns, uns, uns, uns, uns] [] σ).bind fun q => Rx k_L_law 912 [.inr (.inl (32, 0)), .inr (.inl (0, 0)), .inr (.inl (16, 0)), .inl x3] (q.1.toList ++ [.inl s0]) q.2 := by
  refine (Rx_N (k := 5) (pc' := 908) (ls' := [.inr (.inl (32, 0)), .inr (.inl (0, 0)), .inr (.inl (16, 0)), .inl x3]) (st' := [.inl (wr (x3 + 1)), .inr (.inl (32, 0)), .inr (.inl (16, 0)), .inl s0]) (σ' := σ) rfl).trans ?_
  refine (Rx_sld rfl h0 h1).trans ?_
  exact Rx_call (n := 3) (y' := k_X5_mended) (as := [.inr (.inl (16, 0)), .inl (σ 32 0 (wr (x3 + 1)).toNat)]) (rest := [.inl s0]) rfl rfl rfl
set_option maxRecDepth 100000 in
theorem b_L_law_903 (x3 : Int) (s0 : Int) (σ : St) (h0 : 0 ≤ (x3 + 1)) (h1 : (x3 + 1) < σ 32 1 0) (g0a : -2147483648 ≤ (x3 + 1)) (g0b : (x3 + 1) < 2147483648) : Rx k_L_law 903 [.inr (.inl (32, 0)), .inr (.inl (0, 0)), .inr (.inl (16, 0)), .inl x3] [.inl s0] σ = (Rx k_X5_mended 0 [.inr (.inl (16, 0)), .inl (σ 32 0 (x3 + 1).toNat), uns, uns, uns, uns, uns] [] σ).bind fun q => Rx k_L_law 912 [.inr (.inl (32, 0)), .inr (.inl (0, 0)), .inr (.inl (16, 0)), .inl x3] (q.1.toList ++ [.inl s0]) q.2 := by
  have e0 := wr_id (x := (x3 + 1)) g0a g0b
  have raw := r_L_law_903 x3 s0 σ (by simp only [e0]; exact h0) (by simp only [e0]; exact h1)
  simp only [e0] at raw
  exact raw
set_option maxRecDepth 100000 in
theorem b_L_law_912 (x3 : Int) (s1 : Int) (s0 : Int) (σ : St) : Rx k_L_law 912 [.inr (.inl (32, 0)), .inr (.inl (0, 0)), .inr (.inl (16, 0)), .inl x3] [.inl s1, .inl s0] σ = if s0 = s1 then Rx k_L_law 1346 [.inr (.inl (32, 0)), .inr (.inl (0, 0)), .inr (.inl (16, 0)), .inl x3] [] σ else Rx k_L_law 915 [.inr (.inl (32, 0)), .inr (.inl (0, 0)), .inr (.inl (16, 0)), .inl x3] [] σ := by
  exact Rx_eq0 (k := 1) rfl
set_option maxRecDepth 100000 in
theorem b_L_law_915 (x3 : Int) (σ : St) : Rx k_L_law 915 [.inr (.inl (32, 0)), .inr (.inl (0, 0)), .inr (.inl (16, 0)), .inl x3] [] σ = some (some (.inl 0), σ) := by
  refine (Rx_N (k := 1) (pc' := 916) (ls' := [.inr (.inl (32, 0)), .inr (.inl (0, 0)), .inr (.inl (16, 0)), .inl x3]) (st' := [.inl 0]) (σ' := σ) rfl).trans ?_
  exact Rx_ret rfl rfl
set_option maxRecDepth 100000 in
theorem r_L_law_917 (x3 : Int) (σ : St) (h0 : 0 ≤ (wr (x3 + 1))) (h1 : (wr (x3 + 1)) < σ 32 1 0) : Rx k_L_law 917 [.inr (.inl (32, 0)), .inr (.inl (0, 0)), .inr (.inl (16, 0)), .inl x3] [] σ = (Rx k_X4_key 0 [.inr (.inl (0, 0)), .inl (σ 32 0 (wr (x3 + 1)).toNat), uns] [] σ).bind fun q => Rx k_L_law 926 [.inr (.inl (32, 0)), .inr (.inl (0, 0)), .inr (.inl (16, 0)), .inl x3] (q.1.toList ++ []) q.2 := by
  refine (Rx_N (k := 5) (pc' := 922) (ls' := [.inr (.inl (32, 0)), .inr (.inl (0, 0)), .inr (.inl (16, 0)), .inl x3]) (st' := [.inl (wr (x3 + 1)), .inr (.inl (32, 0)), .inr (.inl (0, 0))]) (σ' := σ) rfl).trans ?_
  refine (Rx_sld rfl h0 h1).trans ?_
  exact Rx_call (n := 3) (y' := k_X4_key) (as := [.inr (.inl (0, 0)), .inl (σ 32 0 (wr (x3 + 1)).toNat)]) (rest := []) rfl rfl rfl
set_option maxRecDepth 100000 in
theorem b_L_law_917 (x3 : Int) (σ : St) (h0 : 0 ≤ (x3 + 1)) (h1 : (x3 + 1) < σ 32 1 0) (g0a : -2147483648 ≤ (x3 + 1)) (g0b : (x3 + 1) < 2147483648) : Rx k_L_law 917 [.inr (.inl (32, 0)), .inr (.inl (0, 0)), .inr (.inl (16, 0)), .inl x3] [] σ = (Rx k_X4_key 0 [.inr (.inl (0, 0)), .inl (σ 32 0 (x3 + 1).toNat), uns] [] σ).bind fun q => Rx k_L_law 926 [.inr (.inl (32, 0)), .inr (.inl (0, 0)), .inr (.inl (16, 0)), .inl x3] (q.1.toList ++ []) q.2 := by
  have e0 := wr_id (x := (x3 + 1)) g0a g0b
  have raw := r_L_law_917 x3 σ (by simp only [e0]; exact h0) (by simp only [e0]; exact h1)
  simp only [e0] at raw
  exact raw
set_option maxRecDepth 100000 in
theorem r_L_law_926 (x3 : Int) (s0 : Int) (σ : St) (h0 : 0 ≤ (wr (x3 + 1))) (h1 : (wr (x3 + 1)) < σ 32 1 0) : Rx k_L_law 926 [.inr (.inl (32, 0)), .inr (.inl (0, 0)), .inr (.inl (16, 0)), .inl x3] [.inl s0] σ = (Rx k_X5_key 0 [.inr (.inl (16, 0)), .inl (σ 32 0 (wr (x3 + 1)).toNat), uns, uns, uns, uns, uns] [] σ).bind fun q => Rx k_L_law 935 [.inr (.inl (32, 0)), .inr (.inl (0, 0)), .inr (.inl (16, 0)), .inl x3] (q.1.toList ++ [.inl s0]) q.2 := by
  refine (Rx_N (k := 5) (pc' := 931) (ls' := [.inr (.inl (32, 0)), .inr (.inl (0, 0)), .inr (.inl (16, 0)), .inl x3]) (st' := [.inl (wr (x3 + 1)), .inr (.inl (32, 0)), .inr (.inl (16, 0)), .inl s0]) (σ' := σ) rfl).trans ?_
  refine (Rx_sld rfl h0 h1).trans ?_
  exact Rx_call (n := 3) (y' := k_X5_key) (as := [.inr (.inl (16, 0)), .inl (σ 32 0 (wr (x3 + 1)).toNat)]) (rest := [.inl s0]) rfl rfl rfl
set_option maxRecDepth 100000 in
theorem b_L_law_926 (x3 : Int) (s0 : Int) (σ : St) (h0 : 0 ≤ (x3 + 1)) (h1 : (x3 + 1) < σ 32 1 0) (g0a : -2147483648 ≤ (x3 + 1)) (g0b : (x3 + 1) < 2147483648) : Rx k_L_law 926 [.inr (.inl (32, 0)), .inr (.inl (0, 0)), .inr (.inl (16, 0)), .inl x3] [.inl s0] σ = (Rx k_X5_key 0 [.inr (.inl (16, 0)), .inl (σ 32 0 (x3 + 1).toNat), uns, uns, uns, uns, uns] [] σ).bind fun q => Rx k_L_law 935 [.inr (.inl (32, 0)), .inr (.inl (0, 0)), .inr (.inl (16, 0)), .inl x3] (q.1.toList ++ [.inl s0]) q.2 := by
  have e0 := wr_id (x := (x3 + 1)) g0a g0b
  have raw := r_L_law_926 x3 s0 σ (by simp only [e0]; exact h0) (by simp only [e0]; exact h1)
  simp only [e0] at raw
  exact raw
set_option maxRecDepth 100000 in
theorem b_L_law_935 (x3 : Int) (s1 : Int) (s0 : Int) (σ : St) : Rx k_L_law 935 [.inr (.inl (32, 0)), .inr (.inl (0, 0)), .inr (.inl (16, 0)), .inl x3] [.inl s1, .inl s0] σ = if s0 = s1 then Rx k_L_law 1346 [.inr (.inl (32, 0)), .inr (.inl (0, 0)), .inr (.inl (16, 0)), .inl x3] [] σ else Rx k_L_law 938 [.inr (.inl (32, 0)), .inr (.inl (0, 0)), .inr (.inl (16, 0)), .inl x3] [] σ := by
  exact Rx_eq0 (k := 1) rfl
set_option maxRecDepth 100000 in
theorem b_L_law_938 (x3 : Int) (σ : St) : Rx k_L_law 938 [.inr (.inl (32, 0)), .inr (.inl (0, 0)), .inr (.inl (16, 0)), .inl x3] [] σ = some (some (.inl 0), σ) := by
  refine (Rx_N (k := 1) (pc' := 939) (ls' := [.inr (.inl (32, 0)), .inr (.inl (0, 0)), .inr (.inl (16, 0)), .inl x3]) (st' := [.inl 0]) (σ' := σ) rfl).trans ?_
  exact Rx_ret rfl rfl
set_option maxRecDepth 100000 in
theorem r_L_law_940 (x3 : Int) (σ : St) (h0 : 0 ≤ (wr (x3 + 1))) (h1 : (wr (x3 + 1)) < σ 32 1 0) (h2 : 0 ≤ (wr (x3 + 2))) (h3 : (wr (x3 + 2)) < σ 32 1 0) : Rx k_L_law 940 [.inr (.inl (32, 0)), .inr (.inl (0, 0)), .inr (.inl (16, 0)), .inl x3] [] σ = (Rx k_X4_takes 0 [.inr (.inl (0, 0)), .inl (σ 32 0 (wr (x3 + 1)).toNat), .inl (σ 32 0 (wr (x3 + 2)).toNat), uns, uns] [] σ).bind fun q => Rx k_L_law 954 [.inr (.inl (32, 0)), .inr (.inl (0, 0)), .inr (.inl (16, 0)), .inl x3] (q.1.toList ++ []) q.2 := by
  refine (Rx_N (k := 5) (pc' := 945) (ls' := [.inr (.inl (32, 0)), .inr (.inl (0, 0)), .inr (.inl (16, 0)), .inl x3]) (st' := [.inl (wr (x3 + 1)), .inr (.inl (32, 0)), .inr (.inl (0, 0))]) (σ' := σ) rfl).trans ?_
  refine (Rx_sld rfl h0 h1).trans ?_
  refine (Rx_N (k := 4) (pc' := 950) (ls' := [.inr (.inl (32, 0)), .inr (.inl (0, 0)), .inr (.inl (16, 0)), .inl x3]) (st' := [.inl (wr (x3 + 2)), .inr (.inl (32, 0)), .inl (σ 32 0 (wr (x3 + 1)).toNat), .inr (.inl (0, 0))]) (σ' := σ) rfl).trans ?_
  refine (Rx_sld rfl h2 h3).trans ?_
  exact Rx_call (n := 3) (y' := k_X4_takes) (as := [.inr (.inl (0, 0)), .inl (σ 32 0 (wr (x3 + 1)).toNat), .inl (σ 32 0 (wr (x3 + 2)).toNat)]) (rest := []) rfl rfl rfl
set_option maxRecDepth 100000 in
theorem b_L_law_940 (x3 : Int) (σ : St) (h0 : 0 ≤ (x3 + 1)) (h1 : (x3 + 1) < σ 32 1 0) (h2 : 0 ≤ (x3 + 2)) (h3 : (x3 + 2) < σ 32 1 0) (g0a : -2147483648 ≤ (x3 + 1)) (g0b : (x3 + 1) < 2147483648) (g1a : -2147483648 ≤ (x3 + 2)) (g1b : (x3 + 2) < 2147483648) : Rx k_L_law 940 [.inr (.inl (32, 0)), .inr (.inl (0, 0)), .inr (.inl (16, 0)), .inl x3] [] σ = (Rx k_X4_takes 0 [.inr (.inl (0, 0)), .inl (σ 32 0 (x3 + 1).toNat), .inl (σ 32 0 (x3 + 2).toNat), uns, uns] [] σ).bind fun q => Rx k_L_law 954 [.inr (.inl (32, 0)), .inr (.inl (0, 0)), .inr (.inl (16, 0)), .inl x3] (q.1.toList ++ []) q.2 := by
  have e0 := wr_id (x := (x3 + 1)) g0a g0b
  have e1 := wr_id (x := (x3 + 2)) g1a g1b
  have raw := r_L_law_940 x3 σ (by simp only [e0, e1]; exact h0) (by simp only [e0, e1]; exact h1) (by simp only [e0, e1]; exact h2) (by simp only [e0, e1]; exact h3)
  simp only [e0, e1] at raw
  exact raw
set_option maxRecDepth 100000 in
theorem r_L_law_954 (x3 : Int) (s0 : Int) (σ : St) (h0 : 0 ≤ (wr (x3 + 1))) (h1 : (wr (x3 + 1)) < σ 32 1 0) (h2 : 0 ≤ (wr (x3 + 2))) (h3 : (wr (x3 + 2)) < σ 32 1 0) : Rx k_L_law 954 [.inr (.inl (32, 0)), .inr (.inl (0, 0)), .inr (.inl (16, 0)), .inl x3] [.inl s0] σ = (Rx k_X5_takes 0 [.inr (.inl (16, 0)), .inl (σ 32 0 (wr (x3 + 1)).toNat), .inl (σ 32 0 (wr (x3 + 2)).toNat), uns, uns] [] σ).bind fun q => Rx k_L_law 968 [.inr (.inl (32, 0)), .inr (.inl (0, 0)), .inr (.inl (16, 0)), .inl x3] (q.1.toList ++ [.inl s0]) q.2 := by
  refine (Rx_N (k := 5) (pc' := 959) (ls' := [.inr (.inl (32, 0)), .inr (.inl (0, 0)), .inr (.inl (16, 0)), .inl x3]) (st' := [.inl (wr (x3 + 1)), .inr (.inl (32, 0)), .inr (.inl (16, 0)), .inl s0]) (σ' := σ) rfl).trans ?_
  refine (Rx_sld rfl h0 h1).trans ?_
  refine (Rx_N (k := 4) (pc' := 964) (ls' := [.inr (.inl (32, 0)), .inr (.inl (0, 0)), .inr (.inl (16, 0)), .inl x3]) (st' := [.inl (wr (x3 + 2)), .inr (.inl (32, 0)), .inl (σ 32 0 (wr (x3 + 1)).toNat), .inr (.inl (16, 0)), .inl s0]) (σ' := σ) rfl).trans ?_
  refine (Rx_sld rfl h2 h3).trans ?_
  exact Rx_call (n := 3) (y' := k_X5_takes) (as := [.inr (.inl (16, 0)), .inl (σ 32 0 (wr (x3 + 1)).toNat), .inl (σ 32 0 (wr (x3 + 2)).toNat)]) (rest := [.inl s0]) rfl rfl rfl
set_option maxRecDepth 100000 in
theorem b_L_law_954 (x3 : Int) (s0 : Int) (σ : St) (h0 : 0 ≤ (x3 + 1)) (h1 : (x3 + 1) < σ 32 1 0) (h2 : 0 ≤ (x3 + 2)) (h3 : (x3 + 2) < σ 32 1 0) (g0a : -2147483648 ≤ (x3 + 1)) (g0b : (x3 + 1) < 2147483648) (g1a : -2147483648 ≤ (x3 + 2)) (g1b : (x3 + 2) < 2147483648) : Rx k_L_law 954 [.inr (.inl (32, 0)), .inr (.inl (0, 0)), .inr (.inl (16, 0)), .inl x3] [.inl s0] σ = (Rx k_X5_takes 0 [.inr (.inl (16, 0)), .inl (σ 32 0 (x3 + 1).toNat), .inl (σ 32 0 (x3 + 2).toNat), uns, uns] [] σ).bind fun q => Rx k_L_law 968 [.inr (.inl (32, 0)), .inr (.inl (0, 0)), .inr (.inl (16, 0)), .inl x3] (q.1.toList ++ [.inl s0]) q.2 := by
  have e0 := wr_id (x := (x3 + 1)) g0a g0b
  have e1 := wr_id (x := (x3 + 2)) g1a g1b
  have raw := r_L_law_954 x3 s0 σ (by simp only [e0, e1]; exact h0) (by simp only [e0, e1]; exact h1) (by simp only [e0, e1]; exact h2) (by simp only [e0, e1]; exact h3)
  simp only [e0, e1] at raw
  exact raw
set_option maxRecDepth 100000 in
theorem b_L_law_968 (x3 : Int) (s1 : Int) (s0 : Int) (σ : St) : Rx k_L_law 968 [.inr (.inl (32, 0)), .inr (.inl (0, 0)), .inr (.inl (16, 0)), .inl x3] [.inl s1, .inl s0] σ = if s0 = s1 then Rx k_L_law 1346 [.inr (.inl (32, 0)), .inr (.inl (0, 0)), .inr (.inl (16, 0)), .inl x3] [] σ else Rx k_L_law 971 [.inr (.inl (32, 0)), .inr (.inl (0, 0)), .inr (.inl (16, 0)), .inl x3] [] σ := by
  exact Rx_eq0 (k := 1) rfl
set_option maxRecDepth 100000 in
theorem b_L_law_971 (x3 : Int) (σ : St) : Rx k_L_law 971 [.inr (.inl (32, 0)), .inr (.inl (0, 0)), .inr (.inl (16, 0)), .inl x3] [] σ = some (some (.inl 0), σ) := by
  refine (Rx_N (k := 1) (pc' := 972) (ls' := [.inr (.inl (32, 0)), .inr (.inl (0, 0)), .inr (.inl (16, 0)), .inl x3]) (st' := [.inl 0]) (σ' := σ) rfl).trans ?_
  exact Rx_ret rfl rfl
set_option maxRecDepth 100000 in
theorem r_L_law_973 (x3 : Int) (σ : St) (h0 : 0 ≤ (wr (x3 + 1))) (h1 : (wr (x3 + 1)) < σ 32 1 0) (h2 : 0 ≤ (wr (x3 + 2))) (h3 : (wr (x3 + 2)) < σ 32 1 0) : Rx k_L_law 973 [.inr (.inl (32, 0)), .inr (.inl (0, 0)), .inr (.inl (16, 0)), .inl x3] [] σ = (Rx k_X4_balanced 0 [.inr (.inl (0, 0)), .inl (σ 32 0 (wr (x3 + 1)).toNat), .inl (σ 32 0 (wr (x3 + 2)).toNat), uns] [] σ).bind fun q => Rx k_L_law 987 [.inr (.inl (32, 0)), .inr (.inl (0, 0)), .inr (.inl (16, 0)), .inl x3] (q.1.toList ++ []) q.2 := by
  refine (Rx_N (k := 5) (pc' := 978) (ls' := [.inr (.inl (32, 0)), .inr (.inl (0, 0)), .inr (.inl (16, 0)), .inl x3]) (st' := [.inl (wr (x3 + 1)), .inr (.inl (32, 0)), .inr (.inl (0, 0))]) (σ' := σ) rfl).trans ?_
  refine (Rx_sld rfl h0 h1).trans ?_
  refine (Rx_N (k := 4) (pc' := 983) (ls' := [.inr (.inl (32, 0)), .inr (.inl (0, 0)), .inr (.inl (16, 0)), .inl x3]) (st' := [.inl (wr (x3 + 2)), .inr (.inl (32, 0)), .inl (σ 32 0 (wr (x3 + 1)).toNat), .inr (.inl (0, 0))]) (σ' := σ) rfl).trans ?_
  refine (Rx_sld rfl h2 h3).trans ?_
  exact Rx_call (n := 3) (y' := k_X4_balanced) (as := [.inr (.inl (0, 0)), .inl (σ 32 0 (wr (x3 + 1)).toNat), .inl (σ 32 0 (wr (x3 + 2)).toNat)]) (rest := []) rfl rfl rfl
set_option maxRecDepth 100000 in
theorem b_L_law_973 (x3 : Int) (σ : St) (h0 : 0 ≤ (x3 + 1)) (h1 : (x3 + 1) < σ 32 1 0) (h2 : 0 ≤ (x3 + 2)) (h3 : (x3 + 2) < σ 32 1 0) (g0a : -2147483648 ≤ (x3 + 1)) (g0b : (x3 + 1) < 2147483648) (g1a : -2147483648 ≤ (x3 + 2)) (g1b : (x3 + 2) < 2147483648) : Rx k_L_law 973 [.inr (.inl (32, 0)), .inr (.inl (0, 0)), .inr (.inl (16, 0)), .inl x3] [] σ = (Rx k_X4_balanced 0 [.inr (.inl (0, 0)), .inl (σ 32 0 (x3 + 1).toNat), .inl (σ 32 0 (x3 + 2).toNat), uns] [] σ).bind fun q => Rx k_L_law 987 [.inr (.inl (32, 0)), .inr (.inl (0, 0)), .inr (.inl (16, 0)), .inl x3] (q.1.toList ++ []) q.2 := by
  have e0 := wr_id (x := (x3 + 1)) g0a g0b
  have e1 := wr_id (x := (x3 + 2)) g1a g1b
  have raw := r_L_law_973 x3 σ (by simp only [e0, e1]; exact h0) (by simp only [e0, e1]; exact h1) (by simp only [e0, e1]; exact h2) (by simp only [e0, e1]; exact h3)
  simp only [e0, e1] at raw
  exact raw
set_option maxRecDepth 100000 in
theorem r_L_law_987 (x3 : Int) (s0 : Int) (σ : St) (h0 : 0 ≤ (wr (x3 + 1))) (h1 : (wr (x3 + 1)) < σ 32 1 0) (h2 : 0 ≤ (wr (x3 + 2))) (h3 : (wr (x3 + 2)) < σ 32 1 0) : Rx k_L_law 987 [.inr (.inl (32, 0)), .inr (.inl (0, 0)), .inr (.inl (16, 0)), .inl x3] [.inl s0] σ = (Rx k_X5_balanced 0 [.inr (.inl (16, 0)), .inl (σ 32 0 (wr (x3 + 1)).toNat), .inl (σ 32 0 (wr (x3 + 2)).toNat), uns, uns, uns] [] σ).bind fun q => Rx k_L_law 1001 [.inr (.inl (32, 0)), .inr (.inl (0, 0)), .inr (.inl (16, 0)), .inl x3] (q.1.toList ++ [.inl s0]) q.2 := by
  refine (Rx_N (k := 5) (pc' := 992) (ls' := [.inr (.inl (32, 0)), .inr (.inl (0, 0)), .inr (.inl (16, 0)), .inl x3]) (st' := [.inl (wr (x3 + 1)), .inr (.inl (32, 0)), .inr (.inl (16, 0)), .inl s0]) (σ' := σ) rfl).trans ?_
  refine (Rx_sld rfl h0 h1).trans ?_
  refine (Rx_N (k := 4) (pc' := 997) (ls' := [.inr (.inl (32, 0)), .inr (.inl (0, 0)), .inr (.inl (16, 0)), .inl x3]) (st' := [.inl (wr (x3 + 2)), .inr (.inl (32, 0)), .inl (σ 32 0 (wr (x3 + 1)).toNat), .inr (.inl (16, 0)), .inl s0]) (σ' := σ) rfl).trans ?_
  refine (Rx_sld rfl h2 h3).trans ?_
  exact Rx_call (n := 3) (y' := k_X5_balanced) (as := [.inr (.inl (16, 0)), .inl (σ 32 0 (wr (x3 + 1)).toNat), .inl (σ 32 0 (wr (x3 + 2)).toNat)]) (rest := [.inl s0]) rfl rfl rfl
set_option maxRecDepth 100000 in
theorem b_L_law_987 (x3 : Int) (s0 : Int) (σ : St) (h0 : 0 ≤ (x3 + 1)) (h1 : (x3 + 1) < σ 32 1 0) (h2 : 0 ≤ (x3 + 2)) (h3 : (x3 + 2) < σ 32 1 0) (g0a : -2147483648 ≤ (x3 + 1)) (g0b : (x3 + 1) < 2147483648) (g1a : -2147483648 ≤ (x3 + 2)) (g1b : (x3 + 2) < 2147483648) : Rx k_L_law 987 [.inr (.inl (32, 0)), .inr (.inl (0, 0)), .inr (.inl (16, 0)), .inl x3] [.inl s0] σ = (Rx k_X5_balanced 0 [.inr (.inl (16, 0)), .inl (σ 32 0 (x3 + 1).toNat), .inl (σ 32 0 (x3 + 2).toNat), uns, uns, uns] [] σ).bind fun q => Rx k_L_law 1001 [.inr (.inl (32, 0)), .inr (.inl (0, 0)), .inr (.inl (16, 0)), .inl x3] (q.1.toList ++ [.inl s0]) q.2 := by
  have e0 := wr_id (x := (x3 + 1)) g0a g0b
  have e1 := wr_id (x := (x3 + 2)) g1a g1b
  have raw := r_L_law_987 x3 s0 σ (by simp only [e0, e1]; exact h0) (by simp only [e0, e1]; exact h1) (by simp only [e0, e1]; exact h2) (by simp only [e0, e1]; exact h3)
  simp only [e0, e1] at raw
  exact raw
set_option maxRecDepth 100000 in
theorem b_L_law_1001 (x3 : Int) (s1 : Int) (s0 : Int) (σ : St) : Rx k_L_law 1001 [.inr (.inl (32, 0)), .inr (.inl (0, 0)), .inr (.inl (16, 0)), .inl x3] [.inl s1, .inl s0] σ = if s0 = s1 then Rx k_L_law 1346 [.inr (.inl (32, 0)), .inr (.inl (0, 0)), .inr (.inl (16, 0)), .inl x3] [] σ else Rx k_L_law 1004 [.inr (.inl (32, 0)), .inr (.inl (0, 0)), .inr (.inl (16, 0)), .inl x3] [] σ := by
  exact Rx_eq0 (k := 1) rfl
set_option maxRecDepth 100000 in
theorem b_L_law_1004 (x3 : Int) (σ : St) : Rx k_L_law 1004 [.inr (.inl (32, 0)), .inr (.inl (0, 0)), .inr (.inl (16, 0)), .inl x3] [] σ = some (some (.inl 0), σ) := by
  refine (Rx_N (k := 1) (pc' := 1005) (ls' := [.inr (.inl (32, 0)), .inr (.inl (0, 0)), .inr (.inl (16, 0)), .inl x3]) (st' := [.inl 0]) (σ' := σ) rfl).trans ?_
  exact Rx_ret rfl rfl
set_option maxRecDepth 100000 in
theorem r_L_law_1006 (x3 : Int) (σ : St) (h0 : 0 ≤ (wr (x3 + 1))) (h1 : (wr (x3 + 1)) < σ 32 1 0) : Rx k_L_law 1006 [.inr (.inl (32, 0)), .inr (.inl (0, 0)), .inr (.inl (16, 0)), .inl x3] [] σ = (Rx k_X4_thief 0 [.inr (.inl (0, 0)), .inl (σ 32 0 (wr (x3 + 1)).toNat), uns] [] σ).bind fun q => Rx k_L_law 1015 [.inr (.inl (32, 0)), .inr (.inl (0, 0)), .inr (.inl (16, 0)), .inl x3] (q.1.toList ++ []) q.2 := by
  refine (Rx_N (k := 5) (pc' := 1011) (ls' := [.inr (.inl (32, 0)), .inr (.inl (0, 0)), .inr (.inl (16, 0)), .inl x3]) (st' := [.inl (wr (x3 + 1)), .inr (.inl (32, 0)), .inr (.inl (0, 0))]) (σ' := σ) rfl).trans ?_
  refine (Rx_sld rfl h0 h1).trans ?_
  exact Rx_call (n := 3) (y' := k_X4_thief) (as := [.inr (.inl (0, 0)), .inl (σ 32 0 (wr (x3 + 1)).toNat)]) (rest := []) rfl rfl rfl
set_option maxRecDepth 100000 in
theorem b_L_law_1006 (x3 : Int) (σ : St) (h0 : 0 ≤ (x3 + 1)) (h1 : (x3 + 1) < σ 32 1 0) (g0a : -2147483648 ≤ (x3 + 1)) (g0b : (x3 + 1) < 2147483648) : Rx k_L_law 1006 [.inr (.inl (32, 0)), .inr (.inl (0, 0)), .inr (.inl (16, 0)), .inl x3] [] σ = (Rx k_X4_thief 0 [.inr (.inl (0, 0)), .inl (σ 32 0 (x3 + 1).toNat), uns] [] σ).bind fun q => Rx k_L_law 1015 [.inr (.inl (32, 0)), .inr (.inl (0, 0)), .inr (.inl (16, 0)), .inl x3] (q.1.toList ++ []) q.2 := by
  have e0 := wr_id (x := (x3 + 1)) g0a g0b
  have raw := r_L_law_1006 x3 σ (by simp only [e0]; exact h0) (by simp only [e0]; exact h1)
  simp only [e0] at raw
  exact raw
set_option maxRecDepth 100000 in
theorem r_L_law_1015 (x3 : Int) (s0 : Int) (σ : St) (h0 : 0 ≤ (wr (x3 + 1))) (h1 : (wr (x3 + 1)) < σ 32 1 0) : Rx k_L_law 1015 [.inr (.inl (32, 0)), .inr (.inl (0, 0)), .inr (.inl (16, 0)), .inl x3] [.inl s0] σ = (Rx k_X5_thief 0 [.inr (.inl (16, 0)), .inl (σ 32 0 (wr (x3 + 1)).toNat), uns, uns] [] σ).bind fun q => Rx k_L_law 1024 [.inr (.inl (32, 0)), .inr (.inl (0, 0)), .inr (.inl (16, 0)), .inl x3] (q.1.toList ++ [.inl s0]) q.2 := by
  refine (Rx_N (k := 5) (pc' := 1020) (ls' := [.inr (.inl (32, 0)), .inr (.inl (0, 0)), .inr (.inl (16, 0)), .inl x3]) (st' := [.inl (wr (x3 + 1)), .inr (.inl (32, 0)), .inr (.inl (16, 0)), .inl s0]) (σ' := σ) rfl).trans ?_
  refine (Rx_sld rfl h0 h1).trans ?_
  exact Rx_call (n := 3) (y' := k_X5_thief) (as := [.inr (.inl (16, 0)), .inl (σ 32 0 (wr (x3 + 1)).toNat)]) (rest := [.inl s0]) rfl rfl rfl
set_option maxRecDepth 100000 in
theorem b_L_law_1015 (x3 : Int) (s0 : Int) (σ : St) (h0 : 0 ≤ (x3 + 1)) (h1 : (x3 + 1) < σ 32 1 0) (g0a : -2147483648 ≤ (x3 + 1)) (g0b : (x3 + 1) < 2147483648) : Rx k_L_law 1015 [.inr (.inl (32, 0)), .inr (.inl (0, 0)), .inr (.inl (16, 0)), .inl x3] [.inl s0] σ = (Rx k_X5_thief 0 [.inr (.inl (16, 0)), .inl (σ 32 0 (x3 + 1).toNat), uns, uns] [] σ).bind fun q => Rx k_L_law 1024 [.inr (.inl (32, 0)), .inr (.inl (0, 0)), .inr (.inl (16, 0)), .inl x3] (q.1.toList ++ [.inl s0]) q.2 := by
  have e0 := wr_id (x := (x3 + 1)) g0a g0b
  have raw := r_L_law_1015 x3 s0 σ (by simp only [e0]; exact h0) (by simp only [e0]; exact h1)
  simp only [e0] at raw
  exact raw
set_option maxRecDepth 100000 in
theorem b_L_law_1024 (x3 : Int) (s1 : Int) (s0 : Int) (σ : St) : Rx k_L_law 1024 [.inr (.inl (32, 0)), .inr (.inl (0, 0)), .inr (.inl (16, 0)), .inl x3] [.inl s1, .inl s0] σ = if s0 = s1 then Rx k_L_law 1346 [.inr (.inl (32, 0)), .inr (.inl (0, 0)), .inr (.inl (16, 0)), .inl x3] [] σ else Rx k_L_law 1027 [.inr (.inl (32, 0)), .inr (.inl (0, 0)), .inr (.inl (16, 0)), .inl x3] [] σ := by
  exact Rx_eq0 (k := 1) rfl
set_option maxRecDepth 100000 in
theorem b_L_law_1027 (x3 : Int) (σ : St) : Rx k_L_law 1027 [.inr (.inl (32, 0)), .inr (.inl (0, 0)), .inr (.inl (16, 0)), .inl x3] [] σ = some (some (.inl 0), σ) := by
  refine (Rx_N (k := 1) (pc' := 1028) (ls' := [.inr (.inl (32, 0)), .inr (.inl (0, 0)), .inr (.inl (16, 0)), .inl x3]) (st' := [.inl 0]) (σ' := σ) rfl).trans ?_
  exact Rx_ret rfl rfl
set_option maxRecDepth 100000 in
theorem b_L_law_1029 (x3 : Int) (σ : St) : Rx k_L_law 1029 [.inr (.inl (32, 0)), .inr (.inl (0, 0)), .inr (.inl (16, 0)), .inl x3] [] σ = (Rx k_X4_robbed 0 [.inr (.inl (0, 0))] [] σ).bind fun q => Rx k_L_law 1033 [.inr (.inl (32, 0)), .inr (.inl (0, 0)), .inr (.inl (16, 0)), .inl x3] (q.1.toList ++ []) q.2 := by
  refine (Rx_N (k := 1) (pc' := 1030) (ls' := [.inr (.inl (32, 0)), .inr (.inl (0, 0)), .inr (.inl (16, 0)), .inl x3]) (st' := [.inr (.inl (0, 0))]) (σ' := σ) rfl).trans ?_
  exact Rx_call (n := 3) (y' := k_X4_robbed) (as := [.inr (.inl (0, 0))]) (rest := []) rfl rfl rfl
set_option maxRecDepth 100000 in
theorem b_L_law_1033 (x3 : Int) (s0 : Int) (σ : St) : Rx k_L_law 1033 [.inr (.inl (32, 0)), .inr (.inl (0, 0)), .inr (.inl (16, 0)), .inl x3] [.inl s0] σ = (Rx k_X5_robbed 0 [.inr (.inl (16, 0)), uns] [] σ).bind fun q => Rx k_L_law 1037 [.inr (.inl (32, 0)), .inr (.inl (0, 0)), .inr (.inl (16, 0)), .inl x3] (q.1.toList ++ [.inl s0]) q.2 := by
  refine (Rx_N (k := 1) (pc' := 1034) (ls' := [.inr (.inl (32, 0)), .inr (.inl (0, 0)), .inr (.inl (16, 0)), .inl x3]) (st' := [.inr (.inl (16, 0)), .inl s0]) (σ' := σ) rfl).trans ?_
  exact Rx_call (n := 3) (y' := k_X5_robbed) (as := [.inr (.inl (16, 0))]) (rest := [.inl s0]) rfl rfl rfl
set_option maxRecDepth 100000 in
theorem b_L_law_1037 (x3 : Int) (s1 : Int) (s0 : Int) (σ : St) : Rx k_L_law 1037 [.inr (.inl (32, 0)), .inr (.inl (0, 0)), .inr (.inl (16, 0)), .inl x3] [.inl s1, .inl s0] σ = if s0 = s1 then Rx k_L_law 1346 [.inr (.inl (32, 0)), .inr (.inl (0, 0)), .inr (.inl (16, 0)), .inl x3] [] σ else Rx k_L_law 1040 [.inr (.inl (32, 0)), .inr (.inl (0, 0)), .inr (.inl (16, 0)), .inl x3] [] σ := by
  exact Rx_eq0 (k := 1) rfl
set_option maxRecDepth 100000 in
theorem b_L_law_1040 (x3 : Int) (σ : St) : Rx k_L_law 1040 [.inr (.inl (32, 0)), .inr (.inl (0, 0)), .inr (.inl (16, 0)), .inl x3] [] σ = some (some (.inl 0), σ) := by
  refine (Rx_N (k := 1) (pc' := 1041) (ls' := [.inr (.inl (32, 0)), .inr (.inl (0, 0)), .inr (.inl (16, 0)), .inl x3]) (st' := [.inl 0]) (σ' := σ) rfl).trans ?_
  exact Rx_ret rfl rfl
set_option maxRecDepth 100000 in
theorem r_L_law_1042 (x3 : Int) (σ : St) (h0 : 0 ≤ (wr (x3 + 1))) (h1 : (wr (x3 + 1)) < σ 32 1 0) (h2 : 0 ≤ (wr (x3 + 2))) (h3 : (wr (x3 + 2)) < σ 32 1 0) : Rx k_L_law 1042 [.inr (.inl (32, 0)), .inr (.inl (0, 0)), .inr (.inl (16, 0)), .inl x3] [] σ = (Rx k_X4_bestPlace 0 [.inr (.inl (0, 0)), .inl (σ 32 0 (wr (x3 + 1)).toNat), .inl (σ 32 0 (wr (x3 + 2)).toNat), uns] [] σ).bind fun q => Rx k_L_law 1056 [.inr (.inl (32, 0)), .inr (.inl (0, 0)), .inr (.inl (16, 0)), .inl x3] (q.1.toList ++ []) q.2 := by
  refine (Rx_N (k := 5) (pc' := 1047) (ls' := [.inr (.inl (32, 0)), .inr (.inl (0, 0)), .inr (.inl (16, 0)), .inl x3]) (st' := [.inl (wr (x3 + 1)), .inr (.inl (32, 0)), .inr (.inl (0, 0))]) (σ' := σ) rfl).trans ?_
  refine (Rx_sld rfl h0 h1).trans ?_
  refine (Rx_N (k := 4) (pc' := 1052) (ls' := [.inr (.inl (32, 0)), .inr (.inl (0, 0)), .inr (.inl (16, 0)), .inl x3]) (st' := [.inl (wr (x3 + 2)), .inr (.inl (32, 0)), .inl (σ 32 0 (wr (x3 + 1)).toNat), .inr (.inl (0, 0))]) (σ' := σ) rfl).trans ?_
  refine (Rx_sld rfl h2 h3).trans ?_
  exact Rx_call (n := 3) (y' := k_X4_bestPlace) (as := [.inr (.inl (0, 0)), .inl (σ 32 0 (wr (x3 + 1)).toNat), .inl (σ 32 0 (wr (x3 + 2)).toNat)]) (rest := []) rfl rfl rfl
set_option maxRecDepth 100000 in
theorem b_L_law_1042 (x3 : Int) (σ : St) (h0 : 0 ≤ (x3 + 1)) (h1 : (x3 + 1) < σ 32 1 0) (h2 : 0 ≤ (x3 + 2)) (h3 : (x3 + 2) < σ 32 1 0) (g0a : -2147483648 ≤ (x3 + 1)) (g0b : (x3 + 1) < 2147483648) (g1a : -2147483648 ≤ (x3 + 2)) (g1b : (x3 + 2) < 2147483648) : Rx k_L_law 1042 [.inr (.inl (32, 0)), .inr (.inl (0, 0)), .inr (.inl (16, 0)), .inl x3] [] σ = (Rx k_X4_bestPlace 0 [.inr (.inl (0, 0)), .inl (σ 32 0 (x3 + 1).toNat), .inl (σ 32 0 (x3 + 2).toNat), uns] [] σ).bind fun q => Rx k_L_law 1056 [.inr (.inl (32, 0)), .inr (.inl (0, 0)), .inr (.inl (16, 0)), .inl x3] (q.1.toList ++ []) q.2 := by
  have e0 := wr_id (x := (x3 + 1)) g0a g0b
  have e1 := wr_id (x := (x3 + 2)) g1a g1b
  have raw := r_L_law_1042 x3 σ (by simp only [e0, e1]; exact h0) (by simp only [e0, e1]; exact h1) (by simp only [e0, e1]; exact h2) (by simp only [e0, e1]; exact h3)
  simp only [e0, e1] at raw
  exact raw
set_option maxRecDepth 100000 in
theorem r_L_law_1056 (x3 : Int) (s0 : Int) (σ : St) (h0 : 0 ≤ (wr (x3 + 1))) (h1 : (wr (x3 + 1)) < σ 32 1 0) (h2 : 0 ≤ (wr (x3 + 2))) (h3 : (wr (x3 + 2)) < σ 32 1 0) : Rx k_L_law 1056 [.inr (.inl (32, 0)), .inr (.inl (0, 0)), .inr (.inl (16, 0)), .inl x3] [.inl s0] σ = (Rx k_X5_bestPlace 0 [.inr (.inl (16, 0)), .inl (σ 32 0 (wr (x3 + 1)).toNat), .inl (σ 32 0 (wr (x3 + 2)).toNat), uns, uns, uns, uns, uns, uns] [] σ).bind fun q => Rx k_L_law 1070 [.inr (.inl (32, 0)), .inr (.inl (0, 0)), .inr (.inl (16, 0)), .inl x3] (q.1.toList ++ [.inl s0]) q.2 := by
  refine (Rx_N (k := 5) (pc' := 1061) (ls' := [.inr (.inl (32, 0)), .inr (.inl (0, 0)), .inr (.inl (16, 0)), .inl x3]) (st' := [.inl (wr (x3 + 1)), .inr (.inl (32, 0)), .inr (.inl (16, 0)), .inl s0]) (σ' := σ) rfl).trans ?_
  refine (Rx_sld rfl h0 h1).trans ?_
  refine (Rx_N (k := 4) (pc' := 1066) (ls' := [.inr (.inl (32, 0)), .inr (.inl (0, 0)), .inr (.inl (16, 0)), .inl x3]) (st' := [.inl (wr (x3 + 2)), .inr (.inl (32, 0)), .inl (σ 32 0 (wr (x3 + 1)).toNat), .inr (.inl (16, 0)), .inl s0]) (σ' := σ) rfl).trans ?_
  refine (Rx_sld rfl h2 h3).trans ?_
  exact Rx_call (n := 3) (y' := k_X5_bestPlace) (as := [.inr (.inl (16, 0)), .inl (σ 32 0 (wr (x3 + 1)).toNat), .inl (σ 32 0 (wr (x3 + 2)).toNat)]) (rest := [.inl s0]) rfl rfl rfl
set_option maxRecDepth 100000 in
theorem b_L_law_1056 (x3 : Int) (s0 : Int) (σ : St) (h0 : 0 ≤ (x3 + 1)) (h1 : (x3 + 1) < σ 32 1 0) (h2 : 0 ≤ (x3 + 2)) (h3 : (x3 + 2) < σ 32 1 0) (g0a : -2147483648 ≤ (x3 + 1)) (g0b : (x3 + 1) < 2147483648) (g1a : -2147483648 ≤ (x3 + 2)) (g1b : (x3 + 2) < 2147483648) : Rx k_L_law 1056 [.inr (.inl (32, 0)), .inr (.inl (0, 0)), .inr (.inl (16, 0)), .inl x3] [.inl s0] σ = (Rx k_X5_bestPlace 0 [.inr (.inl (16, 0)), .inl (σ 32 0 (x3 + 1).toNat), .inl (σ 32 0 (x3 + 2).toNat), uns, uns, uns, uns, uns, uns] [] σ).bind fun q => Rx k_L_law 1070 [.inr (.inl (32, 0)), .inr (.inl (0, 0)), .inr (.inl (16, 0)), .inl x3] (q.1.toList ++ [.inl s0]) q.2 := by
  have e0 := wr_id (x := (x3 + 1)) g0a g0b
  have e1 := wr_id (x := (x3 + 2)) g1a g1b
  have raw := r_L_law_1056 x3 s0 σ (by simp only [e0, e1]; exact h0) (by simp only [e0, e1]; exact h1) (by simp only [e0, e1]; exact h2) (by simp only [e0, e1]; exact h3)
  simp only [e0, e1] at raw
  exact raw
set_option maxRecDepth 100000 in
theorem b_L_law_1070 (x3 : Int) (s1 : Int) (s0 : Int) (σ : St) : Rx k_L_law 1070 [.inr (.inl (32, 0)), .inr (.inl (0, 0)), .inr (.inl (16, 0)), .inl x3] [.inl s1, .inl s0] σ = if s0 = s1 then Rx k_L_law 1346 [.inr (.inl (32, 0)), .inr (.inl (0, 0)), .inr (.inl (16, 0)), .inl x3] [] σ else Rx k_L_law 1073 [.inr (.inl (32, 0)), .inr (.inl (0, 0)), .inr (.inl (16, 0)), .inl x3] [] σ := by
  exact Rx_eq0 (k := 1) rfl
set_option maxRecDepth 100000 in
theorem b_L_law_1073 (x3 : Int) (σ : St) : Rx k_L_law 1073 [.inr (.inl (32, 0)), .inr (.inl (0, 0)), .inr (.inl (16, 0)), .inl x3] [] σ = some (some (.inl 0), σ) := by
  refine (Rx_N (k := 1) (pc' := 1074) (ls' := [.inr (.inl (32, 0)), .inr (.inl (0, 0)), .inr (.inl (16, 0)), .inl x3]) (st' := [.inl 0]) (σ' := σ) rfl).trans ?_
  exact Rx_ret rfl rfl
set_option maxRecDepth 100000 in
theorem r_L_law_1075 (x3 : Int) (σ : St) (h0 : 0 ≤ (wr (x3 + 1))) (h1 : (wr (x3 + 1)) < σ 32 1 0) (h2 : 0 ≤ (wr (x3 + 2))) (h3 : (wr (x3 + 2)) < σ 32 1 0) (h4 : 0 ≤ (wr (x3 + 3))) (h5 : (wr (x3 + 3)) < σ 32 1 0) (h6 : 0 ≤ (wr (x3 + 4))) (h7 : (wr (x3 + 4)) < σ 32 1 0) : Rx k_L_law 1075 [.inr (.inl (32, 0)), .inr (.inl (0, 0)), .inr (.inl (16, 0)), .inl x3] [] σ = (Rx k_X4_draught 0 [.inr (.inl (0, 0)), .inl (σ 32 0 (wr (x3 + 1)).toNat), .inl (σ 32 0 (wr (x3 + 2)).toNat), .inl (σ 32 0 (wr (x3 + 3)).toNat), .inl (σ 32 0 (wr (x3 + 4)).toNat), uns, uns, uns, uns, uns, uns, uns] [] σ).bind fun q => Rx k_L_law 1099 [.inr (.inl (32, 0)), .inr (.inl (0, 0)), .inr (.inl (16, 0)), .inl x3] (q.1.toList ++ []) q.2 := by
  refine (Rx_N (k := 5) (pc' := 1080) (ls' := [.inr (.inl (32, 0)), .inr (.inl (0, 0)), .inr (.inl (16, 0)), .inl x3]) (st' := [.inl (wr (x3 + 1)), .inr (.inl (32, 0)), .inr (.inl (0, 0))]) (σ' := σ) rfl).trans ?_
  refine (Rx_sld rfl h0 h1).trans ?_
  refine (Rx_N (k := 4) (pc' := 1085) (ls' := [.inr (.inl (32, 0)), .inr (.inl (0, 0)), .inr (.inl (16, 0)), .inl x3]) (st' := [.inl (wr (x3 + 2)), .inr (.inl (32, 0)), .inl (σ 32 0 (wr (x3 + 1)).toNat), .inr (.inl (0, 0))]) (σ' := σ) rfl).trans ?_
  refine (Rx_sld rfl h2 h3).trans ?_
  refine (Rx_N (k := 4) (pc' := 1090) (ls' := [.inr (.inl (32, 0)), .inr (.inl (0, 0)), .inr (.inl (16, 0)), .inl x3]) (st' := [.inl (wr (x3 + 3)), .inr (.inl (32, 0)), .inl (σ 32 0 (wr (x3 + 2)).toNat), .inl (σ 32 0 (wr (x3 + 1)).toNat), .inr (.inl (0, 0))]) (σ' := σ) rfl).trans ?_
  refine (Rx_sld rfl h4 h5).trans ?_
  refine (Rx_N (k := 4) (pc' := 1095) (ls' := [.inr (.inl (32, 0)), .inr (.inl (0, 0)), .inr (.inl (16, 0)), .inl x3]) (st' := [.inl (wr (x3 + 4)), .inr (.inl (32, 0)), .inl (σ 32 0 (wr (x3 + 3)).toNat), .inl (σ 32 0 (wr (x3 + 2)).toNat), .inl (σ 32 0 (wr (x3 + 1)).toNat), .inr (.inl (0, 0))]) (σ' := σ) rfl).trans ?_
  refine (Rx_sld rfl h6 h7).trans ?_
  exact Rx_call (n := 3) (y' := k_X4_draught) (as := [.inr (.inl (0, 0)), .inl (σ 32 0 (wr (x3 + 1)).toNat), .inl (σ 32 0 (wr (x3 + 2)).toNat), .inl (σ 32 0 (wr (x3 + 3)).toNat), .inl (σ 32 0 (wr (x3 + 4)).toNat)]) (rest := []) rfl rfl rfl
set_option maxRecDepth 100000 in
theorem b_L_law_1075 (x3 : Int) (σ : St) (h0 : 0 ≤ (x3 + 1)) (h1 : (x3 + 1) < σ 32 1 0) (h2 : 0 ≤ (x3 + 2)) (h3 : (x3 + 2) < σ 32 1 0) (h4 : 0 ≤ (x3 + 3)) (h5 : (x3 + 3) < σ 32 1 0) (h6 : 0 ≤ (x3 + 4)) (h7 : (x3 + 4) < σ 32 1 0) (g0a : -2147483648 ≤ (x3 + 1)) (g0b : (x3 + 1) < 2147483648) (g1a : -2147483648 ≤ (x3 + 2)) (g1b : (x3 + 2) < 2147483648) (g2a : -2147483648 ≤ (x3 + 3)) (g2b : (x3 + 3) < 2147483648) (g3a : -2147483648 ≤ (x3 + 4)) (g3b : (x3 + 4) < 2147483648) : Rx k_L_law 1075 [.inr (.inl (32, 0)), .inr (.inl (0, 0)), .inr (.inl (16, 0)), .inl x3] [] σ = (Rx k_X4_draught 0 [.inr (.inl (0, 0)), .inl (σ 32 0 (x3 + 1).toNat), .inl (σ 32 0 (x3 + 2).toNat), .inl (σ 32 0 (x3 + 3).toNat), .inl (σ 32 0 (x3 + 4).toNat), uns, uns, uns, uns, uns, uns, uns] [] σ).bind fun q => Rx k_L_law 1099 [.inr (.inl (32, 0)), .inr (.inl (0, 0)), .inr (.inl (16, 0)), .inl x3] (q.1.toList ++ []) q.2 := by
  have e0 := wr_id (x := (x3 + 1)) g0a g0b
  have e1 := wr_id (x := (x3 + 2)) g1a g1b
  have e2 := wr_id (x := (x3 + 3)) g2a g2b
  have e3 := wr_id (x := (x3 + 4)) g3a g3b
  have raw := r_L_law_1075 x3 σ (by simp only [e0, e1, e2, e3]; exact h0) (by simp only [e0, e1, e2, e3]; exact h1) (by simp only [e0, e1, e2, e3]; exact h2) (by simp only [e0, e1, e2, e3]; exact h3) (by simp only [e0, e1, e2, e3]; exact h4) (by simp only [e0, e1, e2, e3]; exact h5) (by simp only [e0, e1, e2, e3]; exact h6) (by simp only [e0, e1, e2, e3]; exact h7)
  simp only [e0, e1, e2, e3] at raw
  exact raw
set_option maxRecDepth 100000 in
theorem r_L_law_1099 (x3 : Int) (t0 : Int) (σ : St) (h0 : 0 ≤ (wr (x3 + 1))) (h1 : (wr (x3 + 1)) < σ 32 1 0) (h2 : 0 ≤ (wr (x3 + 2))) (h3 : (wr (x3 + 2)) < σ 32 1 0) (h4 : 0 ≤ (wr (x3 + 3))) (h5 : (wr (x3 + 3)) < σ 32 1 0) (h6 : 0 ≤ (wr (x3 + 4))) (h7 : (wr (x3 + 4)) < σ 32 1 0) : Rx k_L_law 1099 [.inr (.inl (32, 0)), .inr (.inl (0, 0)), .inr (.inl (16, 0)), .inl x3] [.inr (.inr t0)] σ = (Rx k_X5_draught 0 [.inr (.inl (16, 0)), .inl (σ 32 0 (wr (x3 + 1)).toNat), .inl (σ 32 0 (wr (x3 + 2)).toNat), .inl (σ 32 0 (wr (x3 + 3)).toNat), .inl (σ 32 0 (wr (x3 + 4)).toNat), uns, uns, uns, uns, uns, uns, uns, uns, uns] [] σ).bind fun q => Rx k_L_law 1123 [.inr (.inl (32, 0)), .inr (.inl (0, 0)), .inr (.inl (16, 0)), .inl x3] (q.1.toList ++ [.inr (.inr t0)]) q.2 := by
  refine (Rx_N (k := 5) (pc' := 1104) (ls' := [.inr (.inl (32, 0)), .inr (.inl (0, 0)), .inr (.inl (16, 0)), .inl x3]) (st' := [.inl (wr (x3 + 1)), .inr (.inl (32, 0)), .inr (.inl (16, 0)), .inr (.inr t0)]) (σ' := σ) rfl).trans ?_
  refine (Rx_sld rfl h0 h1).trans ?_
  refine (Rx_N (k := 4) (pc' := 1109) (ls' := [.inr (.inl (32, 0)), .inr (.inl (0, 0)), .inr (.inl (16, 0)), .inl x3]) (st' := [.inl (wr (x3 + 2)), .inr (.inl (32, 0)), .inl (σ 32 0 (wr (x3 + 1)).toNat), .inr (.inl (16, 0)), .inr (.inr t0)]) (σ' := σ) rfl).trans ?_
  refine (Rx_sld rfl h2 h3).trans ?_
  refine (Rx_N (k := 4) (pc' := 1114) (ls' := [.inr (.inl (32, 0)), .inr (.inl (0, 0)), .inr (.inl (16, 0)), .inl x3]) (st' := [.inl (wr (x3 + 3)), .inr (.inl (32, 0)), .inl (σ 32 0 (wr (x3 + 2)).toNat), .inl (σ 32 0 (wr (x3 + 1)).toNat), .inr (.inl (16, 0)), .inr (.inr t0)]) (σ' := σ) rfl).trans ?_
  refine (Rx_sld rfl h4 h5).trans ?_
  refine (Rx_N (k := 4) (pc' := 1119) (ls' := [.inr (.inl (32, 0)), .inr (.inl (0, 0)), .inr (.inl (16, 0)), .inl x3]) (st' := [.inl (wr (x3 + 4)), .inr (.inl (32, 0)), .inl (σ 32 0 (wr (x3 + 3)).toNat), .inl (σ 32 0 (wr (x3 + 2)).toNat), .inl (σ 32 0 (wr (x3 + 1)).toNat), .inr (.inl (16, 0)), .inr (.inr t0)]) (σ' := σ) rfl).trans ?_
  refine (Rx_sld rfl h6 h7).trans ?_
  exact Rx_call (n := 3) (y' := k_X5_draught) (as := [.inr (.inl (16, 0)), .inl (σ 32 0 (wr (x3 + 1)).toNat), .inl (σ 32 0 (wr (x3 + 2)).toNat), .inl (σ 32 0 (wr (x3 + 3)).toNat), .inl (σ 32 0 (wr (x3 + 4)).toNat)]) (rest := [.inr (.inr t0)]) rfl rfl rfl
set_option maxRecDepth 100000 in
theorem b_L_law_1099 (x3 : Int) (t0 : Int) (σ : St) (h0 : 0 ≤ (x3 + 1)) (h1 : (x3 + 1) < σ 32 1 0) (h2 : 0 ≤ (x3 + 2)) (h3 : (x3 + 2) < σ 32 1 0) (h4 : 0 ≤ (x3 + 3)) (h5 : (x3 + 3) < σ 32 1 0) (h6 : 0 ≤ (x3 + 4)) (h7 : (x3 + 4) < σ 32 1 0) (g0a : -2147483648 ≤ (x3 + 1)) (g0b : (x3 + 1) < 2147483648) (g1a : -2147483648 ≤ (x3 + 2)) (g1b : (x3 + 2) < 2147483648) (g2a : -2147483648 ≤ (x3 + 3)) (g2b : (x3 + 3) < 2147483648) (g3a : -2147483648 ≤ (x3 + 4)) (g3b : (x3 + 4) < 2147483648) : Rx k_L_law 1099 [.inr (.inl (32, 0)), .inr (.inl (0, 0)), .inr (.inl (16, 0)), .inl x3] [.inr (.inr t0)] σ = (Rx k_X5_draught 0 [.inr (.inl (16, 0)), .inl (σ 32 0 (x3 + 1).toNat), .inl (σ 32 0 (x3 + 2).toNat), .inl (σ 32 0 (x3 + 3).toNat), .inl (σ 32 0 (x3 + 4).toNat), uns, uns, uns, uns, uns, uns, uns, uns, uns] [] σ).bind fun q => Rx k_L_law 1123 [.inr (.inl (32, 0)), .inr (.inl (0, 0)), .inr (.inl (16, 0)), .inl x3] (q.1.toList ++ [.inr (.inr t0)]) q.2 := by
  have e0 := wr_id (x := (x3 + 1)) g0a g0b
  have e1 := wr_id (x := (x3 + 2)) g1a g1b
  have e2 := wr_id (x := (x3 + 3)) g2a g2b
  have e3 := wr_id (x := (x3 + 4)) g3a g3b
  have raw := r_L_law_1099 x3 t0 σ (by simp only [e0, e1, e2, e3]; exact h0) (by simp only [e0, e1, e2, e3]; exact h1) (by simp only [e0, e1, e2, e3]; exact h2) (by simp only [e0, e1, e2, e3]; exact h3) (by simp only [e0, e1, e2, e3]; exact h4) (by simp only [e0, e1, e2, e3]; exact h5) (by simp only [e0, e1, e2, e3]; exact h6) (by simp only [e0, e1, e2, e3]; exact h7)
  simp only [e0, e1, e2, e3] at raw
  exact raw
set_option maxRecDepth 100000 in
theorem b_L_law_1123 (x3 : Int) (t1 : Int) (t0 : Int) (σ : St) : Rx k_L_law 1123 [.inr (.inl (32, 0)), .inr (.inl (0, 0)), .inr (.inl (16, 0)), .inl x3] [.inr (.inr t1), .inr (.inr t0)] σ = if (if t1 < t0 then 1 else if t0 = t1 then 0 else -1) = 0 then Rx k_L_law 1346 [.inr (.inl (32, 0)), .inr (.inl (0, 0)), .inr (.inl (16, 0)), .inl x3] [] σ else Rx k_L_law 1127 [.inr (.inl (32, 0)), .inr (.inl (0, 0)), .inr (.inl (16, 0)), .inl x3] [] σ := by
  exact Rx_eq0 (k := 2) rfl
set_option maxRecDepth 100000 in
theorem b_L_law_1127 (x3 : Int) (σ : St) : Rx k_L_law 1127 [.inr (.inl (32, 0)), .inr (.inl (0, 0)), .inr (.inl (16, 0)), .inl x3] [] σ = some (some (.inl 0), σ) := by
  refine (Rx_N (k := 1) (pc' := 1128) (ls' := [.inr (.inl (32, 0)), .inr (.inl (0, 0)), .inr (.inl (16, 0)), .inl x3]) (st' := [.inl 0]) (σ' := σ) rfl).trans ?_
  exact Rx_ret rfl rfl
set_option maxRecDepth 100000 in
theorem r_L_law_1129 (x3 : Int) (σ : St) (h0 : 0 ≤ (wr (x3 + 1))) (h1 : (wr (x3 + 1)) < σ 32 1 0) (h2 : 0 ≤ (wr (x3 + 2))) (h3 : (wr (x3 + 2)) < σ 32 1 0) (h4 : 0 ≤ (wr (x3 + 3))) (h5 : (wr (x3 + 3)) < σ 32 1 0) : Rx k_L_law 1129 [.inr (.inl (32, 0)), .inr (.inl (0, 0)), .inr (.inl (16, 0)), .inl x3] [] σ = (Rx k_X4_two 0 [.inr (.inl (0, 0)), .inl (σ 32 0 (wr (x3 + 1)).toNat), .inl (σ 32 0 (wr (x3 + 2)).toNat), .inl (σ 32 0 (wr (x3 + 3)).toNat), uns] [] σ).bind fun q => Rx k_L_law 1148 [.inr (.inl (32, 0)), .inr (.inl (0, 0)), .inr (.inl (16, 0)), .inl x3] (q.1.toList ++ []) q.2 := by
  refine (Rx_N (k := 5) (pc' := 1134) (ls' := [.inr (.inl (32, 0)), .inr (.inl (0, 0)), .inr (.inl (16, 0)), .inl x3]) (st' := [.inl (wr (x3 + 1)), .inr (.inl (32, 0)), .inr (.inl (0, 0))]) (σ' := σ) rfl).trans ?_
  refine (Rx_sld rfl h0 h1).trans ?_
  refine (Rx_N (k := 4) (pc' := 1139) (ls' := [.inr (.inl (32, 0)), .inr (.inl (0, 0)), .inr (.inl (16, 0)), .inl x3]) (st' := [.inl (wr (x3 + 2)), .inr (.inl (32, 0)), .inl (σ 32 0 (wr (x3 + 1)).toNat), .inr (.inl (0, 0))]) (σ' := σ) rfl).trans ?_
  refine (Rx_sld rfl h2 h3).trans ?_
  refine (Rx_N (k := 4) (pc' := 1144) (ls' := [.inr (.inl (32, 0)), .inr (.inl (0, 0)), .inr (.inl (16, 0)), .inl x3]) (st' := [.inl (wr (x3 + 3)), .inr (.inl (32, 0)), .inl (σ 32 0 (wr (x3 + 2)).toNat), .inl (σ 32 0 (wr (x3 + 1)).toNat), .inr (.inl (0, 0))]) (σ' := σ) rfl).trans ?_
  refine (Rx_sld rfl h4 h5).trans ?_
  exact Rx_call (n := 3) (y' := k_X4_two) (as := [.inr (.inl (0, 0)), .inl (σ 32 0 (wr (x3 + 1)).toNat), .inl (σ 32 0 (wr (x3 + 2)).toNat), .inl (σ 32 0 (wr (x3 + 3)).toNat)]) (rest := []) rfl rfl rfl
set_option maxRecDepth 100000 in
theorem b_L_law_1129 (x3 : Int) (σ : St) (h0 : 0 ≤ (x3 + 1)) (h1 : (x3 + 1) < σ 32 1 0) (h2 : 0 ≤ (x3 + 2)) (h3 : (x3 + 2) < σ 32 1 0) (h4 : 0 ≤ (x3 + 3)) (h5 : (x3 + 3) < σ 32 1 0) (g0a : -2147483648 ≤ (x3 + 1)) (g0b : (x3 + 1) < 2147483648) (g1a : -2147483648 ≤ (x3 + 2)) (g1b : (x3 + 2) < 2147483648) (g2a : -2147483648 ≤ (x3 + 3)) (g2b : (x3 + 3) < 2147483648) : Rx k_L_law 1129 [.inr (.inl (32, 0)), .inr (.inl (0, 0)), .inr (.inl (16, 0)), .inl x3] [] σ = (Rx k_X4_two 0 [.inr (.inl (0, 0)), .inl (σ 32 0 (x3 + 1).toNat), .inl (σ 32 0 (x3 + 2).toNat), .inl (σ 32 0 (x3 + 3).toNat), uns] [] σ).bind fun q => Rx k_L_law 1148 [.inr (.inl (32, 0)), .inr (.inl (0, 0)), .inr (.inl (16, 0)), .inl x3] (q.1.toList ++ []) q.2 := by
  have e0 := wr_id (x := (x3 + 1)) g0a g0b
  have e1 := wr_id (x := (x3 + 2)) g1a g1b
  have e2 := wr_id (x := (x3 + 3)) g2a g2b
  have raw := r_L_law_1129 x3 σ (by simp only [e0, e1, e2]; exact h0) (by simp only [e0, e1, e2]; exact h1) (by simp only [e0, e1, e2]; exact h2) (by simp only [e0, e1, e2]; exact h3) (by simp only [e0, e1, e2]; exact h4) (by simp only [e0, e1, e2]; exact h5)
  simp only [e0, e1, e2] at raw
  exact raw
set_option maxRecDepth 100000 in
theorem r_L_law_1148 (x3 : Int) (s0 : Int) (σ : St) (h0 : 0 ≤ (wr (x3 + 1))) (h1 : (wr (x3 + 1)) < σ 32 1 0) (h2 : 0 ≤ (wr (x3 + 2))) (h3 : (wr (x3 + 2)) < σ 32 1 0) (h4 : 0 ≤ (wr (x3 + 3))) (h5 : (wr (x3 + 3)) < σ 32 1 0) : Rx k_L_law 1148 [.inr (.inl (32, 0)), .inr (.inl (0, 0)), .inr (.inl (16, 0)), .inl x3] [.inl s0] σ = (Rx k_X5_two 0 [.inr (.inl (16, 0)), .inl (σ 32 0 (wr (x3 + 1)).toNat), .inl (σ 32 0 (wr (x3 + 2)).toNat), .inl (σ 32 0 (wr (x3 + 3)).toNat), uns, uns, uns, uns, uns] [] σ).bind fun q => Rx k_L_law 1167 [.inr (.inl (32, 0)), .inr (.inl (0, 0)), .inr (.inl (16, 0)), .inl x3] (q.1.toList ++ [.inl s0]) q.2 := by
  refine (Rx_N (k := 5) (pc' := 1153) (ls' := [.inr (.inl (32, 0)), .inr (.inl (0, 0)), .inr (.inl (16, 0)), .inl x3]) (st' := [.inl (wr (x3 + 1)), .inr (.inl (32, 0)), .inr (.inl (16, 0)), .inl s0]) (σ' := σ) rfl).trans ?_
  refine (Rx_sld rfl h0 h1).trans ?_
  refine (Rx_N (k := 4) (pc' := 1158) (ls' := [.inr (.inl (32, 0)), .inr (.inl (0, 0)), .inr (.inl (16, 0)), .inl x3]) (st' := [.inl (wr (x3 + 2)), .inr (.inl (32, 0)), .inl (σ 32 0 (wr (x3 + 1)).toNat), .inr (.inl (16, 0)), .inl s0]) (σ' := σ) rfl).trans ?_
  refine (Rx_sld rfl h2 h3).trans ?_
  refine (Rx_N (k := 4) (pc' := 1163) (ls' := [.inr (.inl (32, 0)), .inr (.inl (0, 0)), .inr (.inl (16, 0)), .inl x3]) (st' := [.inl (wr (x3 + 3)), .inr (.inl (32, 0)), .inl (σ 32 0 (wr (x3 + 2)).toNat), .inl (σ 32 0 (wr (x3 + 1)).toNat), .inr (.inl (16, 0)), .inl s0]) (σ' := σ) rfl).trans ?_
  refine (Rx_sld rfl h4 h5).trans ?_
  exact Rx_call (n := 3) (y' := k_X5_two) (as := [.inr (.inl (16, 0)), .inl (σ 32 0 (wr (x3 + 1)).toNat), .inl (σ 32 0 (wr (x3 + 2)).toNat), .inl (σ 32 0 (wr (x3 + 3)).toNat)]) (rest := [.inl s0]) rfl rfl rfl
set_option maxRecDepth 100000 in
theorem b_L_law_1148 (x3 : Int) (s0 : Int) (σ : St) (h0 : 0 ≤ (x3 + 1)) (h1 : (x3 + 1) < σ 32 1 0) (h2 : 0 ≤ (x3 + 2)) (h3 : (x3 + 2) < σ 32 1 0) (h4 : 0 ≤ (x3 + 3)) (h5 : (x3 + 3) < σ 32 1 0) (g0a : -2147483648 ≤ (x3 + 1)) (g0b : (x3 + 1) < 2147483648) (g1a : -2147483648 ≤ (x3 + 2)) (g1b : (x3 + 2) < 2147483648) (g2a : -2147483648 ≤ (x3 + 3)) (g2b : (x3 + 3) < 2147483648) : Rx k_L_law 1148 [.inr (.inl (32, 0)), .inr (.inl (0, 0)), .inr (.inl (16, 0)), .inl x3] [.inl s0] σ = (Rx k_X5_two 0 [.inr (.inl (16, 0)), .inl (σ 32 0 (x3 + 1).toNat), .inl (σ 32 0 (x3 + 2).toNat), .inl (σ 32 0 (x3 + 3).toNat), uns, uns, uns, uns, uns] [] σ).bind fun q => Rx k_L_law 1167 [.inr (.inl (32, 0)), .inr (.inl (0, 0)), .inr (.inl (16, 0)), .inl x3] (q.1.toList ++ [.inl s0]) q.2 := by
  have e0 := wr_id (x := (x3 + 1)) g0a g0b
  have e1 := wr_id (x := (x3 + 2)) g1a g1b
  have e2 := wr_id (x := (x3 + 3)) g2a g2b
  have raw := r_L_law_1148 x3 s0 σ (by simp only [e0, e1, e2]; exact h0) (by simp only [e0, e1, e2]; exact h1) (by simp only [e0, e1, e2]; exact h2) (by simp only [e0, e1, e2]; exact h3) (by simp only [e0, e1, e2]; exact h4) (by simp only [e0, e1, e2]; exact h5)
  simp only [e0, e1, e2] at raw
  exact raw
set_option maxRecDepth 100000 in
theorem b_L_law_1167 (x3 : Int) (s1 : Int) (s0 : Int) (σ : St) : Rx k_L_law 1167 [.inr (.inl (32, 0)), .inr (.inl (0, 0)), .inr (.inl (16, 0)), .inl x3] [.inl s1, .inl s0] σ = if s0 = s1 then Rx k_L_law 1346 [.inr (.inl (32, 0)), .inr (.inl (0, 0)), .inr (.inl (16, 0)), .inl x3] [] σ else Rx k_L_law 1170 [.inr (.inl (32, 0)), .inr (.inl (0, 0)), .inr (.inl (16, 0)), .inl x3] [] σ := by
  exact Rx_eq0 (k := 1) rfl
set_option maxRecDepth 100000 in
theorem b_L_law_1170 (x3 : Int) (σ : St) : Rx k_L_law 1170 [.inr (.inl (32, 0)), .inr (.inl (0, 0)), .inr (.inl (16, 0)), .inl x3] [] σ = some (some (.inl 0), σ) := by
  refine (Rx_N (k := 1) (pc' := 1171) (ls' := [.inr (.inl (32, 0)), .inr (.inl (0, 0)), .inr (.inl (16, 0)), .inl x3]) (st' := [.inl 0]) (σ' := σ) rfl).trans ?_
  exact Rx_ret rfl rfl
set_option maxRecDepth 100000 in
theorem r_L_law_1172 (x3 : Int) (σ : St) (h0 : 0 ≤ (wr (x3 + 1))) (h1 : (wr (x3 + 1)) < σ 32 1 0) (h2 : 0 ≤ (wr (x3 + 2))) (h3 : (wr (x3 + 2)) < σ 32 1 0) : Rx k_L_law 1172 [.inr (.inl (32, 0)), .inr (.inl (0, 0)), .inr (.inl (16, 0)), .inl x3] [] σ = (Rx k_X4_whatWas 0 [.inr (.inl (0, 0)), .inl (σ 32 0 (wr (x3 + 1)).toNat), .inl (σ 32 0 (wr (x3 + 2)).toNat)] [] σ).bind fun q => Rx k_L_law 1186 [.inr (.inl (32, 0)), .inr (.inl (0, 0)), .inr (.inl (16, 0)), .inl x3] (q.1.toList ++ []) q.2 := by
  refine (Rx_N (k := 5) (pc' := 1177) (ls' := [.inr (.inl (32, 0)), .inr (.inl (0, 0)), .inr (.inl (16, 0)), .inl x3]) (st' := [.inl (wr (x3 + 1)), .inr (.inl (32, 0)), .inr (.inl (0, 0))]) (σ' := σ) rfl).trans ?_
  refine (Rx_sld rfl h0 h1).trans ?_
  refine (Rx_N (k := 4) (pc' := 1182) (ls' := [.inr (.inl (32, 0)), .inr (.inl (0, 0)), .inr (.inl (16, 0)), .inl x3]) (st' := [.inl (wr (x3 + 2)), .inr (.inl (32, 0)), .inl (σ 32 0 (wr (x3 + 1)).toNat), .inr (.inl (0, 0))]) (σ' := σ) rfl).trans ?_
  refine (Rx_sld rfl h2 h3).trans ?_
  exact Rx_call (n := 3) (y' := k_X4_whatWas) (as := [.inr (.inl (0, 0)), .inl (σ 32 0 (wr (x3 + 1)).toNat), .inl (σ 32 0 (wr (x3 + 2)).toNat)]) (rest := []) rfl rfl rfl
set_option maxRecDepth 100000 in
theorem b_L_law_1172 (x3 : Int) (σ : St) (h0 : 0 ≤ (x3 + 1)) (h1 : (x3 + 1) < σ 32 1 0) (h2 : 0 ≤ (x3 + 2)) (h3 : (x3 + 2) < σ 32 1 0) (g0a : -2147483648 ≤ (x3 + 1)) (g0b : (x3 + 1) < 2147483648) (g1a : -2147483648 ≤ (x3 + 2)) (g1b : (x3 + 2) < 2147483648) : Rx k_L_law 1172 [.inr (.inl (32, 0)), .inr (.inl (0, 0)), .inr (.inl (16, 0)), .inl x3] [] σ = (Rx k_X4_whatWas 0 [.inr (.inl (0, 0)), .inl (σ 32 0 (x3 + 1).toNat), .inl (σ 32 0 (x3 + 2).toNat)] [] σ).bind fun q => Rx k_L_law 1186 [.inr (.inl (32, 0)), .inr (.inl (0, 0)), .inr (.inl (16, 0)), .inl x3] (q.1.toList ++ []) q.2 := by
  have e0 := wr_id (x := (x3 + 1)) g0a g0b
  have e1 := wr_id (x := (x3 + 2)) g1a g1b
  have raw := r_L_law_1172 x3 σ (by simp only [e0, e1]; exact h0) (by simp only [e0, e1]; exact h1) (by simp only [e0, e1]; exact h2) (by simp only [e0, e1]; exact h3)
  simp only [e0, e1] at raw
  exact raw
set_option maxRecDepth 100000 in
theorem r_L_law_1186 (x3 : Int) (s0 : Int) (σ : St) (h0 : 0 ≤ (wr (x3 + 1))) (h1 : (wr (x3 + 1)) < σ 32 1 0) (h2 : 0 ≤ (wr (x3 + 2))) (h3 : (wr (x3 + 2)) < σ 32 1 0) : Rx k_L_law 1186 [.inr (.inl (32, 0)), .inr (.inl (0, 0)), .inr (.inl (16, 0)), .inl x3] [.inl s0] σ = (Rx k_X5_whatWas 0 [.inr (.inl (16, 0)), .inl (σ 32 0 (wr (x3 + 1)).toNat), .inl (σ 32 0 (wr (x3 + 2)).toNat), uns, uns, uns, uns] [] σ).bind fun q => Rx k_L_law 1200 [.inr (.inl (32, 0)), .inr (.inl (0, 0)), .inr (.inl (16, 0)), .inl x3] (q.1.toList ++ [.inl s0]) q.2 := by
  refine (Rx_N (k := 5) (pc' := 1191) (ls' := [.inr (.inl (32, 0)), .inr (.inl (0, 0)), .inr (.inl (16, 0)), .inl x3]) (st' := [.inl (wr (x3 + 1)), .inr (.inl (32, 0)), .inr (.inl (16, 0)), .inl s0]) (σ' := σ) rfl).trans ?_
  refine (Rx_sld rfl h0 h1).trans ?_
  refine (Rx_N (k := 4) (pc' := 1196) (ls' := [.inr (.inl (32, 0)), .inr (.inl (0, 0)), .inr (.inl (16, 0)), .inl x3]) (st' := [.inl (wr (x3 + 2)), .inr (.inl (32, 0)), .inl (σ 32 0 (wr (x3 + 1)).toNat), .inr (.inl (16, 0)), .inl s0]) (σ' := σ) rfl).trans ?_
  refine (Rx_sld rfl h2 h3).trans ?_
  exact Rx_call (n := 3) (y' := k_X5_whatWas) (as := [.inr (.inl (16, 0)), .inl (σ 32 0 (wr (x3 + 1)).toNat), .inl (σ 32 0 (wr (x3 + 2)).toNat)]) (rest := [.inl s0]) rfl rfl rfl
set_option maxRecDepth 100000 in
theorem b_L_law_1186 (x3 : Int) (s0 : Int) (σ : St) (h0 : 0 ≤ (x3 + 1)) (h1 : (x3 + 1) < σ 32 1 0) (h2 : 0 ≤ (x3 + 2)) (h3 : (x3 + 2) < σ 32 1 0) (g0a : -2147483648 ≤ (x3 + 1)) (g0b : (x3 + 1) < 2147483648) (g1a : -2147483648 ≤ (x3 + 2)) (g1b : (x3 + 2) < 2147483648) : Rx k_L_law 1186 [.inr (.inl (32, 0)), .inr (.inl (0, 0)), .inr (.inl (16, 0)), .inl x3] [.inl s0] σ = (Rx k_X5_whatWas 0 [.inr (.inl (16, 0)), .inl (σ 32 0 (x3 + 1).toNat), .inl (σ 32 0 (x3 + 2).toNat), uns, uns, uns, uns] [] σ).bind fun q => Rx k_L_law 1200 [.inr (.inl (32, 0)), .inr (.inl (0, 0)), .inr (.inl (16, 0)), .inl x3] (q.1.toList ++ [.inl s0]) q.2 := by
  have e0 := wr_id (x := (x3 + 1)) g0a g0b
  have e1 := wr_id (x := (x3 + 2)) g1a g1b
  have raw := r_L_law_1186 x3 s0 σ (by simp only [e0, e1]; exact h0) (by simp only [e0, e1]; exact h1) (by simp only [e0, e1]; exact h2) (by simp only [e0, e1]; exact h3)
  simp only [e0, e1] at raw
  exact raw
set_option maxRecDepth 100000 in
theorem b_L_law_1200 (x3 : Int) (s1 : Int) (s0 : Int) (σ : St) : Rx k_L_law 1200 [.inr (.inl (32, 0)), .inr (.inl (0, 0)), .inr (.inl (16, 0)), .inl x3] [.inl s1, .inl s0] σ = if s0 = s1 then Rx k_L_law 1346 [.inr (.inl (32, 0)), .inr (.inl (0, 0)), .inr (.inl (16, 0)), .inl x3] [] σ else Rx k_L_law 1203 [.inr (.inl (32, 0)), .inr (.inl (0, 0)), .inr (.inl (16, 0)), .inl x3] [] σ := by
  exact Rx_eq0 (k := 1) rfl
set_option maxRecDepth 100000 in
theorem b_L_law_1203 (x3 : Int) (σ : St) : Rx k_L_law 1203 [.inr (.inl (32, 0)), .inr (.inl (0, 0)), .inr (.inl (16, 0)), .inl x3] [] σ = some (some (.inl 0), σ) := by
  refine (Rx_N (k := 1) (pc' := 1204) (ls' := [.inr (.inl (32, 0)), .inr (.inl (0, 0)), .inr (.inl (16, 0)), .inl x3]) (st' := [.inl 0]) (σ' := σ) rfl).trans ?_
  exact Rx_ret rfl rfl
set_option maxRecDepth 100000 in
theorem r_L_law_1205 (x3 : Int) (σ : St) (h0 : 0 ≤ (wr (x3 + 1))) (h1 : (wr (x3 + 1)) < σ 32 1 0) : Rx k_L_law 1205 [.inr (.inl (32, 0)), .inr (.inl (0, 0)), .inr (.inl (16, 0)), .inl x3] [] σ = (Rx k_X4_row 0 [.inr (.inl (0, 0)), .inl (σ 32 0 (wr (x3 + 1)).toNat), uns] [] σ).bind fun q => Rx k_L_law 1214 [.inr (.inl (32, 0)), .inr (.inl (0, 0)), .inr (.inl (16, 0)), .inl x3] (q.1.toList ++ []) q.2 := by
  refine (Rx_N (k := 5) (pc' := 1210) (ls' := [.inr (.inl (32, 0)), .inr (.inl (0, 0)), .inr (.inl (16, 0)), .inl x3]) (st' := [.inl (wr (x3 + 1)), .inr (.inl (32, 0)), .inr (.inl (0, 0))]) (σ' := σ) rfl).trans ?_
  refine (Rx_sld rfl h0 h1).trans ?_
  exact Rx_call (n := 3) (y' := k_X4_row) (as := [.inr (.inl (0, 0)), .inl (σ 32 0 (wr (x3 + 1)).toNat)]) (rest := []) rfl rfl rfl
set_option maxRecDepth 100000 in
theorem b_L_law_1205 (x3 : Int) (σ : St) (h0 : 0 ≤ (x3 + 1)) (h1 : (x3 + 1) < σ 32 1 0) (g0a : -2147483648 ≤ (x3 + 1)) (g0b : (x3 + 1) < 2147483648) : Rx k_L_law 1205 [.inr (.inl (32, 0)), .inr (.inl (0, 0)), .inr (.inl (16, 0)), .inl x3] [] σ = (Rx k_X4_row 0 [.inr (.inl (0, 0)), .inl (σ 32 0 (x3 + 1).toNat), uns] [] σ).bind fun q => Rx k_L_law 1214 [.inr (.inl (32, 0)), .inr (.inl (0, 0)), .inr (.inl (16, 0)), .inl x3] (q.1.toList ++ []) q.2 := by
  have e0 := wr_id (x := (x3 + 1)) g0a g0b
  have raw := r_L_law_1205 x3 σ (by simp only [e0]; exact h0) (by simp only [e0]; exact h1)
  simp only [e0] at raw
  exact raw
set_option maxRecDepth 100000 in
theorem r_L_law_1214 (x3 : Int) (s0 : Int) (σ : St) (h0 : 0 ≤ (wr (x3 + 1))) (h1 : (wr (x3 + 1)) < σ 32 1 0) : Rx k_L_law 1214 [.inr (.inl (32, 0)), .inr (.inl (0, 0)), .inr (.inl (16, 0)), .inl x3] [.inl s0] σ = (Rx k_X5_row 0 [.inr (.inl (16, 0)), .inl (σ 32 0 (wr (x3 + 1)).toNat), uns] [] σ).bind fun q => Rx k_L_law 1223 [.inr (.inl (32, 0)), .inr (.inl (0, 0)), .inr (.inl (16, 0)), .inl x3] (q.1.toList ++ [.inl s0]) q.2 := by
  refine (Rx_N (k := 5) (pc' := 1219) (ls' := [.inr (.inl (32, 0)), .inr (.inl (0, 0)), .inr (.inl (16, 0)), .inl x3]) (st' := [.inl (wr (x3 + 1)), .inr (.inl (32, 0)), .inr (.inl (16, 0)), .inl s0]) (σ' := σ) rfl).trans ?_
  refine (Rx_sld rfl h0 h1).trans ?_
  exact Rx_call (n := 3) (y' := k_X5_row) (as := [.inr (.inl (16, 0)), .inl (σ 32 0 (wr (x3 + 1)).toNat)]) (rest := [.inl s0]) rfl rfl rfl
set_option maxRecDepth 100000 in
theorem b_L_law_1214 (x3 : Int) (s0 : Int) (σ : St) (h0 : 0 ≤ (x3 + 1)) (h1 : (x3 + 1) < σ 32 1 0) (g0a : -2147483648 ≤ (x3 + 1)) (g0b : (x3 + 1) < 2147483648) : Rx k_L_law 1214 [.inr (.inl (32, 0)), .inr (.inl (0, 0)), .inr (.inl (16, 0)), .inl x3] [.inl s0] σ = (Rx k_X5_row 0 [.inr (.inl (16, 0)), .inl (σ 32 0 (x3 + 1).toNat), uns] [] σ).bind fun q => Rx k_L_law 1223 [.inr (.inl (32, 0)), .inr (.inl (0, 0)), .inr (.inl (16, 0)), .inl x3] (q.1.toList ++ [.inl s0]) q.2 := by
  have e0 := wr_id (x := (x3 + 1)) g0a g0b
  have raw := r_L_law_1214 x3 s0 σ (by simp only [e0]; exact h0) (by simp only [e0]; exact h1)
  simp only [e0] at raw
  exact raw
set_option maxRecDepth 100000 in
theorem b_L_law_1223 (x3 : Int) (s1 : Int) (s0 : Int) (σ : St) : Rx k_L_law 1223 [.inr (.inl (32, 0)), .inr (.inl (0, 0)), .inr (.inl (16, 0)), .inl x3] [.inl s1, .inl s0] σ = if s0 = s1 then Rx k_L_law 1346 [.inr (.inl (32, 0)), .inr (.inl (0, 0)), .inr (.inl (16, 0)), .inl x3] [] σ else Rx k_L_law 1226 [.inr (.inl (32, 0)), .inr (.inl (0, 0)), .inr (.inl (16, 0)), .inl x3] [] σ := by
  exact Rx_eq0 (k := 1) rfl
set_option maxRecDepth 100000 in
theorem b_L_law_1226 (x3 : Int) (σ : St) : Rx k_L_law 1226 [.inr (.inl (32, 0)), .inr (.inl (0, 0)), .inr (.inl (16, 0)), .inl x3] [] σ = some (some (.inl 0), σ) := by
  refine (Rx_N (k := 1) (pc' := 1227) (ls' := [.inr (.inl (32, 0)), .inr (.inl (0, 0)), .inr (.inl (16, 0)), .inl x3]) (st' := [.inl 0]) (σ' := σ) rfl).trans ?_
  exact Rx_ret rfl rfl
set_option maxRecDepth 100000 in
theorem b_L_law_1228 (x3 : Int) (σ : St) : Rx k_L_law 1228 [.inr (.inl (32, 0)), .inr (.inl (0, 0)), .inr (.inl (16, 0)), .inl x3] [] σ = (Rx k_X4_judge 0 [.inr (.inl (0, 0)), uns] [] σ).bind fun q => Rx k_L_law 1232 [.inr (.inl (32, 0)), .inr (.inl (0, 0)), .inr (.inl (16, 0)), .inl x3] (q.1.toList ++ []) q.2 := by
  refine (Rx_N (k := 1) (pc' := 1229) (ls' := [.inr (.inl (32, 0)), .inr (.inl (0, 0)), .inr (.inl (16, 0)), .inl x3]) (st' := [.inr (.inl (0, 0))]) (σ' := σ) rfl).trans ?_
  exact Rx_call (n := 3) (y' := k_X4_judge) (as := [.inr (.inl (0, 0))]) (rest := []) rfl rfl rfl
set_option maxRecDepth 100000 in
theorem b_L_law_1232 (x3 : Int) (s0 : Int) (σ : St) : Rx k_L_law 1232 [.inr (.inl (32, 0)), .inr (.inl (0, 0)), .inr (.inl (16, 0)), .inl x3] [.inl s0] σ = (Rx k_X5_judge 0 [.inr (.inl (16, 0)), uns, uns] [] σ).bind fun q => Rx k_L_law 1236 [.inr (.inl (32, 0)), .inr (.inl (0, 0)), .inr (.inl (16, 0)), .inl x3] (q.1.toList ++ [.inl s0]) q.2 := by
  refine (Rx_N (k := 1) (pc' := 1233) (ls' := [.inr (.inl (32, 0)), .inr (.inl (0, 0)), .inr (.inl (16, 0)), .inl x3]) (st' := [.inr (.inl (16, 0)), .inl s0]) (σ' := σ) rfl).trans ?_
  exact Rx_call (n := 3) (y' := k_X5_judge) (as := [.inr (.inl (16, 0))]) (rest := [.inl s0]) rfl rfl rfl
set_option maxRecDepth 100000 in
theorem b_L_law_1236 (x3 : Int) (s1 : Int) (s0 : Int) (σ : St) : Rx k_L_law 1236 [.inr (.inl (32, 0)), .inr (.inl (0, 0)), .inr (.inl (16, 0)), .inl x3] [.inl s1, .inl s0] σ = if s0 = s1 then Rx k_L_law 1346 [.inr (.inl (32, 0)), .inr (.inl (0, 0)), .inr (.inl (16, 0)), .inl x3] [] σ else Rx k_L_law 1239 [.inr (.inl (32, 0)), .inr (.inl (0, 0)), .inr (.inl (16, 0)), .inl x3] [] σ := by
  exact Rx_eq0 (k := 1) rfl
set_option maxRecDepth 100000 in
theorem b_L_law_1239 (x3 : Int) (σ : St) : Rx k_L_law 1239 [.inr (.inl (32, 0)), .inr (.inl (0, 0)), .inr (.inl (16, 0)), .inl x3] [] σ = some (some (.inl 0), σ) := by
  refine (Rx_N (k := 1) (pc' := 1240) (ls' := [.inr (.inl (32, 0)), .inr (.inl (0, 0)), .inr (.inl (16, 0)), .inl x3]) (st' := [.inl 0]) (σ' := σ) rfl).trans ?_
  exact Rx_ret rfl rfl
set_option maxRecDepth 100000 in
theorem b_L_law_1241 (x3 : Int) (σ : St) : Rx k_L_law 1241 [.inr (.inl (32, 0)), .inr (.inl (0, 0)), .inr (.inl (16, 0)), .inl x3] [] σ = (Rx k_X4_clear 0 [.inr (.inl (0, 0)), uns] [] σ).bind fun q => Rx k_L_law 1245 [.inr (.inl (32, 0)), .inr (.inl (0, 0)), .inr (.inl (16, 0)), .inl x3] (q.1.toList ++ []) q.2 := by
  refine (Rx_N (k := 1) (pc' := 1242) (ls' := [.inr (.inl (32, 0)), .inr (.inl (0, 0)), .inr (.inl (16, 0)), .inl x3]) (st' := [.inr (.inl (0, 0))]) (σ' := σ) rfl).trans ?_
  exact Rx_call (n := 3) (y' := k_X4_clear) (as := [.inr (.inl (0, 0))]) (rest := []) rfl rfl rfl
set_option maxRecDepth 100000 in
theorem b_L_law_1245 (x3 : Int) (s0 : Int) (σ : St) : Rx k_L_law 1245 [.inr (.inl (32, 0)), .inr (.inl (0, 0)), .inr (.inl (16, 0)), .inl x3] [.inl s0] σ = (Rx k_X5_clear 0 [.inr (.inl (16, 0)), uns] [] σ).bind fun q => Rx k_L_law 1249 [.inr (.inl (32, 0)), .inr (.inl (0, 0)), .inr (.inl (16, 0)), .inl x3] (q.1.toList ++ [.inl s0]) q.2 := by
  refine (Rx_N (k := 1) (pc' := 1246) (ls' := [.inr (.inl (32, 0)), .inr (.inl (0, 0)), .inr (.inl (16, 0)), .inl x3]) (st' := [.inr (.inl (16, 0)), .inl s0]) (σ' := σ) rfl).trans ?_
  exact Rx_call (n := 3) (y' := k_X5_clear) (as := [.inr (.inl (16, 0))]) (rest := [.inl s0]) rfl rfl rfl
set_option maxRecDepth 100000 in
theorem b_L_law_1249 (x3 : Int) (s1 : Int) (s0 : Int) (σ : St) : Rx k_L_law 1249 [.inr (.inl (32, 0)), .inr (.inl (0, 0)), .inr (.inl (16, 0)), .inl x3] [.inl s1, .inl s0] σ = if s0 = s1 then Rx k_L_law 1346 [.inr (.inl (32, 0)), .inr (.inl (0, 0)), .inr (.inl (16, 0)), .inl x3] [] σ else Rx k_L_law 1252 [.inr (.inl (32, 0)), .inr (.inl (0, 0)), .inr (.inl (16, 0)), .inl x3] [] σ := by
  exact Rx_eq0 (k := 1) rfl
set_option maxRecDepth 100000 in
theorem b_L_law_1252 (x3 : Int) (σ : St) : Rx k_L_law 1252 [.inr (.inl (32, 0)), .inr (.inl (0, 0)), .inr (.inl (16, 0)), .inl x3] [] σ = some (some (.inl 0), σ) := by
  refine (Rx_N (k := 1) (pc' := 1253) (ls' := [.inr (.inl (32, 0)), .inr (.inl (0, 0)), .inr (.inl (16, 0)), .inl x3]) (st' := [.inl 0]) (σ' := σ) rfl).trans ?_
  exact Rx_ret rfl rfl
set_option maxRecDepth 100000 in
theorem r_L_law_1254 (x3 : Int) (σ : St) (h0 : 0 ≤ (wr (x3 + 1))) (h1 : (wr (x3 + 1)) < σ 32 1 0) (h2 : 0 ≤ (wr (x3 + 2))) (h3 : (wr (x3 + 2)) < σ 32 1 0) (h4 : 0 ≤ (wr (x3 + 3))) (h5 : (wr (x3 + 3)) < σ 32 1 0) : Rx k_L_law 1254 [.inr (.inl (32, 0)), .inr (.inl (0, 0)), .inr (.inl (16, 0)), .inl x3] [] σ = (Rx k_X4_lots 0 [.inr (.inl (0, 0)), .inl (σ 32 0 (wr (x3 + 1)).toNat), .inl (σ 32 0 (wr (x3 + 2)).toNat), .inl (σ 32 0 (wr (x3 + 3)).toNat), uns] [] σ).bind fun q => Rx k_L_law 1273 [.inr (.inl (32, 0)), .inr (.inl (0, 0)), .inr (.inl (16, 0)), .inl x3] (q.1.toList ++ []) q.2 := by
  refine (Rx_N (k := 5) (pc' := 1259) (ls' := [.inr (.inl (32, 0)), .inr (.inl (0, 0)), .inr (.inl (16, 0)), .inl x3]) (st' := [.inl (wr (x3 + 1)), .inr (.inl (32, 0)), .inr (.inl (0, 0))]) (σ' := σ) rfl).trans ?_
  refine (Rx_sld rfl h0 h1).trans ?_
  refine (Rx_N (k := 4) (pc' := 1264) (ls' := [.inr (.inl (32, 0)), .inr (.inl (0, 0)), .inr (.inl (16, 0)), .inl x3]) (st' := [.inl (wr (x3 + 2)), .inr (.inl (32, 0)), .inl (σ 32 0 (wr (x3 + 1)).toNat), .inr (.inl (0, 0))]) (σ' := σ) rfl).trans ?_
  refine (Rx_sld rfl h2 h3).trans ?_
  refine (Rx_N (k := 4) (pc' := 1269) (ls' := [.inr (.inl (32, 0)), .inr (.inl (0, 0)), .inr (.inl (16, 0)), .inl x3]) (st' := [.inl (wr (x3 + 3)), .inr (.inl (32, 0)), .inl (σ 32 0 (wr (x3 + 2)).toNat), .inl (σ 32 0 (wr (x3 + 1)).toNat), .inr (.inl (0, 0))]) (σ' := σ) rfl).trans ?_
  refine (Rx_sld rfl h4 h5).trans ?_
  exact Rx_call (n := 3) (y' := k_X4_lots) (as := [.inr (.inl (0, 0)), .inl (σ 32 0 (wr (x3 + 1)).toNat), .inl (σ 32 0 (wr (x3 + 2)).toNat), .inl (σ 32 0 (wr (x3 + 3)).toNat)]) (rest := []) rfl rfl rfl
set_option maxRecDepth 100000 in
theorem b_L_law_1254 (x3 : Int) (σ : St) (h0 : 0 ≤ (x3 + 1)) (h1 : (x3 + 1) < σ 32 1 0) (h2 : 0 ≤ (x3 + 2)) (h3 : (x3 + 2) < σ 32 1 0) (h4 : 0 ≤ (x3 + 3)) (h5 : (x3 + 3) < σ 32 1 0) (g0a : -2147483648 ≤ (x3 + 1)) (g0b : (x3 + 1) < 2147483648) (g1a : -2147483648 ≤ (x3 + 2)) (g1b : (x3 + 2) < 2147483648) (g2a : -2147483648 ≤ (x3 + 3)) (g2b : (x3 + 3) < 2147483648) : Rx k_L_law 1254 [.inr (.inl (32, 0)), .inr (.inl (0, 0)), .inr (.inl (16, 0)), .inl x3] [] σ = (Rx k_X4_lots 0 [.inr (.inl (0, 0)), .inl (σ 32 0 (x3 + 1).toNat), .inl (σ 32 0 (x3 + 2).toNat), .inl (σ 32 0 (x3 + 3).toNat), uns] [] σ).bind fun q => Rx k_L_law 1273 [.inr (.inl (32, 0)), .inr (.inl (0, 0)), .inr (.inl (16, 0)), .inl x3] (q.1.toList ++ []) q.2 := by
  have e0 := wr_id (x := (x3 + 1)) g0a g0b
  have e1 := wr_id (x := (x3 + 2)) g1a g1b
  have e2 := wr_id (x := (x3 + 3)) g2a g2b
  have raw := r_L_law_1254 x3 σ (by simp only [e0, e1, e2]; exact h0) (by simp only [e0, e1, e2]; exact h1) (by simp only [e0, e1, e2]; exact h2) (by simp only [e0, e1, e2]; exact h3) (by simp only [e0, e1, e2]; exact h4) (by simp only [e0, e1, e2]; exact h5)
  simp only [e0, e1, e2] at raw
  exact raw
set_option maxRecDepth 100000 in
theorem r_L_law_1273 (x3 : Int) (s0 : Int) (σ : St) (h0 : 0 ≤ (wr (x3 + 1))) (h1 : (wr (x3 + 1)) < σ 32 1 0) (h2 : 0 ≤ (wr (x3 + 2))) (h3 : (wr (x3 + 2)) < σ 32 1 0) (h4 : 0 ≤ (wr (x3 + 3))) (h5 : (wr (x3 + 3)) < σ 32 1 0) : Rx k_L_law 1273 [.inr (.inl (32, 0)), .inr (.inl (0, 0)), .inr (.inl (16, 0)), .inl x3] [.inl s0] σ = (Rx k_X5_lots 0 [.inr (.inl (16, 0)), .inl (σ 32 0 (wr (x3 + 1)).toNat), .inl (σ 32 0 (wr (x3 + 2)).toNat), .inl (σ 32 0 (wr (x3 + 3)).toNat), uns, uns, uns] [] σ).bind fun q => Rx k_L_law 1292 [.inr (.inl (32, 0)), .inr (.inl (0, 0)), .inr (.inl (16, 0)), .inl x3] (q.1.toList ++ [.inl s0]) q.2 := by
  refine (Rx_N (k := 5) (pc' := 1278) (ls' := [.inr (.inl (32, 0)), .inr (.inl (0, 0)), .inr (.inl (16, 0)), .inl x3]) (st' := [.inl (wr (x3 + 1)), .inr (.inl (32, 0)), .inr (.inl (16, 0)), .inl s0]) (σ' := σ) rfl).trans ?_
  refine (Rx_sld rfl h0 h1).trans ?_
  refine (Rx_N (k := 4) (pc' := 1283) (ls' := [.inr (.inl (32, 0)), .inr (.inl (0, 0)), .inr (.inl (16, 0)), .inl x3]) (st' := [.inl (wr (x3 + 2)), .inr (.inl (32, 0)), .inl (σ 32 0 (wr (x3 + 1)).toNat), .inr (.inl (16, 0)), .inl s0]) (σ' := σ) rfl).trans ?_
  refine (Rx_sld rfl h2 h3).trans ?_
  refine (Rx_N (k := 4) (pc' := 1288) (ls' := [.inr (.inl (32, 0)), .inr (.inl (0, 0)), .inr (.inl (16, 0)), .inl x3]) (st' := [.inl (wr (x3 + 3)), .inr (.inl (32, 0)), .inl (σ 32 0 (wr (x3 + 2)).toNat), .inl (σ 32 0 (wr (x3 + 1)).toNat), .inr (.inl (16, 0)), .inl s0]) (σ' := σ) rfl).trans ?_
  refine (Rx_sld rfl h4 h5).trans ?_
  exact Rx_call (n := 3) (y' := k_X5_lots) (as := [.inr (.inl (16, 0)), .inl (σ 32 0 (wr (x3 + 1)).toNat), .inl (σ 32 0 (wr (x3 + 2)).toNat), .inl (σ 32 0 (wr (x3 + 3)).toNat)]) (rest := [.inl s0]) rfl rfl rfl
set_option maxRecDepth 100000 in
theorem b_L_law_1273 (x3 : Int) (s0 : Int) (σ : St) (h0 : 0 ≤ (x3 + 1)) (h1 : (x3 + 1) < σ 32 1 0) (h2 : 0 ≤ (x3 + 2)) (h3 : (x3 + 2) < σ 32 1 0) (h4 : 0 ≤ (x3 + 3)) (h5 : (x3 + 3) < σ 32 1 0) (g0a : -2147483648 ≤ (x3 + 1)) (g0b : (x3 + 1) < 2147483648) (g1a : -2147483648 ≤ (x3 + 2)) (g1b : (x3 + 2) < 2147483648) (g2a : -2147483648 ≤ (x3 + 3)) (g2b : (x3 + 3) < 2147483648) : Rx k_L_law 1273 [.inr (.inl (32, 0)), .inr (.inl (0, 0)), .inr (.inl (16, 0)), .inl x3] [.inl s0] σ = (Rx k_X5_lots 0 [.inr (.inl (16, 0)), .inl (σ 32 0 (x3 + 1).toNat), .inl (σ 32 0 (x3 + 2).toNat), .inl (σ 32 0 (x3 + 3).toNat), uns, uns, uns] [] σ).bind fun q => Rx k_L_law 1292 [.inr (.inl (32, 0)), .inr (.inl (0, 0)), .inr (.inl (16, 0)), .inl x3] (q.1.toList ++ [.inl s0]) q.2 := by
  have e0 := wr_id (x := (x3 + 1)) g0a g0b
  have e1 := wr_id (x := (x3 + 2)) g1a g1b
  have e2 := wr_id (x := (x3 + 3)) g2a g2b
  have raw := r_L_law_1273 x3 s0 σ (by simp only [e0, e1, e2]; exact h0) (by simp only [e0, e1, e2]; exact h1) (by simp only [e0, e1, e2]; exact h2) (by simp only [e0, e1, e2]; exact h3) (by simp only [e0, e1, e2]; exact h4) (by simp only [e0, e1, e2]; exact h5)
  simp only [e0, e1, e2] at raw
  exact raw
set_option maxRecDepth 100000 in
theorem b_L_law_1292 (x3 : Int) (s1 : Int) (s0 : Int) (σ : St) : Rx k_L_law 1292 [.inr (.inl (32, 0)), .inr (.inl (0, 0)), .inr (.inl (16, 0)), .inl x3] [.inl s1, .inl s0] σ = if s0 = s1 then Rx k_L_law 1346 [.inr (.inl (32, 0)), .inr (.inl (0, 0)), .inr (.inl (16, 0)), .inl x3] [] σ else Rx k_L_law 1295 [.inr (.inl (32, 0)), .inr (.inl (0, 0)), .inr (.inl (16, 0)), .inl x3] [] σ := by
  exact Rx_eq0 (k := 1) rfl
set_option maxRecDepth 100000 in
theorem b_L_law_1295 (x3 : Int) (σ : St) : Rx k_L_law 1295 [.inr (.inl (32, 0)), .inr (.inl (0, 0)), .inr (.inl (16, 0)), .inl x3] [] σ = some (some (.inl 0), σ) := by
  refine (Rx_N (k := 1) (pc' := 1296) (ls' := [.inr (.inl (32, 0)), .inr (.inl (0, 0)), .inr (.inl (16, 0)), .inl x3]) (st' := [.inl 0]) (σ' := σ) rfl).trans ?_
  exact Rx_ret rfl rfl
set_option maxRecDepth 100000 in
theorem b_L_law_1297 (x3 : Int) (σ : St) : Rx k_L_law 1297 [.inr (.inl (32, 0)), .inr (.inl (0, 0)), .inr (.inl (16, 0)), .inl x3] [] σ = (Rx k_X4_image 0 [.inr (.inl (0, 0))] [] σ).bind fun q => Rx k_L_law 1301 [.inr (.inl (32, 0)), .inr (.inl (0, 0)), .inr (.inl (16, 0)), .inl x3] (q.1.toList ++ []) q.2 := by
  refine (Rx_N (k := 1) (pc' := 1298) (ls' := [.inr (.inl (32, 0)), .inr (.inl (0, 0)), .inr (.inl (16, 0)), .inl x3]) (st' := [.inr (.inl (0, 0))]) (σ' := σ) rfl).trans ?_
  exact Rx_call (n := 3) (y' := k_X4_image) (as := [.inr (.inl (0, 0))]) (rest := []) rfl rfl rfl
set_option maxRecDepth 100000 in
theorem b_L_law_1301 (x3 : Int) (s0 : Int) (σ : St) : Rx k_L_law 1301 [.inr (.inl (32, 0)), .inr (.inl (0, 0)), .inr (.inl (16, 0)), .inl x3] [.inl s0] σ = (Rx k_X5_image 0 [.inr (.inl (16, 0))] [] σ).bind fun q => Rx k_L_law 1305 [.inr (.inl (32, 0)), .inr (.inl (0, 0)), .inr (.inl (16, 0)), .inl x3] (q.1.toList ++ [.inl s0]) q.2 := by
  refine (Rx_N (k := 1) (pc' := 1302) (ls' := [.inr (.inl (32, 0)), .inr (.inl (0, 0)), .inr (.inl (16, 0)), .inl x3]) (st' := [.inr (.inl (16, 0)), .inl s0]) (σ' := σ) rfl).trans ?_
  exact Rx_call (n := 3) (y' := k_X5_image) (as := [.inr (.inl (16, 0))]) (rest := [.inl s0]) rfl rfl rfl
set_option maxRecDepth 100000 in
theorem b_L_law_1305 (x3 : Int) (s1 : Int) (s0 : Int) (σ : St) : Rx k_L_law 1305 [.inr (.inl (32, 0)), .inr (.inl (0, 0)), .inr (.inl (16, 0)), .inl x3] [.inl s1, .inl s0] σ = if s0 = s1 then Rx k_L_law 1346 [.inr (.inl (32, 0)), .inr (.inl (0, 0)), .inr (.inl (16, 0)), .inl x3] [] σ else Rx k_L_law 1308 [.inr (.inl (32, 0)), .inr (.inl (0, 0)), .inr (.inl (16, 0)), .inl x3] [] σ := by
  exact Rx_eq0 (k := 1) rfl
set_option maxRecDepth 100000 in
theorem b_L_law_1308 (x3 : Int) (σ : St) : Rx k_L_law 1308 [.inr (.inl (32, 0)), .inr (.inl (0, 0)), .inr (.inl (16, 0)), .inl x3] [] σ = some (some (.inl 0), σ) := by
  refine (Rx_N (k := 1) (pc' := 1309) (ls' := [.inr (.inl (32, 0)), .inr (.inl (0, 0)), .inr (.inl (16, 0)), .inl x3]) (st' := [.inl 0]) (σ' := σ) rfl).trans ?_
  exact Rx_ret rfl rfl
set_option maxRecDepth 100000 in
theorem b_L_law_1310 (x3 : Int) (σ : St) : Rx k_L_law 1310 [.inr (.inl (32, 0)), .inr (.inl (0, 0)), .inr (.inl (16, 0)), .inl x3] [] σ = (Rx k_X4_on 0 [.inr (.inl (0, 0))] [] σ).bind fun q => Rx k_L_law 1314 [.inr (.inl (32, 0)), .inr (.inl (0, 0)), .inr (.inl (16, 0)), .inl x3] (q.1.toList ++ []) q.2 := by
  refine (Rx_N (k := 1) (pc' := 1311) (ls' := [.inr (.inl (32, 0)), .inr (.inl (0, 0)), .inr (.inl (16, 0)), .inl x3]) (st' := [.inr (.inl (0, 0))]) (σ' := σ) rfl).trans ?_
  exact Rx_call (n := 3) (y' := k_X4_on) (as := [.inr (.inl (0, 0))]) (rest := []) rfl rfl rfl
set_option maxRecDepth 100000 in
theorem b_L_law_1314 (x3 : Int) (s0 : Int) (σ : St) : Rx k_L_law 1314 [.inr (.inl (32, 0)), .inr (.inl (0, 0)), .inr (.inl (16, 0)), .inl x3] [.inl s0] σ = (Rx k_X5_on 0 [.inr (.inl (16, 0))] [] σ).bind fun q => Rx k_L_law 1318 [.inr (.inl (32, 0)), .inr (.inl (0, 0)), .inr (.inl (16, 0)), .inl x3] (q.1.toList ++ [.inl s0]) q.2 := by
  refine (Rx_N (k := 1) (pc' := 1315) (ls' := [.inr (.inl (32, 0)), .inr (.inl (0, 0)), .inr (.inl (16, 0)), .inl x3]) (st' := [.inr (.inl (16, 0)), .inl s0]) (σ' := σ) rfl).trans ?_
  exact Rx_call (n := 3) (y' := k_X5_on) (as := [.inr (.inl (16, 0))]) (rest := [.inl s0]) rfl rfl rfl
set_option maxRecDepth 100000 in
theorem b_L_law_1318 (x3 : Int) (s1 : Int) (s0 : Int) (σ : St) : Rx k_L_law 1318 [.inr (.inl (32, 0)), .inr (.inl (0, 0)), .inr (.inl (16, 0)), .inl x3] [.inl s1, .inl s0] σ = if s0 = s1 then Rx k_L_law 1346 [.inr (.inl (32, 0)), .inr (.inl (0, 0)), .inr (.inl (16, 0)), .inl x3] [] σ else Rx k_L_law 1321 [.inr (.inl (32, 0)), .inr (.inl (0, 0)), .inr (.inl (16, 0)), .inl x3] [] σ := by
  exact Rx_eq0 (k := 1) rfl
set_option maxRecDepth 100000 in
theorem b_L_law_1321 (x3 : Int) (σ : St) : Rx k_L_law 1321 [.inr (.inl (32, 0)), .inr (.inl (0, 0)), .inr (.inl (16, 0)), .inl x3] [] σ = some (some (.inl 0), σ) := by
  refine (Rx_N (k := 1) (pc' := 1322) (ls' := [.inr (.inl (32, 0)), .inr (.inl (0, 0)), .inr (.inl (16, 0)), .inl x3]) (st' := [.inl 0]) (σ' := σ) rfl).trans ?_
  exact Rx_ret rfl rfl
set_option maxRecDepth 100000 in
theorem r_L_law_1323 (x3 : Int) (σ : St) (h0 : 0 ≤ (wr (x3 + 1))) (h1 : (wr (x3 + 1)) < σ 32 1 0) : Rx k_L_law 1323 [.inr (.inl (32, 0)), .inr (.inl (0, 0)), .inr (.inl (16, 0)), .inl x3] [] σ = (Rx k_X4_count 0 [.inr (.inl (0, 0)), .inl (σ 32 0 (wr (x3 + 1)).toNat)] [] σ).bind fun q => Rx k_L_law 1332 [.inr (.inl (32, 0)), .inr (.inl (0, 0)), .inr (.inl (16, 0)), .inl x3] (q.1.toList ++ []) q.2 := by
  refine (Rx_N (k := 5) (pc' := 1328) (ls' := [.inr (.inl (32, 0)), .inr (.inl (0, 0)), .inr (.inl (16, 0)), .inl x3]) (st' := [.inl (wr (x3 + 1)), .inr (.inl (32, 0)), .inr (.inl (0, 0))]) (σ' := σ) rfl).trans ?_
  refine (Rx_sld rfl h0 h1).trans ?_
  exact Rx_call (n := 3) (y' := k_X4_count) (as := [.inr (.inl (0, 0)), .inl (σ 32 0 (wr (x3 + 1)).toNat)]) (rest := []) rfl rfl rfl
set_option maxRecDepth 100000 in
theorem b_L_law_1323 (x3 : Int) (σ : St) (h0 : 0 ≤ (x3 + 1)) (h1 : (x3 + 1) < σ 32 1 0) (g0a : -2147483648 ≤ (x3 + 1)) (g0b : (x3 + 1) < 2147483648) : Rx k_L_law 1323 [.inr (.inl (32, 0)), .inr (.inl (0, 0)), .inr (.inl (16, 0)), .inl x3] [] σ = (Rx k_X4_count 0 [.inr (.inl (0, 0)), .inl (σ 32 0 (x3 + 1).toNat)] [] σ).bind fun q => Rx k_L_law 1332 [.inr (.inl (32, 0)), .inr (.inl (0, 0)), .inr (.inl (16, 0)), .inl x3] (q.1.toList ++ []) q.2 := by
  have e0 := wr_id (x := (x3 + 1)) g0a g0b
  have raw := r_L_law_1323 x3 σ (by simp only [e0]; exact h0) (by simp only [e0]; exact h1)
  simp only [e0] at raw
  exact raw
set_option maxRecDepth 100000 in
theorem r_L_law_1332 (x3 : Int) (s0 : Int) (σ : St) (h0 : 0 ≤ (wr (x3 + 1))) (h1 : (wr (x3 + 1)) < σ 32 1 0) : Rx k_L_law 1332 [.inr (.inl (32, 0)), .inr (.inl (0, 0)), .inr (.inl (16, 0)), .inl x3] [.inl s0] σ = (Rx k_X5_count 0 [.inr (.inl (16, 0)), .inl (σ 32 0 (wr (x3 + 1)).toNat), uns, uns] [] σ).bind fun q => Rx k_L_law 1341 [.inr (.inl (32, 0)), .inr (.inl (0, 0)), .inr (.inl (16, 0)), .inl x3] (q.1.toList ++ [.inl s0]) q.2 := by
  refine (Rx_N (k := 5) (pc' := 1337) (ls' := [.inr (.inl (32, 0)), .inr (.inl (0, 0)), .inr (.inl (16, 0)), .inl x3]) (st' := [.inl (wr (x3 + 1)), .inr (.inl (32, 0)), .inr (.inl (16, 0)), .inl s0]) (σ' := σ) rfl).trans ?_
  refine (Rx_sld rfl h0 h1).trans ?_
  exact Rx_call (n := 3) (y' := k_X5_count) (as := [.inr (.inl (16, 0)), .inl (σ 32 0 (wr (x3 + 1)).toNat)]) (rest := [.inl s0]) rfl rfl rfl
set_option maxRecDepth 100000 in
theorem b_L_law_1332 (x3 : Int) (s0 : Int) (σ : St) (h0 : 0 ≤ (x3 + 1)) (h1 : (x3 + 1) < σ 32 1 0) (g0a : -2147483648 ≤ (x3 + 1)) (g0b : (x3 + 1) < 2147483648) : Rx k_L_law 1332 [.inr (.inl (32, 0)), .inr (.inl (0, 0)), .inr (.inl (16, 0)), .inl x3] [.inl s0] σ = (Rx k_X5_count 0 [.inr (.inl (16, 0)), .inl (σ 32 0 (x3 + 1).toNat), uns, uns] [] σ).bind fun q => Rx k_L_law 1341 [.inr (.inl (32, 0)), .inr (.inl (0, 0)), .inr (.inl (16, 0)), .inl x3] (q.1.toList ++ [.inl s0]) q.2 := by
  have e0 := wr_id (x := (x3 + 1)) g0a g0b
  have raw := r_L_law_1332 x3 s0 σ (by simp only [e0]; exact h0) (by simp only [e0]; exact h1)
  simp only [e0] at raw
  exact raw
set_option maxRecDepth 100000 in
theorem b_L_law_1341 (x3 : Int) (s1 : Int) (s0 : Int) (σ : St) : Rx k_L_law 1341 [.inr (.inl (32, 0)), .inr (.inl (0, 0)), .inr (.inl (16, 0)), .inl x3] [.inl s1, .inl s0] σ = if s0 = s1 then Rx k_L_law 1346 [.inr (.inl (32, 0)), .inr (.inl (0, 0)), .inr (.inl (16, 0)), .inl x3] [] σ else Rx k_L_law 1344 [.inr (.inl (32, 0)), .inr (.inl (0, 0)), .inr (.inl (16, 0)), .inl x3] [] σ := by
  exact Rx_eq0 (k := 1) rfl
set_option maxRecDepth 100000 in
theorem b_L_law_1344 (x3 : Int) (σ : St) : Rx k_L_law 1344 [.inr (.inl (32, 0)), .inr (.inl (0, 0)), .inr (.inl (16, 0)), .inl x3] [] σ = some (some (.inl 0), σ) := by
  refine (Rx_N (k := 1) (pc' := 1345) (ls' := [.inr (.inl (32, 0)), .inr (.inl (0, 0)), .inr (.inl (16, 0)), .inl x3]) (st' := [.inl 0]) (σ' := σ) rfl).trans ?_
  exact Rx_ret rfl rfl
set_option maxRecDepth 100000 in
theorem r_L_law_1346 (x3 : Int) (σ : St) : Rx k_L_law 1346 [.inr (.inl (32, 0)), .inr (.inl (0, 0)), .inr (.inl (16, 0)), .inl x3] [] σ = Rx k_L_law 18 [.inr (.inl (32, 0)), .inr (.inl (0, 0)), .inr (.inl (16, 0)), .inl (wr (x3 + 6))] [] σ := by
  refine (Rx_N (k := 2) (pc' := 18) (ls' := [.inr (.inl (32, 0)), .inr (.inl (0, 0)), .inr (.inl (16, 0)), .inl (wr (x3 + 6))]) (st' := []) (σ' := σ) rfl).trans ?_
  rfl
set_option maxRecDepth 100000 in
theorem b_L_law_1346 (x3 : Int) (σ : St) (g0a : -2147483648 ≤ (x3 + 6)) (g0b : (x3 + 6) < 2147483648) : Rx k_L_law 1346 [.inr (.inl (32, 0)), .inr (.inl (0, 0)), .inr (.inl (16, 0)), .inl x3] [] σ = Rx k_L_law 18 [.inr (.inl (32, 0)), .inr (.inl (0, 0)), .inr (.inl (16, 0)), .inl (x3 + 6)] [] σ := by
  have e0 := wr_id (x := (x3 + 6)) g0a g0b
  have raw := r_L_law_1346 x3 σ 
  simp only [e0] at raw
  exact raw
set_option maxRecDepth 100000 in
theorem b_L_law_1352 (x3 : Int) (σ : St) : Rx k_L_law 1352 [.inr (.inl (32, 0)), .inr (.inl (0, 0)), .inr (.inl (16, 0)), .inl x3] [] σ = some (some (.inl 1), σ) := by
  refine (Rx_N (k := 1) (pc' := 1353) (ls' := [.inr (.inl (32, 0)), .inr (.inl (0, 0)), .inr (.inl (16, 0)), .inl x3]) (st' := [.inl 1]) (σ' := σ) rfl).trans ?_
  exact Rx_ret rfl rfl
