/-! the reference: draught, the power -/
theorem L_draP (D N : Nat) (hD : D ≤ 7) (hN : N ≤ 20) (x1 x4 w5 : Int) (σ : St) (u10 u11 u12 u13 : AV) : ∀ (n j : Nat), j + n = D → Rx k_X5_draught 75 [.inr (.inl (16, 0)), .inl x1, .inl (D : Int), .inl (N : Int), .inl x4, .inr (.inr w5), uns, .inr (.inr ((N ^ j : Nat) : Int)), uns, .inl (j : Int), u10, u11, u12, u13] [] σ = Rx k_X5_draught 97 [.inr (.inl (16, 0)), .inl x1, .inl (D : Int), .inl (N : Int), .inl x4, .inr (.inr w5), uns, .inr (.inr ((N ^ D : Nat) : Int)), uns, .inl 0, u10, u11, u12, u13] [] σ := by
  intro n
  induction n with
  | zero =>
    intro j h1
    rw [b_X5_draught_75, if_neg (by omega), b_X5_draught_94, show j = D by omega]
  | succ n ih =>
    intro j h1
    have p1 : N ^ (j + 1) ≤ 20 ^ (j + 1) := Nat.pow_le_pow_left hN _
    have p2 : 20 ^ (j + 1) ≤ 20 ^ 7 := Nat.pow_le_pow_right (by decide) (by omega)
    have e7 : (20 : Nat) ^ 7 = 1280000000 := by decide
    have em : ((N ^ j : Nat) : Int) * (N : Int) = ((N ^ (j + 1) : Nat) : Int) := by rw [Nat.pow_succ, Int.natCast_mul]
    have lt : (((N ^ (j + 1) : Nat)) : Int) < 9223372036854775808 := Int.ofNat_lt.mpr (show N ^ (j + 1) < 9223372036854775808 from Nat.lt_of_le_of_lt (Nat.le_trans p1 p2) (by decide))
    rw [b_X5_draught_75, if_pos (by omega), b_X5_draught_81 (g0a := by omega) (g0b := by omega) (g1a := by rw [em]; exact Int.le_trans (by decide) (Int.natCast_nonneg _)) (g1b := by rw [em]; exact lt), em]
    exact ih (j + 1) (by omega)
