/-! the reference: draught, one way the days may go -/
def draG (N : Nat) (x : Nat) : Nat → Nat → Rw → Nat → Rw × Nat
  | 0, _, R, a => (R, a)
  | n + 1, j, R, a => if x.testBit j = true then draG N x n (j + 1) (stF R 1) a else draG N x n (j + 1) (dayF R) (a * (N - 1))
theorem draG_s (N x n j : Nat) (R : Rw) (a : Nat) : draG N x (n + 1) j R a = if x.testBit j = true then draG N x n (j + 1) (stF R 1) a else draG N x n (j + 1) (dayF R) (a * (N - 1)) := rfl
theorem L_draI (D N x : Nat) (hD : D ≤ 7) (hN : 2 ≤ N ∧ N ≤ 20) (hx : x < 2147483648) (x1 x4 w5 w7 : Int) : ∀ (n j : Nat) (a : Nat) (u13 : AV) (σ : St), j + n = D → a ≤ 20 ^ j → Iv (σ 17 1) → 0 ≤ σ 17 1 2 → σ 17 1 2 + n ≤ 20000 → ∃ σ' u, MS σ σ' ∧ σ' 17 1 = (draG N x n j (σ 17 1) a).1 ∧ Iv (σ' 17 1) ∧ σ' 17 1 1 = σ 17 1 1 ∧ (draG N x n j (σ 17 1) a).2 ≤ 20 ^ D ∧ Rx k_X5_draught 122 [.inr (.inl (16, 0)), .inl x1, .inl (D : Int), .inl (N : Int), .inl x4, .inr (.inr w5), uns, .inr (.inr w7), uns, .inl (x : Int), .inr (.inr (a : Int)), uns, .inl (j : Int), u13] [] σ = Rx k_X5_draught 188 [.inr (.inl (16, 0)), .inl x1, .inl (D : Int), .inl (N : Int), .inl x4, .inr (.inr w5), uns, .inr (.inr w7), uns, .inl (x : Int), .inr (.inr ((draG N x n j (σ 17 1) a).2 : Int)), uns, .inl (D : Int), u] [] σ' := by
  intro n
  induction n with
  | zero =>
    intro j a u13 σ h1 ha hR h2 h3
    have e : j = D := by omega
    subst e
    refine ⟨σ, u13, MS.refl σ, rfl, hR, rfl, ha, ?_⟩
    rw [b_X5_draught_122, if_neg (by omega)]
    rfl
  | succ n ih =>
    intro j a u13 σ h1 ha hR h2 h3
    have ps : 20 ^ (j + 1) = 20 ^ j * 20 := Nat.pow_succ 20 j
    have p7 : 20 ^ j ≤ 20 ^ 7 := Nat.pow_le_pow_right (by decide) (by omega)
    have e7 : (20 : Nat) ^ 7 = 1280000000 := by decide
    rw [b_X5_draught_122, if_pos (by omega), b_X5_draught_128, bitS hx (by omega), draG_s]
    by_cases hbit : x.testBit j = true
    · obtain ⟨g, hg⟩ := C_st 1 σ hR h2 (by omega)
      obtain ⟨o1, o2, o3, o4, o5⟩ := stF_ok hR 1
      obtain ⟨σ', u, k1, k2, k3, k4, k5, k6⟩ := ih (j + 1) a (.inl 1) (sR σ 1 (stF (σ 17 1) 1) g) (by omega) (by omega) (by rw [sR_17]; exact o1) (by rw [sR_17, o4]; omega) (by rw [sR_17, o4]; omega)
      rw [sR_17] at k2 k4 k5 k6
      rw [if_pos hbit, if_pos hbit, if_pos rfl]
      refine ⟨σ', u, (MS.ofR o5).trans k1, k2, k3, k4.trans o3, k5, ?_⟩
      rw [b_X5_draught_139, if_neg (by decide), b_X5_draught_153 (g0a := by omega) (g0b := by omega), if_neg (by decide), Int.mul_one, b_X5_draught_169, C_pushesLeast 1 σ hR]
      simp only [Option.bind_some, Option.toList_some, Option.toList_none, List.cons_append, List.nil_append, List.append_nil]
      rw [b_X5_draught_174, hg]
      simp only [Option.bind_some, Option.toList_some, Option.toList_none, List.cons_append, List.nil_append, List.append_nil]
      rw [b_X5_draught_182 (g0a := by omega) (g0b := by omega)]
      exact k6
    · obtain ⟨g, hg⟩ := C_day 1 σ hR h2 (by omega)
      obtain ⟨o1, o2, o3, o4, o5⟩ := dayF_ok hR
      have hm : a * (N - 1) ≤ 20 ^ j * 20 := Nat.mul_le_mul ha (by omega)
      obtain ⟨σ', u, k1, k2, k3, k4, k5, k6⟩ := ih (j + 1) (a * (N - 1)) (.inl 0) (sR σ 1 (dayF (σ 17 1)) g) (by omega) (by omega) (by rw [sR_17]; exact o1) (by rw [sR_17, o4]; omega) (by rw [sR_17, o4]; omega)
      rw [sR_17] at k2 k4 k5 k6
      have em : (a : Int) * ((N : Int) - 1) = ((a * (N - 1) : Nat) : Int) := by rw [Int.natCast_mul, Int.natCast_sub (by omega)]; rfl
      rw [if_neg hbit, if_neg hbit, if_neg (show ¬ (0 : Int) = 1 by decide)]
      refine ⟨σ', u, (MS.ofR o5).trans k1, k2, k3, k4.trans o3, k5, ?_⟩
      rw [b_X5_draught_143, if_pos rfl, b_X5_draught_157 (g0a := by omega) (g0b := by omega) (g1a := by rw [em]; omega) (g1b := by rw [em]; omega), if_pos rfl, em, b_X5_draught_174, hg]
      simp only [Option.bind_some, Option.toList_some, Option.toList_none, List.cons_append, List.nil_append, List.append_nil]
      rw [b_X5_draught_182 (g0a := by omega) (g0b := by omega)]
      exact k6
