/-! the reference: draught, all the ways -/
def draO (S : Rw) (D N : Nat) (t : Int) : Nat → Nat → Nat → Nat
  | 0, _, b => b
  | n + 1, x, b => draO S D N t n (x + 1) (b + if uq (draG N x D 0 S 1).1 t = 1 then (draG N x D 0 S 1).2 else 0)
theorem draO_s (S : Rw) (D N : Nat) (t : Int) (n x b : Nat) : draO S D N t (n + 1) x b = draO S D N t n (x + 1) (b + if uq (draG N x D 0 S 1).1 t = 1 then (draG N x D 0 S 1).2 else 0) := rfl
theorem L_draO (σ : St) (h : Mok σ) (t : Int) (ht : isT (σ 17 0) t) (D N : Nat) (hD : D ≤ 7) (hN : 2 ≤ N ∧ N ≤ 20) (x4 w7 : Int) : ∀ (n x b : Nat) (u10 u11 u12 u13 : AV) (σ1 : St), x + n = 2 ^ D → b ≤ x * 1280000000 → MS σ σ1 → ∃ σ' v10 v11 v12 v13, MS σ σ' ∧ Rx k_X5_draught 97 [.inr (.inl (16, 0)), .inl t, .inl (D : Int), .inl (N : Int), .inl x4, .inr (.inr (b : Int)), uns, .inr (.inr w7), uns, .inl (x : Int), u10, u11, u12, u13] [] σ1 = Rx k_X5_draught 216 [.inr (.inl (16, 0)), .inl t, .inl (D : Int), .inl (N : Int), .inl x4, .inr (.inr (draO (σ 17 0) D N t n x b : Int)), uns, .inr (.inr w7), uns, .inl ((2 ^ D : Nat) : Int), v10, v11, v12, v13] [] σ' := by
  have hb := h.ct
  have hd := h.2.1
  have hd2 := h.2.2.1
  have p7 : 2 ^ D ≤ 2 ^ 7 := Nat.pow_le_pow_right (by decide) hD
  have q7 : 20 ^ D ≤ 20 ^ 7 := Nat.pow_le_pow_right (by decide) hD
  have e7 : (2 : Nat) ^ 7 = 128 := by decide
  have f7 : (20 : Nat) ^ 7 = 1280000000 := by decide
  intro n
  induction n with
  | zero =>
    intro x b u10 u11 u12 u13 σ1 h1 h2 hk
    refine ⟨σ1, u10, u11, u12, u13, hk, ?_⟩
    rw [b_X5_draught_97, shl1 (by omega), if_neg (by omega), show x = 2 ^ D by omega]
    rfl
  | succ n ih =>
    intro x b u10 u11 u12 u13 σ1 h1 h2 hk
    have m1 := h.ms hk
    have e0 : σ1 17 0 = σ 17 0 := hk.row (by decide)
    have cp := m1.cp uns
    have k0 := m1.cpS
    rw [e0] at cp k0
    obtain ⟨σ2, u, k1, k2, k3, k4, k5, k6⟩ := L_draI D N x hD hN (by omega) t x4 (b : Int) w7 D 0 1 u13 (setR σ1 1 (σ 17 0)) (by omega) (by decide) (by rw [setR_at]; exact h.1) (by rw [setR_at]; omega) (by rw [setR_at]; omega)
    rw [setR_at] at k2 k4 k5 k6
    have k7 := hk.trans (k0.trans k1)
    rw [b_X5_draught_97, shl1 (by omega), if_pos (by omega), b_X5_draught_105, cp]
    simp only [Option.bind_some, Option.toList_some, Option.toList_none, List.cons_append, List.nil_append, List.append_nil]
    rw [b_X5_draught_119]
    rw [show ((0 : Nat) : Int) = 0 from rfl, show ((1 : Nat) : Int) = 1 from rfl] at k6
    rw [k6, b_X5_draught_188, C_isUp 1 t σ2 ht.1 (by omega), k2]
    simp only [Option.bind_some, Option.toList_some, Option.toList_none, List.cons_append, List.nil_append, List.append_nil]
    rw [b_X5_draught_198, draO_s]
    by_cases h5 : uq (draG N x D 0 (σ 17 0) 1).1 t = 1
    · rw [if_pos h5, if_pos h5, if_neg (by decide), b_X5_draught_201 (g0a := by omega) (g0b := by omega) (g1a := by omega) (g1b := by omega)]
      exact ih (x + 1) (b + (draG N x D 0 (σ 17 0) 1).2) _ _ _ _ σ2 (by omega) (by omega) k7
    · rw [if_neg h5, if_neg h5, if_pos rfl, b_X5_draught_206 (g0a := by omega) (g0b := by omega) (g1a := by omega) (g1b := by omega)]
      have hb2 : b ≤ (x + 1) * 1280000000 := Nat.le_trans h2 (Nat.mul_le_mul_right _ (Nat.le_succ x))
      rw [Int.add_zero, Nat.add_zero]
      exact ih (x + 1) b _ _ _ _ σ2 (by omega) hb2 k7
