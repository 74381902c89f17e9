/-! the reference: draught, the method -/
theorem draG_bd (N x : Nat) (hN : N ≤ 20) : ∀ (n j : Nat) (R : Rw) (a : Nat), (draG N x n j R a).2 ≤ a * 20 ^ n := by
  intro n
  induction n with
  | zero => intro j R a; show a ≤ a * 20 ^ 0; omega
  | succ n ih =>
    intro j R a
    rw [draG_s, Nat.pow_succ]
    split
    · exact Nat.le_trans (ih (j + 1) (stF R 1) a) (Nat.mul_le_mul_left _ (by omega))
    · refine Nat.le_trans (ih (j + 1) (dayF R) (a * (N - 1))) ?_
      rw [Nat.mul_assoc, Nat.mul_comm (N - 1)]
      exact Nat.mul_le_mul_left _ (Nat.mul_le_mul_left _ (by omega))
theorem draO_bd (S : Rw) (D N : Nat) (t : Int) (hN : N ≤ 20) : ∀ (n x b : Nat), draO S D N t n x b ≤ b + n * 20 ^ D := by
  intro n
  induction n with
  | zero => intro x b; show b ≤ b + 0 * 20 ^ D; omega
  | succ n ih =>
    intro x b
    rw [draO_s, Nat.succ_mul]
    have h1 := draG_bd N x hN D 0 S 1
    rw [Nat.one_mul] at h1
    have h3 : (if uq (draG N x D 0 S 1).1 t = 1 then (draG N x D 0 S 1).2 else 0) ≤ 20 ^ D := by split <;> omega
    have h2 := ih (x + 1) (b + if uq (draG N x D 0 S 1).1 t = 1 then (draG N x D 0 S 1).2 else 0)
    refine Nat.le_trans h2 ?_
    omega
def draB (R : Rw) (t d n w : Int) : Int := if isT R t then (if d < 0 ∨ n < 2 then -4 else if 7 < d ∨ 20 < n then -6 else if 0 ≤ w ∧ w ≤ 1 then 0 else -2) else -1
def draA (R : Rw) (t d n w : Int) : Int := partF (draO R d.toNat n.toNat t (2 ^ d.toNat) 0 0) (n.toNat ^ d.toNat) w
theorem M_draught (t d n w : Int) (σ : St) (u5 u6 u7 u8 u9 u10 u11 u12 u13 : AV) (h : Mok σ) : ∃ σ', MS (if draB (σ 17 0) t d n w = 0 then σ else noS σ (draB (σ 17 0) t d n w)) σ' ∧ Rx k_X5_draught 0 [.inr (.inl (16, 0)), .inl t, .inl d, .inl n, .inl w, u5, u6, u7, u8, u9, u10, u11, u12, u13] [] σ = some (some (.inr (.inr (if draB (σ 17 0) t d n w = 0 then draA (σ 17 0) t d n w else 4000000000000000000 - draB (σ 17 0) t d n w))), σ') := by
  have no : ∀ c : Int, c ≠ 0 → draB (σ 17 0) t d n w = c → Rx k_X5_draught 0 [.inr (.inl (16, 0)), .inl t, .inl d, .inl n, .inl w, u5, u6, u7, u8, u9, u10, u11, u12, u13] [] σ = some (some (.inr (.inr (4000000000000000000 - c))), noS σ c) → ∃ σ', MS (if draB (σ 17 0) t d n w = 0 then σ else noS σ (draB (σ 17 0) t d n w)) σ' ∧ Rx k_X5_draught 0 [.inr (.inl (16, 0)), .inl t, .inl d, .inl n, .inl w, u5, u6, u7, u8, u9, u10, u11, u12, u13] [] σ = some (some (.inr (.inr (if draB (σ 17 0) t d n w = 0 then draA (σ 17 0) t d n w else 4000000000000000000 - draB (σ 17 0) t d n w))), σ') := by
    intro c hc e k
    rw [e, if_neg hc, if_neg hc]
    exact ⟨_, MS.refl _, k⟩
  by_cases h1 : isT (σ 17 0) t
  · have start : Rx k_X5_draught 0 [.inr (.inl (16, 0)), .inl t, .inl d, .inl n, .inl w, u5, u6, u7, u8, u9, u10, u11, u12, u13] [] σ = Rx k_X5_draught 14 [.inr (.inl (16, 0)), .inl t, .inl d, .inl n, .inl w, u5, u6, u7, u8, u9, u10, u11, u12, u13] [] σ := by
      rw [b_X5_draught_0, h.thin, if_pos h1]
      simp only [Option.bind_some, Option.toList_some, Option.toList_none, List.cons_append, List.nil_append, List.append_nil]
      rw [b_X5_draught_5, if_neg (by decide)]
    by_cases h2 : d < 0 ∨ n < 2
    · refine no (-4) (by decide) (by unfold draB; rw [if_pos h1, if_pos h2]) ?_
      have e : Rx k_X5_draught 14 [.inr (.inl (16, 0)), .inl t, .inl d, .inl n, .inl w, u5, u6, u7, u8, u9, u10, u11, u12, u13] [] σ = Rx k_X5_draught 23 [.inr (.inl (16, 0)), .inl t, .inl d, .inl n, .inl w, u5, u6, u7, u8, u9, u10, u11, u12, u13] [] σ := by
        rw [b_X5_draught_14]
        by_cases h3 : d < 0
        · rw [if_pos h3]
        · rw [if_neg h3, b_X5_draught_18, if_pos (by omega)]
      rw [start, e, b_X5_draught_23, h.noWide (by decide) (by decide)]
      simp only [Option.bind_some, Option.toList_some, Option.toList_none, List.cons_append, List.nil_append, List.append_nil]
      rw [b_X5_draught_29]
    · have e1 : Rx k_X5_draught 14 [.inr (.inl (16, 0)), .inl t, .inl d, .inl n, .inl w, u5, u6, u7, u8, u9, u10, u11, u12, u13] [] σ = Rx k_X5_draught 30 [.inr (.inl (16, 0)), .inl t, .inl d, .inl n, .inl w, u5, u6, u7, u8, u9, u10, u11, u12, u13] [] σ := by
        rw [b_X5_draught_14, if_neg (show ¬ d < 0 by omega), b_X5_draught_18, if_neg (show ¬ n < 2 by omega)]
      by_cases h3 : 7 < d ∨ 20 < n
      · refine no (-6) (by decide) (by unfold draB; rw [if_pos h1, if_neg h2, if_pos h3]) ?_
        have e : Rx k_X5_draught 30 [.inr (.inl (16, 0)), .inl t, .inl d, .inl n, .inl w, u5, u6, u7, u8, u9, u10, u11, u12, u13] [] σ = Rx k_X5_draught 42 [.inr (.inl (16, 0)), .inl t, .inl d, .inl n, .inl w, u5, u6, u7, u8, u9, u10, u11, u12, u13] [] σ := by
          rw [b_X5_draught_30]
          by_cases h4 : 7 < d
          · rw [if_pos h4]
          · rw [if_neg h4, b_X5_draught_36, if_pos (by omega)]
        rw [start, e1, e, b_X5_draught_42, h.noWide (by decide) (by decide)]
        simp only [Option.bind_some, Option.toList_some, Option.toList_none, List.cons_append, List.nil_append, List.append_nil]
        rw [b_X5_draught_48]
      · have e2 : Rx k_X5_draught 30 [.inr (.inl (16, 0)), .inl t, .inl d, .inl n, .inl w, u5, u6, u7, u8, u9, u10, u11, u12, u13] [] σ = Rx k_X5_draught 56 [.inr (.inl (16, 0)), .inl t, .inl d, .inl n, .inl w, u5, u6, u7, u8, u9, u10, u11, u12, u13] [.inl (if 0 ≤ w ∧ w ≤ 1 then 1 else 0)] σ := by
          rw [b_X5_draught_30, if_neg (show ¬ 7 < d by omega), b_X5_draught_36, if_neg (show ¬ 20 < n by omega), b_X5_draught_49, C_isIn]
          simp only [Option.bind_some, Option.toList_some, Option.toList_none, List.cons_append, List.nil_append, List.append_nil]
        by_cases h4 : 0 ≤ w ∧ w ≤ 1
        · have eB : draB (σ 17 0) t d n w = 0 := by unfold draB; rw [if_pos h1, if_neg h2, if_neg h3, if_pos h4]
          rw [eB, if_pos (show (0 : Int) = 0 from rfl), if_pos (show (0 : Int) = 0 from rfl), start, e1, e2, if_pos h4, b_X5_draught_56, if_neg (by decide), b_X5_draught_66]
          obtain ⟨D, rfl⟩ := Int.eq_ofNat_of_zero_le (show 0 ≤ d by omega)
          obtain ⟨N, rfl⟩ := Int.eq_ofNat_of_zero_le (show 0 ≤ n by omega)
          have kP := L_draP D N (by omega) (by omega) t w 0 σ u10 u11 u12 u13 D 0 (Nat.zero_add D)
          rw [Nat.pow_zero, show ((1 : Nat) : Int) = 1 from rfl, show ((0 : Nat) : Int) = 0 from rfl] at kP
          obtain ⟨σ', v10, v11, v12, v13, k1, k2⟩ := L_draO σ h t h1 D N (by omega) (by omega) w ((N ^ D : Nat) : Int) (2 ^ D) 0 0 u10 u11 u12 u13 σ (Nat.zero_add _) (Nat.zero_le _) (MS.refl σ)
          rw [show ((0 : Nat) : Int) = 0 from rfl] at k2
          refine ⟨σ', k1, ?_⟩
          have hbd := draO_bd (σ 17 0) D N t (by omega) (2 ^ D) 0 0
          have p7 : 2 ^ D ≤ 2 ^ 7 := Nat.pow_le_pow_right (by decide) (by omega)
          have q7 : 20 ^ D ≤ 20 ^ 7 := Nat.pow_le_pow_right (by decide) (by omega)
          have m7 : 2 ^ D * 20 ^ D ≤ 2 ^ 7 * 20 ^ 7 := Nat.mul_le_mul p7 q7
          have e7 : (2 : Nat) ^ 7 * 20 ^ 7 = 163840000000 := by decide
          have f7 : (20 : Nat) ^ 7 = 1280000000 := by decide
          have n7 : N ^ D ≤ 20 ^ D := Nat.pow_le_pow_left (by omega) _
          rw [kP, k2, b_X5_draught_216, C_partOf _ _ _ _ (by omega) (by omega)]
          simp only [Option.bind_some, Option.toList_some, Option.toList_none, List.cons_append, List.nil_append, List.append_nil]
          rw [b_X5_draught_225]
          rfl
        · refine no (-2) (by decide) (by unfold draB; rw [if_pos h1, if_neg h2, if_neg h3, if_neg h4]) ?_
          rw [start, e1, e2, if_neg h4, b_X5_draught_56, if_pos rfl, b_X5_draught_59, h.noWide (by decide) (by decide)]
          simp only [Option.bind_some, Option.toList_some, Option.toList_none, List.cons_append, List.nil_append, List.append_nil]
          rw [b_X5_draught_65]
  · refine no (-1) (by decide) (by unfold draB; rw [if_neg h1]) ?_
    rw [b_X5_draught_0, h.thin, if_neg h1]
    simp only [Option.bind_some, Option.toList_some, Option.toList_none, List.cons_append, List.nil_append, List.append_nil]
    rw [b_X5_draught_5, if_pos rfl, b_X5_draught_8, h.noWide (by decide) (by decide)]
    simp only [Option.bind_some, Option.toList_some, Option.toList_none, List.cons_append, List.nil_append, List.append_nil]
    rw [b_X5_draught_13]
