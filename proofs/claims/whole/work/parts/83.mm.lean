/-! the reference: lots, the call -/
def lotB (R : Rw) (N w : Int) : Int := if N < 1 then -4 else if 20 < N then -6 else if 0 ≤ w ∧ w ≤ 1 then (if R 0 = 0 then -3 else 0) else -2
def lotA (R : Rw) (N s w : Int) : Int := lotO R w N.toNat s 0
theorem M_lots (N s w : Int) (σ : St) (u4 u5 u6 : AV) (h : Mok σ) : ∃ σ' s', MS (if lotB (σ 17 0) N w = 0 then up σ 16 0 13 s' else noS σ (lotB (σ 17 0) N w)) σ' ∧ Rx k_X5_lots 0 [.inr (.inl (16, 0)), .inl N, .inl s, .inl w, u4, u5, u6] [] σ = some (some (.inl (if lotB (σ 17 0) N w = 0 then lotA (σ 17 0) N s w else lotB (σ 17 0) N w)), σ') := by
  have hb := h.ct
  have no : ∀ c : Int, c ≠ 0 → lotB (σ 17 0) N w = c → Rx k_X5_lots 0 [.inr (.inl (16, 0)), .inl N, .inl s, .inl w, u4, u5, u6] [] σ = some (some (.inl c), noS σ c) → ∃ σ' s', MS (if lotB (σ 17 0) N w = 0 then up σ 16 0 13 s' else noS σ (lotB (σ 17 0) N w)) σ' ∧ Rx k_X5_lots 0 [.inr (.inl (16, 0)), .inl N, .inl s, .inl w, u4, u5, u6] [] σ = some (some (.inl (if lotB (σ 17 0) N w = 0 then lotA (σ 17 0) N s w else lotB (σ 17 0) N w)), σ') := by
    intro c hc e k
    refine ⟨noS σ c, 0, ?_, ?_⟩
    · rw [e, if_neg hc]; exact MS.refl _
    · rw [e, if_neg hc, k]
  by_cases h1 : N < 1
  · refine no (-4) (by decide) (by unfold lotB; rw [if_pos h1]) ?_
    rw [b_X5_lots_0, if_pos h1, b_X5_lots_5, h.no (by decide) (by decide)]
    simp only [Option.bind_some, Option.toList_some, Option.toList_none, List.cons_append, List.nil_append, List.append_nil]
    rw [b_X5_lots_11]
  · by_cases h2 : 20 < N
    · refine no (-6) (by decide) (by unfold lotB; rw [if_neg h1, if_pos h2]) ?_
      rw [b_X5_lots_0, if_neg h1, b_X5_lots_12, if_pos h2, b_X5_lots_18, h.no (by decide) (by decide)]
      simp only [Option.bind_some, Option.toList_some, Option.toList_none, List.cons_append, List.nil_append, List.append_nil]
      rw [b_X5_lots_24]
    · have l0 : Rx k_X5_lots 0 [.inr (.inl (16, 0)), .inl N, .inl s, .inl w, u4, u5, u6] [] σ = if (if 0 ≤ w ∧ w ≤ 1 then (1 : Int) else 0) = 0 then Rx k_X5_lots 34 [.inr (.inl (16, 0)), .inl N, .inl s, .inl w, u4, u5, u6] [] σ else Rx k_X5_lots 41 [.inr (.inl (16, 0)), .inl N, .inl s, .inl w, u4, u5, u6] [] σ := by
        rw [b_X5_lots_0, if_neg h1, b_X5_lots_12, if_neg h2, b_X5_lots_25, C_isIn]
        simp only [Option.bind_some, Option.toList_some, Option.toList_none, List.cons_append, List.nil_append, List.append_nil]
        rw [b_X5_lots_31]
      by_cases h3 : 0 ≤ w ∧ w ≤ 1
      · rw [if_pos h3, if_neg (by decide), b_X5_lots_41] at l0
        by_cases h4 : σ 17 0 0 = 0
        · refine no (-3) (by decide) (by unfold lotB; rw [if_neg h1, if_neg h2, if_pos h3, if_pos h4]) ?_
          rw [l0, if_pos h4, b_X5_lots_50, h.no (by decide) (by decide)]
          simp only [Option.bind_some, Option.toList_some, Option.toList_none, List.cons_append, List.nil_append, List.append_nil]
          rw [b_X5_lots_56]
        · have e : lotB (σ 17 0) N w = 0 := by unfold lotB; rw [if_neg h1, if_neg h2, if_pos h3, if_neg h4]
          obtain ⟨σ', s', k1, k2⟩ := L_lots σ h (by omega) N s w (by omega) N.toNat 0 0 s u6 (up σ 16 0 13 s) (by decide) (by omega) (by decide) (by decide) (MS.refl _)
          refine ⟨σ', s', ?_, ?_⟩
          · rw [e, if_pos rfl]; exact k1
          · rw [e, if_pos rfl, l0, if_neg h4, b_X5_lots_57, k2]
            rfl
      · refine no (-2) (by decide) (by unfold lotB; rw [if_neg h1, if_neg h2, if_neg h3]) ?_
        rw [l0, if_neg h3, if_pos rfl, b_X5_lots_34, h.no (by decide) (by decide)]
        simp only [Option.bind_some, Option.toList_some, Option.toList_none, List.cons_append, List.nil_append, List.append_nil]
        rw [b_X5_lots_40]
