/-! the reference's small methods -/
theorem C_isIn (v a b : Int) (σ : St) : Rx k_X5_isIn 0 [.inl v, .inl a, .inl b] [] σ = some (some (.inl (if a ≤ v ∧ v ≤ b then 1 else 0)), σ) := by
  simp only [b_X5_isIn_0, b_X5_isIn_5, b_X5_isIn_10, b_X5_isIn_14]
  by_cases h1 : v < a
  · rw [if_pos h1, if_neg (show ¬ (a ≤ v ∧ v ≤ b) by omega)]
  · rw [if_neg h1]
    by_cases h2 : b < v
    · rw [if_pos h2, if_neg (show ¬ (a ≤ v ∧ v ≤ b) by omega)]
    · rw [if_neg h2, if_pos (show a ≤ v ∧ v ≤ b by omega)]
theorem C_most (a b : Int) (σ : St) : Rx k_X5_most 0 [.inl a, .inl b] [] σ = some (some (.inl (if b < a then a else b)), σ) := by
  simp only [b_X5_most_0, b_X5_most_5, b_X5_most_9]
  split <;> rfl
theorem C_ofP (p : Int) (σ : St) (h0 : -1000000 ≤ p) (h1 : p ≤ 1000000) : Rx k_X5_ofP 0 [.inl p] [] σ = some (some (.inl (3 + 3 * p)), σ) := by
  simp (disch := omega) only [b_X5_ofP_0]
theorem C_ofT (t : Int) (σ : St) (h0 : -1000000 ≤ t) (h1 : t ≤ 1000000) : Rx k_X5_ofT 0 [.inl t] [] σ = some (some (.inl (18 + 4 * t)), σ) := by
  simp (disch := omega) only [b_X5_ofT_0]
theorem C_isUp (q : Nat) (t : Int) (σ : St) (h0 : 0 ≤ t) (h1 : t < 10) : Rx k_X5_isUp 0 [.inr (.inl (17, q)), .inl t] [] σ = some (some (.inl (if uq (σ 17 q) t = 1 then 1 else 0)), σ) := by
  simp (disch := omega) only [b_X5_isUp_0, b_X5_isUp_5, b_X5_isUp_12, b_X5_isUp_16, C_ofT, Option.bind_some, Option.toList_some, Option.toList_none, List.cons_append, List.nil_append, List.append_nil]
  unfold uq
  split <;> rfl
theorem L_whoAt (q : Nat) (c : Int) (σ : St) (h : σ 17 q 1 ≤ 10) : ∀ (n : Nat) (t : Int), 0 ≤ t → t + n = σ 17 q 1 → Rx k_X5_whoAt 2 [.inr (.inl (17, q)), .inl c, .inl t] [] σ = some (some (.inl (whoG (σ 17 q) c n t)), σ) := by
  intro n
  induction n with
  | zero =>
    intro t h0 h1
    rw [b_X5_whoAt_2, if_neg (by omega), b_X5_whoAt_29]
    rfl
  | succ n ih =>
    intro t h0 h1
    rw [b_X5_whoAt_2, if_pos (by omega)]
    simp (disch := omega) only [b_X5_whoAt_0, b_X5_whoAt_9, b_X5_whoAt_14, b_X5_whoAt_21, b_X5_whoAt_23, b_X5_whoAt_29, C_ofT, Option.bind_some, Option.toList_some, Option.toList_none, List.cons_append, List.nil_append, List.append_nil]
    unfold whoG pl
    split
    · rfl
    · exact ih (t + 1) (by omega) (by omega)
theorem C_whoAt (q : Nat) (c : Int) (σ : St) (h0 : 0 ≤ σ 17 q 1) (h1 : σ 17 q 1 ≤ 10) : Rx k_X5_whoAt 0 [.inr (.inl (17, q)), .inl c, uns] [] σ = some (some (.inl (whoF (σ 17 q) c)), σ) := by
  rw [b_X5_whoAt_0]
  exact L_whoAt q c σ h1 _ 0 (by omega) (by omega)
theorem loadG_bd {R : Rw} (p : Int) (h : ∀ t, 0 ≤ t → t < R 1 → 0 ≤ wt R t ∧ wt R t ≤ 9) : ∀ n : Nat, (n : Int) ≤ R 1 → 0 ≤ loadG R p n ∧ loadG R p n ≤ 9 * n := by
  intro n
  induction n with
  | zero => intro _; exact ⟨by simp [loadG], by simp [loadG]⟩
  | succ n ih =>
    intro hn
    have h1 := ih (by omega)
    have h2 := h n (by omega) (by omega)
    unfold loadG
    split <;> omega
theorem L_loadOf (q : Nat) (p : Int) (σ : St) (h : σ 17 q 1 ≤ 10) (hw : ∀ t, 0 ≤ t → t < σ 17 q 1 → 0 ≤ wt (σ 17 q) t ∧ wt (σ 17 q) t ≤ 9) : ∀ (n m : Nat), (m : Int) + n = σ 17 q 1 → Rx k_X5_loadOf 4 [.inr (.inl (17, q)), .inl p, .inl (loadG (σ 17 q) p m), .inl m] [] σ = some (some (.inl (loadG (σ 17 q) p (m + n))), σ) := by
  intro n
  induction n with
  | zero =>
    intro m h1
    rw [b_X5_loadOf_4, if_neg (by omega), b_X5_loadOf_52]
    rfl
  | succ n ih =>
    intro m h1
    have hb := loadG_bd (R := σ 17 q) p hw m (by omega)
    have hm := hw m (by omega) (by omega)
    have e : loadG (σ 17 q) p (m + 1) = loadG (σ 17 q) p m + (if uq (σ 17 q) m = 1 ∧ on (σ 17 q) m = p then wt (σ 17 q) m else 0) := rfl
    have k := ih (m + 1) (by omega)
    rw [show m + (n + 1) = m + 1 + n by omega, ← k, e]
    unfold wt at hm
    rw [b_X5_loadOf_4, if_pos (by omega)]
    rw [b_X5_loadOf_11, C_isUp _ _ _ (by omega) (by omega)]
    simp only [Option.bind_some, Option.toList_some, Option.toList_none, List.cons_append, List.nil_append, List.append_nil]
    by_cases h2 : uq (σ 17 q) m = 1
    · by_cases h3 : on (σ 17 q) m = p
      · have h4 := h3
        unfold on at h4
        simp (disch := omega) only [b_X5_loadOf_0, b_X5_loadOf_11, b_X5_loadOf_17, b_X5_loadOf_20, b_X5_loadOf_25, b_X5_loadOf_32, b_X5_loadOf_37, b_X5_loadOf_43, b_X5_loadOf_52, C_ofT, Option.bind_some, Option.toList_some, Option.toList_none, List.cons_append, List.nil_append, List.append_nil, h2, h4, if_true, if_false, Int.reduceEq, reduceIte, h3, and_self]
        unfold wt
        rfl
      · have h4 := h3
        unfold on at h4
        simp (disch := omega) only [b_X5_loadOf_0, b_X5_loadOf_11, b_X5_loadOf_17, b_X5_loadOf_20, b_X5_loadOf_25, b_X5_loadOf_32, b_X5_loadOf_37, b_X5_loadOf_43, b_X5_loadOf_52, C_ofT, Option.bind_some, Option.toList_some, Option.toList_none, List.cons_append, List.nil_append, List.append_nil, h2, h4, if_true, if_false, Int.reduceEq, reduceIte, h3, and_false]
        rfl
    · simp (disch := omega) only [b_X5_loadOf_0, b_X5_loadOf_11, b_X5_loadOf_17, b_X5_loadOf_20, b_X5_loadOf_25, b_X5_loadOf_32, b_X5_loadOf_37, b_X5_loadOf_43, b_X5_loadOf_52, C_ofT, Option.bind_some, Option.toList_some, Option.toList_none, List.cons_append, List.nil_append, List.append_nil, h2, if_true, if_false, Int.reduceEq, reduceIte, false_and]
      rfl
