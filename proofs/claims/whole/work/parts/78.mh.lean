/-! the reference: the balance, and the counts -/
def balG (R : Rw) (p : Int) : Nat → Nat → Nat → Nat
  | 0, _, b => b
  | n + 1, x, b => if x ^^^ (x &&& upF R) = 0 ∧ pc10 b < pc10 x ∧ wofF R x ≤ sg R p then balG R p n (x + 1) x else balG R p n (x + 1) b
theorem balG_s (R : Rw) (p : Int) (n x b : Nat) : balG R p (n + 1) x b = if x ^^^ (x &&& upF R) = 0 ∧ pc10 b < pc10 x ∧ wofF R x ≤ sg R p then balG R p n (x + 1) x else balG R p n (x + 1) b := rfl
def balR (w : Int) (b : Nat) : Int := if w = 0 then (b : Int) else ((pc10 b : Nat) : Int)
def balA (R : Rw) (p w : Int) : Int := balR w (balG R p (upF R + 1) 0 0)
theorem L_balanced (σ : St) (h : Mok σ) (p w : Int) (hp : isP (σ 17 0) p) : ∀ (n x b : Nat), x + n = upF (σ 17 0) + 1 → b < 2147483648 → Rx k_X5_balanced 44 [.inr (.inl (16, 0)), .inl p, .inl w, .inl ((upF (σ 17 0) : Nat) : Int), .inl (b : Int), .inl (x : Int)] [] σ = some (some (.inl (balR w (balG (σ 17 0) p n x b))), σ) := by
  have hb := h.ct
  have hU : upF (σ 17 0) < 1024 := upG_lt10 _ (by omega)
  intro n
  induction n with
  | zero =>
    intro x b h1 h2
    rw [b_X5_balanced_44, if_pos (by omega), b_X5_balanced_102]
    unfold balR
    by_cases h3 : w = 0
    · rw [if_pos h3, if_pos h3, b_X5_balanced_106]
      rfl
    · rw [if_neg h3, if_neg h3, b_X5_balanced_111, C_bits _ h2]
      simp only [Option.bind_some, Option.toList_some, Option.toList_none, List.cons_append, List.nil_append, List.append_nil]
      rw [b_X5_balanced_116]
      rfl
  | succ n ih =>
    intro x b h1 h2
    have hx : x < 2147483648 := by omega
    have nx : Rx k_X5_balanced 96 [.inr (.inl (16, 0)), .inl p, .inl w, .inl ((upF (σ 17 0) : Nat) : Int), .inl (b : Int), .inl (x : Int)] [] σ = some (some (.inl (balR w (balG (σ 17 0) p n (x + 1) b))), σ) := by
      rw [b_X5_balanced_96 _ _ _ _ _ _ (by omega) (by omega)]
      exact ih (x + 1) b (by omega) h2
    rw [b_X5_balanced_44, if_neg (by omega), b_X5_balanced_50, bAndNot_nat hx, balG_s]
    by_cases h3 : x ^^^ (x &&& upF (σ 17 0)) = 0
    · rw [if_pos (by rw [h3]; rfl), b_X5_balanced_59, C_bits _ hx]
      simp only [Option.bind_some, Option.toList_some, Option.toList_none, List.cons_append, List.nil_append, List.append_nil]
      rw [b_X5_balanced_64, C_bits _ h2]
      simp only [Option.bind_some, Option.toList_some, Option.toList_none, List.cons_append, List.nil_append, List.append_nil]
      rw [b_X5_balanced_69]
      by_cases h4 : pc10 b < pc10 x
      · rw [if_pos (by omega), b_X5_balanced_72, C_weightOf x hx σ h.1.to1]
        simp only [Option.bind_some, Option.toList_some, Option.toList_none, List.cons_append, List.nil_append, List.append_nil]
        rw [b_X5_balanced_78, C_ofP _ _ (by omega) (by omega)]
        simp only [Option.bind_some, Option.toList_some, Option.toList_none, List.cons_append, List.nil_append, List.append_nil]
        have es : σ 17 0 (3 + 3 * p + 2).toNat = sg (σ 17 0) p := rfl
        rw [b_X5_balanced_86 _ _ _ _ _ _ _ _ (by omega) (by omega) (by omega) (by omega), es]
        by_cases h5 : sg (σ 17 0) p < wofF (σ 17 0) x
        · rw [if_pos h5, if_neg (fun z => by have := z.2.2; omega)]
          exact nx
        · rw [if_neg h5, if_pos ⟨h3, h4, by omega⟩, b_X5_balanced_92 _ _ _ _ _ _ (by omega) (by omega)]
          exact ih (x + 1) x (by omega) hx
      · rw [if_neg (by omega), if_neg (fun z => h4 z.2.1)]
        exact nx
    · rw [if_neg (by omega), if_neg (fun z => h3 z.1)]
      exact nx
def balB (R : Rw) (p w : Int) : Int := if isP R p then (if 0 ≤ w ∧ w ≤ 1 then 0 else -2) else -1
theorem M_balanced (p w : Int) (σ : St) (u3 u4 u5 : AV) (h : Mok σ) : Q (fun z => Rx k_X5_balanced 0 [.inr (.inl (16, 0)), .inl p, .inl w, u3, u4, u5] [] σ = some z) σ (balB (σ 17 0) p w) (balA (σ 17 0) p w) := by
  unfold balB
  by_cases h1 : isP (σ 17 0) p
  · have l1 : Rx k_X5_balanced 0 [.inr (.inl (16, 0)), .inl p, .inl w, u3, u4, u5] [] σ = if (if 0 ≤ w ∧ w ≤ 1 then (1 : Int) else 0) = 0 then Rx k_X5_balanced 23 [.inr (.inl (16, 0)), .inl p, .inl w, u3, u4, u5] [] σ else Rx k_X5_balanced 30 [.inr (.inl (16, 0)), .inl p, .inl w, u3, u4, u5] [] σ := by
      rw [b_X5_balanced_0, h.purp, if_pos h1]
      simp only [Option.bind_some, Option.toList_some, Option.toList_none, List.cons_append, List.nil_append, List.append_nil]
      rw [b_X5_balanced_5, if_neg (by decide), b_X5_balanced_14, C_isIn]
      simp only [Option.bind_some, Option.toList_some, Option.toList_none, List.cons_append, List.nil_append, List.append_nil]
      rw [b_X5_balanced_20]
    rw [if_pos h1, l1]
    by_cases h2 : 0 ≤ w ∧ w ≤ 1
    · rw [if_pos h2, if_neg (by decide), if_pos h2]
      refine Q_ok (MS.refl σ) ?_
      rw [b_X5_balanced_30, C_upSet _ _ h.1.to1]
      simp only [Option.bind_some, Option.toList_some, Option.toList_none, List.cons_append, List.nil_append, List.append_nil]
      rw [b_X5_balanced_37]
      exact L_balanced σ h p w h1 (upF (σ 17 0) + 1) 0 0 (by omega) (by decide)
    · rw [if_neg h2, if_pos rfl, if_neg h2]
      refine Q_no (by decide) ?_
      rw [b_X5_balanced_23, h.no (by decide) (by decide)]
      simp only [Option.bind_some, Option.toList_some, Option.toList_none, List.cons_append, List.nil_append, List.append_nil]
      rw [b_X5_balanced_29]
  · rw [if_neg h1]
    refine Q_no (by decide) ?_
    rw [b_X5_balanced_0, h.purp, if_neg h1]
    simp only [Option.bind_some, Option.toList_some, Option.toList_none, List.cons_append, List.nil_append, List.append_nil]
    rw [b_X5_balanced_5, if_pos rfl, b_X5_balanced_8, h.no (by decide) (by decide)]
    simp only [Option.bind_some, Option.toList_some, Option.toList_none, List.cons_append, List.nil_append, List.append_nil]
    rw [b_X5_balanced_13]
/-- all loads together -/
def loaG (R : Rw) : Nat → Int
  | 0 => 0
  | n + 1 => loaG R n + loadF R n
def loaF (R : Rw) : Int := loaG R (R 0).toNat
theorem loaG_s (R : Rw) (n : Nat) : loaG R (n + 1) = loaG R n + loadF R n := rfl
theorem loadF_b90 {R : Rw} (h : Iv R) (p : Int) : 0 ≤ loadF R p ∧ loadF R p ≤ 90 := by
  have hb := h.1
  unfold Iv0 at hb
  have k := loadG_bd (R := R) p (fun t a b => by have := h.2.2.1 t a b; omega) (R 1).toNat (by omega)
  unfold loadF
  omega
theorem loaG_bd {R : Rw} (h : Iv R) : ∀ n : Nat, 0 ≤ loaG R n ∧ loaG R n ≤ 90 * n := by
  intro n
  induction n with
  | zero => exact ⟨by simp [loaG], by simp [loaG]⟩
  | succ n ih =>
    have := loadF_b90 h n
    rw [loaG_s]
    omega
theorem L_count (σ : St) (h : Mok σ) (x1 : Int) : ∀ (n m : Nat), (m : Int) + n = σ 17 0 0 → Rx k_X5_count 94 [.inr (.inl (16, 0)), .inl x1, .inl (loaG (σ 17 0) m), .inl (m : Int)] [] σ = some (some (.inl (loaG (σ 17 0) (m + n))), σ) := by
  have hb := h.ct
  intro n
  induction n with
  | zero =>
    intro m h1
    rw [b_X5_count_94, if_neg (by omega), b_X5_count_121]
    rfl
  | succ n ih =>
    intro m h1
    have k := ih (m + 1) (by omega)
    have q1 := loaG_bd h.1 m
    have q2 := loadF_b90 h.1 m
    rw [show m + (n + 1) = m + 1 + n by omega, ← k, loaG_s, b_X5_count_94, if_pos (by omega), b_X5_count_104, C_loadOf _ _ _ h.1.to1]
    simp only [Option.bind_some, Option.toList_some, Option.toList_none, List.cons_append, List.nil_append, List.append_nil]
    rw [b_X5_count_113 _ _ _ _ _ _ (by omega) (by omega) (by omega) (by omega)]
    rfl
def couA (σ : St) (x : Int) : Int := if 11 ≤ x ∧ x ≤ 16 then σ 21 0 (x - 10).toNat else if 0 ≤ x ∧ x ≤ 2 then σ 17 0 x.toNat else if x = 3 then (upF (σ 17 0) : Nat) else if x = 4 then strF (σ 17 0) else if x = 5 then loaF (σ 17 0) else if x = 6 then σ 16 0 10 else if x = 7 then σ 16 0 9 else -9
theorem M_count (x : Int) (σ : St) (u v : AV) (h : Mok σ) : Rx k_X5_count 0 [.inr (.inl (16, 0)), .inl x, u, v] [] σ = some (some (.inl (couA σ x)), σ) := by
  have hb := h.ct
  unfold couA
  rw [b_X5_count_0, C_isIn]
  simp only [Option.bind_some, Option.toList_some, Option.toList_none, List.cons_append, List.nil_append, List.append_nil]
  rw [b_X5_count_8]
  by_cases h1 : 11 ≤ x ∧ x ≤ 16
  · rw [if_pos h1, if_neg (by decide), if_pos h1, b_X5_count_11 _ _ _ _ (by omega) (by omega) (by omega) (by omega)]
  · rw [if_neg h1, if_pos rfl, if_neg h1, b_X5_count_21, C_isIn]
    simp only [Option.bind_some, Option.toList_some, Option.toList_none, List.cons_append, List.nil_append, List.append_nil]
    rw [b_X5_count_27]
    by_cases h2 : 0 ≤ x ∧ x ≤ 2
    · rw [if_pos h2, if_neg (by decide), if_pos h2, b_X5_count_30 _ _ _ _ (by omega) (by omega)]
    · rw [if_neg h2, if_pos rfl, if_neg h2, b_X5_count_37]
      by_cases h3 : x = 3
      · rw [if_pos h3, if_pos h3, b_X5_count_76, C_upSet _ _ h.1.to1]
        simp only [Option.bind_some, Option.toList_some, Option.toList_none, List.cons_append, List.nil_append, List.append_nil]
        rw [b_X5_count_83]
      · rw [if_neg h3, if_neg h3]
        by_cases h4 : x = 4
        · rw [if_pos h4, if_pos h4, b_X5_count_84, C_strengthAll _ _ h.1]
          simp only [Option.bind_some, Option.toList_some, Option.toList_none, List.cons_append, List.nil_append, List.append_nil]
          rw [b_X5_count_91]
        · rw [if_neg h4, if_neg h4]
          by_cases h5 : x = 5
          · have k := L_count σ h x (σ 17 0 0).toNat 0 (by omega)
            rw [Nat.zero_add] at k
            rw [if_pos h5, if_pos h5, b_X5_count_92]
            exact k
          · rw [if_neg h5, if_neg h5]
            by_cases h6 : x = 6
            · rw [if_pos h6, if_pos h6, b_X5_count_123]
            · rw [if_neg h6, if_neg h6]
              by_cases h7 : x = 7
              · rw [if_pos h7, if_pos h7, b_X5_count_128]
              · rw [if_neg h7, if_neg h7, b_X5_count_133]
