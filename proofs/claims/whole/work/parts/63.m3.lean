theorem loadF_bd {R : Rw} (h : Iv1 R) (p : Int) : 0 ≤ loadF R p ∧ loadF R p ≤ 90 := by
  have hb := h.1
  unfold Iv0 at hb
  have := loadG_bd (R := R) p (fun t h0 h1 => by have := h.2 t h0 h1; omega) (R 1).toNat (by omega)
  unfold loadF
  omega
theorem C_loadOf (q : Nat) (p : Int) (σ : St) (h : Iv1 (σ 17 q)) : Rx k_X5_loadOf 0 [.inr (.inl (17, q)), .inl p, uns, uns] [] σ = some (some (.inl (loadF (σ 17 q) p)), σ) := by
  have hb := h.1
  unfold Iv0 at hb
  rw [b_X5_loadOf_0]
  have key := L_loadOf q p σ (by omega) (fun t h0 h1 => by have := h.2 t h0 h1; omega) (σ 17 q 1).toNat 0 (by omega)
  rw [Nat.zero_add] at key
  exact key
theorem C_spareOf (q : Nat) (p : Int) (σ : St) (h : Iv1 (σ 17 q)) (h0 : 0 ≤ p) (h1 : p < 5) (h2 : 0 ≤ sg (σ 17 q) p) (h3 : sg (σ 17 q) p ≤ 99) : Rx k_X5_spareOf 0 [.inr (.inl (17, q)), .inl p] [] σ = some (some (.inl (spareF (σ 17 q) p)), σ) := by
  have hl := C_loadOf q p σ h
  have hb := loadF_bd h p
  unfold sg at h2 h3
  simp (disch := omega) only [b_X5_spareOf_0, b_X5_spareOf_5, b_X5_spareOf_13, C_ofP, hl, Option.bind_some, Option.toList_some, Option.toList_none, List.cons_append, List.nil_append, List.append_nil]
  rfl
theorem C_lessBy (q : Nat) (p day : Int) (σ : St) (h : Iv1 (σ 17 q)) (h0 : 0 ≤ p) (h1 : p < 5) (hk : 0 ≤ kd (σ 17 q) p ∧ kd (σ 17 q) p ≤ 5) (hf : 0 ≤ fg (σ 17 q) p ∧ fg (σ 17 q) p ≤ 9) (hs : 0 ≤ sg (σ 17 q) p ∧ sg (σ 17 q) p ≤ 99) : Rx k_X5_lessBy 0 [.inr (.inl (17, q)), .inl p, .inl day, uns, uns, uns] [] σ = some (some (.inl (lessF (σ 17 q) p day)), σ) := by
  have hl := C_loadOf q p σ h
  have hb := loadF_bd h p
  unfold lessF
  generalize ek : kd (σ 17 q) p = kk at hk ⊢
  generalize ef : fg (σ 17 q) p = ff at hf ⊢
  generalize es : sg (σ 17 q) p = ss at hs ⊢
  unfold kd at ek
  unfold fg at ef
  unfold sg at es
  have h3 : 0 ≤ ff.tdiv 3 ∧ ff.tdiv 3 ≤ 9 := ⟨Int.tdiv_nonneg hf.1 (by decide), Int.le_trans (Int.tdiv_le_self _ hf.1) hf.2⟩
  have tail : ∀ (hab vw : Int) , 0 ≤ vw → vw ≤ 1 → Rx k_X5_lessBy 50 [.inr (.inl (17, q)), .inl p, .inl day, .inl ff, .inl hab, .inl vw] [.inl (3 + 3 * p), .inr (.inl (17, q))] σ = some (some (.inl (if kk = 1 then hab else if kk = 2 then vw else if kk = 3 then vw + ff.tdiv 3 else if kk = 4 then 1 + ff else if kk = 5 then (if 0 < loadF (σ 17 q) p then 2 * (1 + ff) else 0) else 1)), σ) := by
    intro hab vw hv0 hv1
    rw [b_X5_lessBy_50 _ _ _ _ _ _ _ _ _ (by omega) (by omega) (by omega) (by omega), ek]
    have hc : kk = 0 ∨ kk = 1 ∨ kk = 2 ∨ kk = 3 ∨ kk = 4 ∨ kk = 5 := by omega
    rcases hc with e | e | e | e | e | e <;> subst e
    · simp (disch := omega) only [b_X5_lessBy_5, b_X5_lessBy_17, b_X5_lessBy_21, b_X5_lessBy_29, b_X5_lessBy_37, b_X5_lessBy_41, b_X5_lessBy_88, b_X5_lessBy_91, b_X5_lessBy_94, b_X5_lessBy_101, b_X5_lessBy_105, b_X5_lessBy_110, b_X5_lessBy_113, b_X5_lessBy_121, b_X5_lessBy_123, reduceIte, Int.reduceEq]
    · simp (disch := omega) only [b_X5_lessBy_5, b_X5_lessBy_17, b_X5_lessBy_21, b_X5_lessBy_29, b_X5_lessBy_37, b_X5_lessBy_41, b_X5_lessBy_88, b_X5_lessBy_91, b_X5_lessBy_94, b_X5_lessBy_101, b_X5_lessBy_105, b_X5_lessBy_110, b_X5_lessBy_113, b_X5_lessBy_121, b_X5_lessBy_123, reduceIte, Int.reduceEq]
    · simp (disch := omega) only [b_X5_lessBy_5, b_X5_lessBy_17, b_X5_lessBy_21, b_X5_lessBy_29, b_X5_lessBy_37, b_X5_lessBy_41, b_X5_lessBy_88, b_X5_lessBy_91, b_X5_lessBy_94, b_X5_lessBy_101, b_X5_lessBy_105, b_X5_lessBy_110, b_X5_lessBy_113, b_X5_lessBy_121, b_X5_lessBy_123, reduceIte, Int.reduceEq]
    · simp (disch := omega) only [b_X5_lessBy_5, b_X5_lessBy_17, b_X5_lessBy_21, b_X5_lessBy_29, b_X5_lessBy_37, b_X5_lessBy_41, b_X5_lessBy_88, b_X5_lessBy_91, b_X5_lessBy_94, b_X5_lessBy_101, b_X5_lessBy_105, b_X5_lessBy_110, b_X5_lessBy_113, b_X5_lessBy_121, b_X5_lessBy_123, reduceIte, Int.reduceEq]
    · simp (disch := omega) only [b_X5_lessBy_5, b_X5_lessBy_17, b_X5_lessBy_21, b_X5_lessBy_29, b_X5_lessBy_37, b_X5_lessBy_41, b_X5_lessBy_88, b_X5_lessBy_91, b_X5_lessBy_94, b_X5_lessBy_101, b_X5_lessBy_105, b_X5_lessBy_110, b_X5_lessBy_113, b_X5_lessBy_121, b_X5_lessBy_123, reduceIte, Int.reduceEq]
    · simp (disch := omega) only [b_X5_lessBy_5, b_X5_lessBy_17, b_X5_lessBy_21, b_X5_lessBy_29, b_X5_lessBy_37, b_X5_lessBy_41, b_X5_lessBy_88, b_X5_lessBy_91, b_X5_lessBy_94, b_X5_lessBy_101, b_X5_lessBy_105, b_X5_lessBy_110, b_X5_lessBy_113, b_X5_lessBy_121, b_X5_lessBy_123, reduceIte, Int.reduceEq, hl, Option.bind_some, Option.toList_some, Option.toList_none, List.cons_append, List.nil_append, List.append_nil]
      split <;> rfl
  have mid : ∀ (hab : Int) (u5 : AV), 0 ≤ hab → hab ≤ 1 → Rx k_X5_lessBy 29 [.inr (.inl (17, q)), .inl p, .inl day, .inl ff, .inl hab, u5] [.inl (3 + 3 * p), .inr (.inl (17, q))] σ = some (some (.inl (if kk = 1 then hab else if kk = 2 then (if ss < 50 then hab else 0) else if kk = 3 then (if ss < 50 then hab else 0) + ff.tdiv 3 else if kk = 4 then 1 + ff else if kk = 5 then (if 0 < loadF (σ 17 q) p then 2 * (1 + ff) else 0) else 1)), σ) := by
    intro hab u5 h7 h8
    rw [b_X5_lessBy_29 _ _ _ _ _ _ _ _ _ (by omega) (by omega) (by omega) (by omega), es]
    by_cases hs5 : ss < 50
    · rw [if_pos hs5, b_X5_lessBy_41, C_ofP _ _ (by omega) (by omega)]
      simp only [Option.bind_some, Option.toList_some, Option.toList_none, List.cons_append, List.nil_append, List.append_nil]
      rw [tail hab hab h7 h8]
      simp only [hs5, if_true]
    · rw [if_neg hs5, b_X5_lessBy_37, C_ofP _ _ (by omega) (by omega)]
      simp only [Option.bind_some, Option.toList_some, Option.toList_none, List.cons_append, List.nil_append, List.append_nil]
      rw [tail hab 0 (by omega) (by omega)]
      simp only [hs5, if_false]
  rw [b_X5_lessBy_0, C_ofP _ _ (by omega) (by omega)]
  simp only [Option.bind_some, Option.toList_some, Option.toList_none, List.cons_append, List.nil_append, List.append_nil]
  rw [b_X5_lessBy_5 _ _ _ _ _ _ _ _ _ (by omega) (by omega) (by rw [ef]; omega) (by omega) (by omega) (by rw [ef]; omega) (by rw [ef]; omega), ef]
  by_cases hh : day.tmod (ff + 1) = 0
  · rw [if_pos hh, b_X5_lessBy_17, C_ofP _ _ (by omega) (by omega)]
    simp only [Option.bind_some, Option.toList_some, Option.toList_none, List.cons_append, List.nil_append, List.append_nil]
    rw [mid 1 uns (by omega) (by omega)]
    simp only [hh, if_true]
  · rw [if_neg hh, b_X5_lessBy_21, C_ofP _ _ (by omega) (by omega)]
    simp only [Option.bind_some, Option.toList_some, Option.toList_none, List.cons_append, List.nil_append, List.append_nil]
    rw [mid 0 uns (by omega) (by omega)]
    simp only [hh, if_false]
theorem L_heav (q : Nat) (p : Int) (σ : St) (h : Iv1 (σ 17 q)) : ∀ (n : Nat) (t f : Int) (u : AV), 0 ≤ t → t + n = σ 17 q 1 → (f < 0 ∨ (0 ≤ f ∧ f < σ 17 q 1)) → Rx k_X5_heaviestOn 5 [.inr (.inl (17, q)), .inl p, .inl f, .inl t, u] [] σ = some (some (.inl (heavG (σ 17 q) p n t f)), σ) := by
  have hb := h.1
  unfold Iv0 at hb
  intro n
  induction n with
  | zero =>
    intro t f u h0 h1 hf
    rw [b_X5_heaviestOn_5, if_neg (by omega), b_X5_heaviestOn_99]
    rfl
  | succ n ih =>
    intro t f u h0 h1 hf
    have ht := h.2 t h0 (by omega)
    rw [heavG_s]
    rw [b_X5_heaviestOn_5, if_pos (by omega), b_X5_heaviestOn_12, C_isUp _ _ _ h0 (by omega)]
    simp only [Option.bind_some, Option.toList_some, Option.toList_none, List.cons_append, List.nil_append, List.append_nil]
    by_cases h2 : uq (σ 17 q) t = 1
    · rw [if_pos h2, b_X5_heaviestOn_17, if_neg (by decide), b_X5_heaviestOn_20, C_ofT _ _ (by omega) (by omega)]
      simp only [Option.bind_some, Option.toList_some, Option.toList_none, List.cons_append, List.nil_append, List.append_nil]
      rw [b_X5_heaviestOn_25 _ _ _ _ _ _ _ _ (by omega) (by omega) (by omega) (by omega)]
      by_cases h3 : on (σ 17 q) t = p
      · have hc : uq (σ 17 q) t = 1 ∧ on (σ 17 q) t = p := ⟨h2, h3⟩
        rw [if_pos (show σ 17 q (18 + 4 * t + 2).toNat = p from h3), b_X5_heaviestOn_35, if_pos hc]
        by_cases h4 : f < 0
        · rw [if_pos h4, if_pos h4, b_X5_heaviestOn_39, if_pos (by decide), b_X5_heaviestOn_91 _ _ _ _ _ _ (by omega) (by omega)]
          exact ih _ _ _ (by omega) (by omega) (by omega)
        · have hf := hf.resolve_left h4
          have hff := h.2 f hf.1 hf.2
          have w1 := ht.1; have w2 := ht.2.1; have w3 := hff.1; have w4 := hff.2.1
          rw [if_neg h4, if_neg h4, b_X5_heaviestOn_43, C_ofT _ _ (by omega) (by omega)]
          simp only [Option.bind_some, Option.toList_some, Option.toList_none, List.cons_append, List.nil_append, List.append_nil]
          rw [b_X5_heaviestOn_48 _ _ _ _ _ _ _ _ (by omega) (by omega) (by omega) (by omega), C_ofT _ _ (by omega) (by omega)]
          simp only [Option.bind_some, Option.toList_some, Option.toList_none, List.cons_append, List.nil_append, List.append_nil]
          unfold wt at w1 w2 w3 w4
          rw [b_X5_heaviestOn_56 _ _ _ _ _ _ _ _ _ (by omega) (by omega) (by omega) (by omega) (by omega) (by omega)]
          have em : σ 17 q (18 + 4 * t + 0).toNat - σ 17 q (18 + 4 * f + 0).toNat = wt (σ 17 q) t - wt (σ 17 q) f := rfl
          rw [em]
          by_cases h5 : 0 < wt (σ 17 q) t - wt (σ 17 q) f
          · rw [if_pos h5, b_X5_heaviestOn_91 _ _ _ _ _ _ (by omega) (by omega), if_pos h5]
            exact ih _ _ _ (by omega) (by omega) (by omega)
          · rw [if_neg h5, b_X5_heaviestOn_67, if_neg h5]
            by_cases h6 : wt (σ 17 q) t - wt (σ 17 q) f = 0
            · rw [if_pos h6, b_X5_heaviestOn_72, C_ofT _ _ (by omega) (by omega)]
              simp only [Option.bind_some, Option.toList_some, Option.toList_none, List.cons_append, List.nil_append, List.append_nil]
              rw [b_X5_heaviestOn_77 _ _ _ _ _ _ _ _ (by omega) (by omega) (by omega) (by omega), C_ofT _ _ (by omega) (by omega)]
              simp only [Option.bind_some, Option.toList_some, Option.toList_none, List.cons_append, List.nil_append, List.append_nil]
              rw [b_X5_heaviestOn_85 _ _ _ _ _ _ _ _ _ (by omega) (by omega) (by omega) (by omega)]
              by_cases h7 : pl (σ 17 q) t < pl (σ 17 q) f
              · rw [if_pos (show σ 17 q (18 + 4 * t + 1).toNat < σ 17 q (18 + 4 * f + 1).toNat from h7), b_X5_heaviestOn_91 _ _ _ _ _ _ (by omega) (by omega), if_pos ⟨h6, h7⟩]
                exact ih _ _ _ (by omega) (by omega) (by omega)
              · rw [if_neg (show ¬ σ 17 q (18 + 4 * t + 1).toNat < σ 17 q (18 + 4 * f + 1).toNat from h7), b_X5_heaviestOn_93 _ _ _ _ _ _ (by omega) (by omega), if_neg (fun z => h7 z.2)]
                exact ih _ _ _ (by omega) (by omega) (by omega)
            · rw [if_neg h6, b_X5_heaviestOn_93 _ _ _ _ _ _ (by omega) (by omega), if_neg (fun z => h6 z.1)]
              exact ih _ _ _ (by omega) (by omega) (by omega)
      · rw [if_neg (show ¬ σ 17 q (18 + 4 * t + 2).toNat = p from h3), b_X5_heaviestOn_32 _ _ _ _ _ _ (by omega) (by omega), if_neg (fun z => h3 z.2)]
        exact ih _ _ _ (by omega) (by omega) hf
    · rw [if_neg h2, b_X5_heaviestOn_17, if_pos rfl, b_X5_heaviestOn_93 _ _ _ _ _ _ (by omega) (by omega), if_neg (fun z => h2 z.1)]
      exact ih _ _ _ (by omega) (by omega) hf
theorem C_heaviestOn (q : Nat) (p : Int) (σ : St) (h : Iv1 (σ 17 q)) : Rx k_X5_heaviestOn 0 [.inr (.inl (17, q)), .inl p, uns, uns, uns] [] σ = some (some (.inl (heavF (σ 17 q) p)), σ) := by
  have hb := h.1
  unfold Iv0 at hb
  rw [b_X5_heaviestOn_0]
  exact L_heav q p σ h _ 0 (-9) uns (by omega) (by omega) (Or.inl (by decide))
theorem heavG_rg {R : Rw} {p : Int} : ∀ (n : Nat) (t f : Int), 0 ≤ t → (f < 0 ∨ (0 ≤ f ∧ f < t + n)) → heavG R p n t f < 0 ∨ (0 ≤ heavG R p n t f ∧ heavG R p n t f < t + n) := by
  intro n
  induction n with
  | zero => intro t f _ h; exact h
  | succ n ih =>
    intro t f h0 h
    rw [heavG_s]
    have h2 : ∀ g : Int, (g = t ∨ g = f) → heavG R p n (t + 1) g < 0 ∨ (0 ≤ heavG R p n (t + 1) g ∧ heavG R p n (t + 1) g < t + (n + 1 : Nat)) := by
      intro g hg
      have := ih (t + 1) g (by omega) (by omega)
      omega
    apply h2
    split
    · split
      · exact Or.inl rfl
      · split
        · exact Or.inl rfl
        · split
          · exact Or.inl rfl
          · exact Or.inr rfl
    · exact Or.inr rfl
theorem heavF_rg {R : Rw} (h : 0 ≤ R 1) (p : Int) : heavF R p < 0 ∨ (0 ≤ heavF R p ∧ heavF R p < R 1) := by
  have := heavG_rg (R := R) (p := p) (R 1).toNat 0 (-9) (by omega) (Or.inl (by decide))
  unfold heavF
  omega
theorem upG_lt (R : Rw) : ∀ n, upG R n < 2 ^ n := by
  intro n
  induction n with
  | zero => exact Nat.one_pos
  | succ n ih =>
    unfold upG
    refine Nat.or_lt_two_pow (Nat.lt_trans ih (Nat.pow_lt_pow_right (by decide) (Nat.lt_succ_self n))) ?_
    split
    · exact Nat.pow_lt_pow_right (by decide) (Nat.lt_succ_self n)
    · exact Nat.two_pow_pos _
theorem upG_lt10 (R : Rw) {n : Nat} (h : n ≤ 10) : upG R n < 1024 := Nat.lt_of_lt_of_le (upG_lt R n) (Nat.pow_le_pow_right (n := 2) (by decide) h)
theorem upG_bit (R : Rw) : ∀ n i, (upG R n).testBit i = (decide (i < n) && decide (uq R i = 1)) := by
  intro n
  induction n with
  | zero => intro i; simp [upG]
  | succ n ih =>
    intro i
    unfold upG
    rw [Nat.testBit_or, ih]
    by_cases e : i = n
    · subst e
      by_cases hu : uq R i = 1
      · simp [hu, Nat.testBit_two_pow_self]
      · simp [hu]
    · have h1 : (if uq R n = 1 then 2 ^ n else 0 : Nat).testBit i = false := by
        split
        · rw [Nat.testBit_two_pow]; simp; omega
        · simp
      rw [h1, Bool.or_false]
      have h2 : (decide (i < n + 1)) = decide (i < n) := by
        by_cases h3 : i < n
        · simp [h3]; omega
        · have : ¬ i < n + 1 := by omega
          simp [h3, this]
      rw [h2]
theorem L_upSet (q : Nat) (σ : St) (h : Iv1 (σ 17 q)) : ∀ (n m : Nat), (m : Int) + n = σ 17 q 1 → Rx k_X5_upSet 4 [.inr (.inl (17, q)), .inl (upG (σ 17 q) m : Nat), .inl m] [] σ = some (some (.inl (upG (σ 17 q) (m + n) : Nat)), σ) := by
  have hb := h.1
  unfold Iv0 at hb
  intro n
  induction n with
  | zero =>
    intro m h1
    rw [b_X5_upSet_4, if_neg (by omega), b_X5_upSet_30]
    rfl
  | succ n ih =>
    intro m h1
    have hm := h.2 m (by omega) (by omega)
    have k := ih (m + 1) (by omega)
    rw [b_X5_upSet_4, if_pos (by omega), b_X5_upSet_11, C_ofT _ _ (by omega) (by omega)]
    simp only [Option.bind_some, Option.toList_some, Option.toList_none, List.cons_append, List.nil_append, List.append_nil]
    rw [b_X5_upSet_17 _ _ _ _ _ _ _ (by omega) (by omega) (by omega) (by omega) (by omega) (by omega)]
    rw [show m + (n + 1) = m + 1 + n by omega, ← k]
    have e : bOr (upG (σ 17 q) m : Nat) (bShl (σ 17 q (18 + 4 * (m : Int) + 3).toNat) m) = (upG (σ 17 q) (m + 1) : Nat) := by
      have hlt := upG_lt10 (σ 17 q) (n := m) (by omega)
      have hp : 2 ^ m ≤ 2 ^ 10 := Nat.pow_le_pow_right (by decide) (by omega)
      show bOr (upG (σ 17 q) m : Nat) (bShl (uq (σ 17 q) m) m) = _
      rw [upG_s]
      rcases hm.2.2.2.2 with hu | hu
      · rw [hu, if_neg (by decide)]
        have := bShl_nat (x := 0) (k := m) (by omega) (by omega)
        rw [Nat.zero_mul] at this
        rw [show ((0 : Nat) : Int) = 0 from rfl] at this
        rw [this, show (0 : Int) = ((0 : Nat) : Int) from rfl, bOr_nat (by omega) (by omega)]
      · rw [hu, if_pos rfl, shl1 (by omega), bOr_nat (by omega) (by omega)]
    rw [e]
    rfl
theorem C_upSet (q : Nat) (σ : St) (h : Iv1 (σ 17 q)) : Rx k_X5_upSet 0 [.inr (.inl (17, q)), uns, uns] [] σ = some (some (.inl (upF (σ 17 q) : Nat)), σ) := by
  have hb := h.1
  unfold Iv0 at hb
  rw [b_X5_upSet_0]
  have key := L_upSet q σ h (σ 17 q 1).toNat 0 (by omega)
  rw [Nat.zero_add] at key
  exact key
theorem pcG_le (x : Nat) : ∀ n, pcG x n ≤ n := by
  intro n
  induction n with
  | zero => exact Nat.le_refl _
  | succ n ih => rw [pcG_s]; split <;> omega
theorem L_bits (x : Nat) (hx : x < 2147483648) (σ : St) : ∀ (n m : Nat), m + n = 10 → Rx k_X5_bits 4 [.inl (x : Int), .inl (pcG x m : Nat), .inl (m : Int)] [] σ = some (some (.inl (pcG x (m + n) : Nat)), σ) := by
  intro n
  induction n with
  | zero =>
    intro m h1
    rw [b_X5_bits_4, if_neg (by omega), b_X5_bits_24]
    rfl
  | succ n ih =>
    intro m h1
    have k := ih (m + 1) (by omega)
    have hle := pcG_le x m
    rw [b_X5_bits_4, if_pos (by omega)]
    have hb := bitS (x := x) (k := m) hx (by omega)
    rw [b_X5_bits_10 _ _ _ _ (by omega) (by omega) (by rw [hb]; split <;> omega) (by rw [hb]; split <;> omega), hb, show m + (n + 1) = m + 1 + n by omega, ← k]
    have e : ((pcG x m : Nat) : Int) + (if x.testBit m = true then 1 else 0) = (pcG x (m + 1) : Nat) := by
      rw [pcG_s]
      split <;> simp
    rw [e]
    rfl
theorem C_bits (x : Nat) (hx : x < 2147483648) (σ : St) : Rx k_X5_bits 0 [.inl (x : Int), uns, uns] [] σ = some (some (.inl (pc10 x : Nat)), σ) := by
  rw [b_X5_bits_0]
  exact L_bits x hx σ 10 0 rfl
