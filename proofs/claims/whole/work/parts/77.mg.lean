/-! the reference: the first to fall, and the balance -/
theorem downG_bd (any : Int) (mask : Nat) : ∀ (n : Nat) (k : Int) (R : Rw), downG any mask n k R = -9 ∨ (k ≤ downG any mask n k R ∧ downG any mask n k R < k + n) := by
  intro n
  induction n with
  | zero => intro k R; exact Or.inl rfl
  | succ n ih =>
    intro k R
    rw [downG_s]
    have := ih (k + 1) (dayF R)
    by_cases hc : (if any = 0 then upF R &&& mask ≠ mask else upF R &&& mask = 0)
    · rw [if_pos hc]; exact Or.inr (by omega)
    · rw [if_neg hc]; omega
theorem downF_bd (R : Rw) (mask : Nat) (any : Int) : downF R mask any = -9 ∨ (0 ≤ downF R mask any ∧ downF R mask any < 100) := by
  have := downG_bd any mask 100 0 R
  unfold downF
  omega
def firD (R : Rw) (c : Int) : Int := downF R (2 ^ (whoF R c).toNat) 1
def firG (R : Rw) : Nat → Int → Int → Int → Int × Int
  | 0, _, f, x => (f, x)
  | n + 1, c, f, x => if 0 ≤ whoF R c ∧ uq R (whoF R c) = 1 ∧ 0 ≤ firD R c ∧ firD R c < x then firG R n (c + 1) (whoF R c) (firD R c) else firG R n (c + 1) f x
theorem firG_s (R : Rw) (n : Nat) (c f x : Int) : firG R (n + 1) c f x = if 0 ≤ whoF R c ∧ uq R (whoF R c) = 1 ∧ 0 ≤ firD R c ∧ firD R c < x then firG R n (c + 1) (whoF R c) (firD R c) else firG R n (c + 1) f x := rfl
def firA (R : Rw) (w : Int) : Int := if w = 3 then downF R (2 ^ (R 1).toNat - 1) 1 else if w = 2 then (if downF R (upF R) 0 < 0 then 99 else downF R (upF R) 0 - 1) else pk w (firG R 20 0 (-9) 1000000000)
theorem L_first (σ : St) (h : Mok σ) (w : Int) : ∀ (n : Nat) (c f x : Int) (u5 u6 : AV) (σ1 : St), 0 ≤ c → c + n = 20 → MS σ σ1 → ∃ σ', MS σ σ' ∧ Rx k_X5_first 88 [.inr (.inl (16, 0)), .inl w, .inl f, .inl x, .inl c, u5, u6] [] σ1 = some (some (.inl (pk w (firG (σ 17 0) n c f x))), σ') := by
  have hb := h.ct
  have hd := h.2.1
  have hd2 := h.2.2.1
  intro n
  induction n with
  | zero =>
    intro c f x u5 u6 σ1 h0 h1 hk
    refine ⟨σ1, hk, ?_⟩
    rw [b_X5_first_88, if_neg (by omega), b_X5_first_162, show firG (σ 17 0) 0 c f x = (f, x) from rfl]
    unfold pk
    by_cases h2 : f < 0
    · rw [if_pos h2, b_X5_first_170, if_pos (Or.inl h2)]
    · rw [if_neg h2, b_X5_first_166]
      by_cases h3 : w = 0
      · rw [if_pos h3, b_X5_first_170, if_pos (Or.inr h3)]
      · rw [if_neg h3, b_X5_first_174, if_neg (fun z => by rcases z with z | z; exact h2 z; exact h3 z)]
  | succ n ih =>
    intro c f x u5 u6 σ1 h0 h1 hk
    have m1 := h.ms hk
    have e0 : σ1 17 0 = σ 17 0 := hk.row (by decide)
    rw [b_X5_first_88, if_pos (by omega), b_X5_first_95, C_whoAt 0 c σ1 (by rw [e0]; omega) (by rw [e0]; omega), e0]
    simp only [Option.bind_some, Option.toList_some, Option.toList_none, List.cons_append, List.nil_append, List.append_nil]
    rw [b_X5_first_104, firG_s]
    have hw := who_spec (R := σ 17 0) hb.2.2.1 c
    by_cases h2 : whoF (σ 17 0) c < 0
    · rw [if_pos h2, if_neg (fun z => by omega), b_X5_first_132, if_pos (by decide), b_X5_first_156 _ _ _ _ _ _ _ (by omega) (by omega)]
      exact ih (c + 1) _ _ _ _ σ1 (by omega) (by omega) hk
    · have ht : isT (σ 17 0) (whoF (σ 17 0) c) := by constructor <;> omega
      rw [if_neg h2, b_X5_first_111, C_isUp 0 _ σ1 ht.1 (by omega), e0]
      simp only [Option.bind_some, Option.toList_some, Option.toList_none, List.cons_append, List.nil_append, List.append_nil]
      rw [b_X5_first_120]
      by_cases h3 : uq (σ 17 0) (whoF (σ 17 0) c) = 1
      · obtain ⟨m, hm⟩ : ∃ m : Nat, whoF (σ 17 0) c = m := ⟨(whoF (σ 17 0) c).toNat, by omega⟩
        obtain ⟨σ2, k1, k2⟩ := C_fallsOf m σ1 (by omega) m1.1 m1.z m1.2.1 (by have := m1.2.2.1; omega)
        have k3 := hk.trans k1
        have ed : downF (σ1 17 0) (2 ^ m) 1 = firD (σ 17 0) c := by unfold firD; rw [e0, hm, Int.toNat_natCast]
        rw [ed] at k2
        rw [if_pos h3, if_neg (by decide), b_X5_first_123, hm, k2]
        simp only [Option.bind_some, Option.toList_some, Option.toList_none, List.cons_append, List.nil_append, List.append_nil]
        rw [b_X5_first_129]
        by_cases h4 : firD (σ 17 0) c < 0
        · rw [if_pos h4, if_neg (fun z => by omega), b_X5_first_156 _ _ _ _ _ _ _ (by omega) (by omega)]
          exact ih (c + 1) _ _ _ _ σ2 (by omega) (by omega) k3
        · rw [if_neg h4, b_X5_first_141]
          by_cases h5 : firD (σ 17 0) c < x
          · rw [if_pos h5, if_pos ⟨by omega, by rw [← hm]; exact h3, by omega, h5⟩, b_X5_first_150 _ _ _ _ _ _ _ (by omega) (by omega)]
            exact ih (c + 1) _ _ _ _ σ2 (by omega) (by omega) k3
          · rw [if_neg h5, if_neg (fun z => h5 z.2.2.2), b_X5_first_147 _ _ _ _ _ _ _ (by omega) (by omega)]
            exact ih (c + 1) _ _ _ _ σ2 (by omega) (by omega) k3
      · rw [if_neg h3, if_pos rfl, if_neg (fun z => h3 z.2.1), b_X5_first_132, if_pos (by decide), b_X5_first_156 _ _ _ _ _ _ _ (by omega) (by omega)]
        exact ih (c + 1) _ _ _ _ σ1 (by omega) (by omega) hk
def w3B (w : Int) : Int := if 0 ≤ w ∧ w ≤ 3 then 0 else -2
theorem M_first (w : Int) (σ : St) (u2 u3 u4 u5 u6 : AV) (h : Mok σ) : Q (fun z => Rx k_X5_first 0 [.inr (.inl (16, 0)), .inl w, u2, u3, u4, u5, u6] [] σ = some z) σ (w3B w) (firA (σ 17 0) w) := by
  have hb := h.ct
  have hd := h.2.1
  have hd2 := h.2.2.1
  unfold w3B
  have hl : Rx k_X5_first 0 [.inr (.inl (16, 0)), .inl w, u2, u3, u4, u5, u6] [] σ = if (if 0 ≤ w ∧ w ≤ 3 then (1 : Int) else 0) = 0 then Rx k_X5_first 9 [.inr (.inl (16, 0)), .inl w, u2, u3, u4, u5, u6] [] σ else Rx k_X5_first 16 [.inr (.inl (16, 0)), .inl w, u2, u3, u4, u5, u6] [] σ := by
    rw [b_X5_first_0, C_isIn]
    simp only [Option.bind_some, Option.toList_some, Option.toList_none, List.cons_append, List.nil_append, List.append_nil]
    rw [b_X5_first_6]
  rw [hl]
  by_cases h1 : 0 ≤ w ∧ w ≤ 3
  · have s0 : Rx k_X5_first 16 [.inr (.inl (16, 0)), .inl w, u2, u3, u4, u5, u6] [] σ = Rx k_X5_first 27 [.inr (.inl (16, 0)), .inl w, u2, u3, u4, u5, u6] [] (setR σ 1 (σ 17 0)) := by
      rw [b_X5_first_16, h.cp]
      simp only [Option.bind_some, Option.toList_some, Option.toList_none, List.cons_append, List.nil_append, List.append_nil]
    have m1 := h.ms h.cpS
    have e0 : setR σ 1 (σ 17 0) 17 0 = σ 17 0 := setR_in _ _ _ (by decide)
    rw [if_pos h1, if_neg (by decide), if_pos h1, s0, b_X5_first_27]
    by_cases h3 : w = 3
    · obtain ⟨m, hm⟩ : ∃ m : Nat, σ 17 0 1 = m := ⟨(σ 17 0 1).toNat, by omega⟩
      have hp : 2 ^ m < 2147483648 := Nat.lt_of_lt_of_le (Nat.pow_lt_pow_right (by decide) (show m < 11 by omega)) (by decide)
      have hp1 : 0 < 2 ^ m := Nat.pow_pos (by decide)
      have em : bShl 1 (m : Int) - 1 = ((2 ^ m - 1 : Nat) : Int) := by rw [shl1 (by omega)]; omega
      obtain ⟨σ', k1, k2⟩ := C_downIn 1 (2 ^ m - 1) (by omega) (setR σ 1 (σ 17 0)) uns uns (by rw [setR_at]; exact h.1) (by rw [setR_at]; omega) (by rw [setR_at]; omega)
      rw [if_pos h3]
      refine Q_ok (h.cpS.trans k1) ?_
      rw [b_X5_first_32 _ _ _ _ _ _ _ (by rw [e0, hm, em]; omega) (by rw [e0, hm, em]; omega), e0, hm, em, k2, setR_at]
      simp only [Option.bind_some, Option.toList_some, Option.toList_none, List.cons_append, List.nil_append, List.append_nil]
      rw [b_X5_first_47]
      unfold firA
      rw [if_pos h3, hm, Int.toNat_natCast]
    · rw [if_neg h3, b_X5_first_48]
      by_cases h4 : w = 2
      · have hx := upF_lt hb.2.2.2
        obtain ⟨σ', k1, k2⟩ := C_downIn 0 (upF (σ 17 0)) hx (setR σ 1 (σ 17 0)) uns uns (by rw [setR_at]; exact h.1) (by rw [setR_at]; omega) (by rw [setR_at]; omega)
        have hq := downF_bd (σ 17 0) (upF (σ 17 0)) 0
        rw [if_pos h4]
        refine Q_ok (h.cpS.trans k1) ?_
        rw [b_X5_first_53, C_upSet 0 _ (by rw [e0]; exact h.1.to1), e0]
        simp only [Option.bind_some, Option.toList_some, Option.toList_none, List.cons_append, List.nil_append, List.append_nil]
        rw [b_X5_first_61, k2, setR_at]
        simp only [Option.bind_some, Option.toList_some, Option.toList_none, List.cons_append, List.nil_append, List.append_nil]
        rw [b_X5_first_65]
        unfold firA
        rw [if_neg h3, if_pos h4]
        by_cases h5 : downF (σ 17 0) (upF (σ 17 0)) 0 < 0
        · rw [if_pos h5, if_pos h5, b_X5_first_70]
        · rw [if_neg h5, if_neg h5, b_X5_first_75 _ _ _ _ _ _ _ (by omega) (by omega)]
      · obtain ⟨σ', k1, k2⟩ := L_first (setR σ 1 (σ 17 0)) m1 w 20 0 (-9) 1000000000 u5 u6 (setR σ 1 (σ 17 0)) (by decide) (by decide) (MS.refl _)
        rw [if_neg h4]
        refine Q_ok (h.cpS.trans k1) ?_
        rw [b_X5_first_79, k2, e0]
        unfold firA
        rw [if_neg h3, if_neg h4]
  · rw [if_neg h1, if_pos rfl, if_neg h1]
    refine Q_no (by decide) ?_
    rw [b_X5_first_9, h.no (by decide) (by decide)]
    simp only [Option.bind_some, Option.toList_some, Option.toList_none, List.cons_append, List.nil_append, List.append_nil]
    rw [b_X5_first_15]
