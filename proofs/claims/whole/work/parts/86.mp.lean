/-! the reference: what was, the call -/
def wwFl (S : Rw) (V : Nat → Int) (M : Nat) (p w v : Int) : Int := wwG V p M 0 (wrt S (3 + 3 * p + w).toNat v) 1
def wwO (S : Rw) (V : Nat → Int) (M : Nat) (p w : Int) : Nat → Nat → Nat → Nat
  | 0, _, b => b
  | n + 1, v, b => wwO S V M p w n (v + 1) (if wwFl S V M p w v = 0 then b else b ||| 2 ^ v)
theorem wwO_s (S : Rw) (V : Nat → Int) (M : Nat) (p w : Int) (n v b : Nat) : wwO S V M p w (n + 1) v b = wwO S V M p w n (v + 1) (if wwFl S V M p w v = 0 then b else b ||| 2 ^ v) := rfl
def wwA (S : Rw) (V : Nat → Int) (M p w : Int) : Int := (wwO S V M.toNat p w (if w = 0 then 6 else 10) 0 0 : Nat)
theorem L_wwO (σ : St) (h : Mok σ) (p w : Int) (hp : isP (σ 17 0) p) (hw : w = 0 ∨ w = 1) (hM0 : 0 ≤ σ 16 0 10) (hM1 : σ 16 0 10 ≤ 16) : ∀ (n v b : Nat) (u5 u6 : AV) (σ1 : St), v + n = (if w = 0 then 6 else 10) → b < 1024 → MS σ σ1 → ∃ σ', MS σ σ' ∧ Rx k_X5_whatWas 35 [.inr (.inl (16, 0)), .inl p, .inl w, .inl (b : Int), .inl (v : Int), u5, u6] [] σ1 = some (some (.inl (wwO (σ 17 0) (σ 20 0) (σ 16 0 10).toNat p w n v b : Nat)), σ') := by
  have hb := h.ct
  have hd := h.2.1
  have hd2 := h.2.2.1
  intro n
  induction n with
  | zero =>
    intro v b u5 u6 σ1 h1 h2 hk
    refine ⟨σ1, hk, ?_⟩
    rcases hw with rfl | rfl
    · rw [if_pos rfl] at h1
      rw [b_X5_whatWas_35, if_pos rfl, b_X5_whatWas_41, if_neg (by omega), b_X5_whatWas_157]
      rfl
    · rw [if_neg (by decide)] at h1
      rw [b_X5_whatWas_35, if_neg (by decide), b_X5_whatWas_46, if_neg (by omega), b_X5_whatWas_157]
      rfl
  | succ n ih =>
    intro v b u5 u6 σ1 h1 h2 hk
    have m1 := h.ms hk
    have e0 : σ1 17 0 = σ 17 0 := hk.row (by decide)
    have e16 : σ1 16 = σ 16 := hk.tag (by decide) (by decide) (by decide)
    have e20 : σ1 20 = σ 20 := hk.tag (by decide) (by decide) (by decide)
    have cp := m1.cp uns
    rw [e0] at cp
    have hv : v < 10 := by rcases hw with rfl | rfl; (rw [if_pos rfl] at h1; omega); (rw [if_neg (by decide)] at h1; omega)
    have hl : Rx k_X5_whatWas 35 [.inr (.inl (16, 0)), .inl p, .inl w, .inl (b : Int), .inl (v : Int), u5, u6] [] σ1 = Rx k_X5_whatWas 51 [.inr (.inl (16, 0)), .inl p, .inl w, .inl (b : Int), .inl (v : Int), u5, u6] [] σ1 := by
      rcases hw with rfl | rfl
      · rw [if_pos rfl] at h1
        rw [b_X5_whatWas_35, if_pos rfl, b_X5_whatWas_41, if_pos (by omega)]
      · rw [if_neg (by decide)] at h1
        rw [b_X5_whatWas_35, if_neg (by decide), b_X5_whatWas_46, if_pos (by omega)]
    have iw : Iv (wrt (σ 17 0) (3 + 3 * p + w).toNat (v : Int)) := h.1.kw hp.1 (by omega) (by
      rcases hw with rfl | rfl
      · rw [if_pos rfl] at h1; exact Or.inl ⟨rfl, by omega, by omega⟩
      · exact Or.inr ⟨rfl, by omega, by omega⟩)
    have hw01 : 0 ≤ w ∧ w ≤ 1 := by omega
    have w2 : wrt (σ 17 0) (3 + 3 * p + w).toNat (v : Int) 2 = σ 17 0 2 := wrt_ne (by omega)
    have k0 : MS σ1 (setR σ1 1 (wrt (σ 17 0) (3 + 3 * p + w).toNat (v : Int))) := MS.set (fun k hk => by rw [wrt_ne (by omega), m1.z k hk, e0])
    obtain ⟨σ2, k1, k2, k3⟩ := L_wwI (σ 20 0) (σ 16 0 10) p w (b : Int) (v : Int) hM1 ⟨hp.1, by omega⟩ (σ 16 0 10).toNat 0 1 (setR σ1 1 (wrt (σ 17 0) (3 + 3 * p + w).toNat (v : Int))) (by omega) (Or.inr rfl) (by rw [setR_tag _ _ _ (by decide), e16]) (by rw [setR_tag _ _ _ (by decide), e20]) (by rw [setR_at]; exact iw) (by rw [setR_at, w2]; omega) (by rw [setR_at, w2]; omega)
    rw [setR_at] at k3
    have k4 := hk.trans (k0.trans k1)
    have ef : wwG (σ 20 0) p (σ 16 0 10).toNat 0 (wrt (σ 17 0) (3 + 3 * p + w).toNat (v : Int)) 1 = wwFl (σ 17 0) (σ 20 0) (σ 16 0 10).toNat p w v := rfl
    rw [ef] at k3
    rw [hl, b_X5_whatWas_51, cp]
    simp only [Option.bind_some, Option.toList_some, Option.toList_none, List.cons_append, List.nil_append, List.append_nil]
    rw [b_X5_whatWas_65, C_ofP _ _ (by omega) (by omega)]
    simp only [Option.bind_some, Option.toList_some, Option.toList_none, List.cons_append, List.nil_append, List.append_nil]
    rw [b_X5_whatWas_73 (h0 := by omega) (h1 := by omega) (g0a := by omega) (g0b := by omega), up17s]
    rw [show ((0 : Nat) : Int) = 0 from rfl] at k3
    rw [k3, b_X5_whatWas_135, wwO_s]
    have hp2 : 2 ^ v < 1024 := Nat.lt_of_lt_of_le (Nat.pow_lt_pow_right (by decide) hv) (by decide)
    by_cases h5 : wwFl (σ 17 0) (σ 20 0) (σ 16 0 10).toNat p w v = 0
    · have eo : bOr (b : Int) 0 = (b : Int) := by
        have q := bOr_nat (a := b) (b := 0) (by omega) (by decide)
        rw [Nat.or_zero] at q
        exact q
      rw [if_pos h5, if_pos h5, b_X5_whatWas_148 (g0a := by omega) (g0b := by omega), eo]
      exact ih (v + 1) b _ _ _ (by omega) h2 k4
    · have eo : bOr (b : Int) (bShl 1 (v : Int)) = ((b ||| 2 ^ v : Nat) : Int) := by rw [shl1 (by omega), bOr_nat (by omega) (by omega)]
      rw [if_neg h5, if_neg h5, b_X5_whatWas_141 (g0a := by omega) (g0b := by omega), eo]
      exact ih (v + 1) _ _ _ _ (by omega) (Nat.or_lt_two_pow (n := 10) h2 hp2) k4
theorem M_whatWas (p w : Int) (σ : St) (u3 u4 u5 u6 : AV) (h : Mok σ) (hM0 : 0 ≤ σ 16 0 10) (hM1 : σ 16 0 10 ≤ 16) : Q (fun z => Rx k_X5_whatWas 0 [.inr (.inl (16, 0)), .inl p, .inl w, u3, u4, u5, u6] [] σ = some z) σ (balB (σ 17 0) p w) (wwA (σ 17 0) (σ 20 0) (σ 16 0 10) p w) := by
  unfold balB
  by_cases h1 : isP (σ 17 0) p
  · have l1 : Rx k_X5_whatWas 0 [.inr (.inl (16, 0)), .inl p, .inl w, u3, u4, u5, u6] [] σ = if (if 0 ≤ w ∧ w ≤ 1 then (1 : Int) else 0) = 0 then Rx k_X5_whatWas 23 [.inr (.inl (16, 0)), .inl p, .inl w, u3, u4, u5, u6] [] σ else Rx k_X5_whatWas 30 [.inr (.inl (16, 0)), .inl p, .inl w, u3, u4, u5, u6] [] σ := by
      rw [b_X5_whatWas_0, h.purp, if_pos h1]
      simp only [Option.bind_some, Option.toList_some, Option.toList_none, List.cons_append, List.nil_append, List.append_nil]
      rw [b_X5_whatWas_5, if_neg (by decide), b_X5_whatWas_14, C_isIn]
      simp only [Option.bind_some, Option.toList_some, Option.toList_none, List.cons_append, List.nil_append, List.append_nil]
      rw [b_X5_whatWas_20]
    rw [if_pos h1, l1]
    by_cases h2 : 0 ≤ w ∧ w ≤ 1
    · obtain ⟨σ', k1, k2⟩ := L_wwO σ h p w h1 (by omega) hM0 hM1 (if w = 0 then 6 else 10) 0 0 u5 u6 σ (by omega) (by decide) (MS.refl σ)
      rw [if_pos h2, if_neg (by decide), if_pos h2]
      refine Q_ok k1 ?_
      rw [b_X5_whatWas_30]
      exact k2
    · rw [if_neg h2, if_pos rfl, if_neg h2]
      refine Q_no (by decide) ?_
      rw [b_X5_whatWas_23, h.no (by decide) (by decide)]
      simp only [Option.bind_some, Option.toList_some, Option.toList_none, List.cons_append, List.nil_append, List.append_nil]
      rw [b_X5_whatWas_29]
  · rw [if_neg h1]
    refine Q_no (by decide) ?_
    rw [b_X5_whatWas_0, h.purp, if_neg h1]
    simp only [Option.bind_some, Option.toList_some, Option.toList_none, List.cons_append, List.nil_append, List.append_nil]
    rw [b_X5_whatWas_5, if_pos rfl, b_X5_whatWas_8, h.no (by decide) (by decide)]
    simp only [Option.bind_some, Option.toList_some, Option.toList_none, List.cons_append, List.nil_append, List.append_nil]
    rw [b_X5_whatWas_13]
