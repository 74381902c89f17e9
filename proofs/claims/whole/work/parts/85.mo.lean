/-! the reference: what was -/
theorem Iv.kw {R : Rw} (h : Iv R) {p w v : Int} (h0 : 0 ≤ p) (h1 : p < R 0) (hw : (w = 0 ∧ 0 ≤ v ∧ v ≤ 5) ∨ (w = 1 ∧ 0 ≤ v ∧ v ≤ 9)) : Iv (wrt R (3 + 3 * p + w).toNat v) := by
  have hb := h.1
  unfold Iv0 at hb
  obtain ⟨p1, p2, p3, p4, p5, p6⟩ := h.2.1 p h0 h1
  rcases hw with ⟨rfl, a, b⟩ | ⟨rfl, a, b⟩
  · have k := h.kfw h0 (by omega) (k := v) (f := fg R p) ⟨a, b⟩ ⟨p3, p4⟩
    have e : wrt (wrt R (3 + 3 * p + 0).toNat v) (3 + 3 * p + 1).toNat (fg R p) = wrt R (3 + 3 * p + 0).toNat v := by
      funext j
      by_cases hj : j = (3 + 3 * p + 1).toNat
      · rw [wrt_eq hj, wrt_ne (by omega), hj]; rfl
      · rw [wrt_ne hj]
    rw [e] at k
    exact k
  · have k := h.kfw h0 (by omega) (k := kd R p) (f := v) ⟨p1, p2⟩ ⟨a, b⟩
    have e : wrt R (3 + 3 * p + 0).toNat (kd R p) = R := by
      funext j
      by_cases hj : j = (3 + 3 * p + 0).toNat
      · rw [wrt_eq hj, hj]; rfl
      · rw [wrt_ne hj]
    rw [e] at k
    exact k
/-- are the strengths of a purpose as the row says, day by day -/
def wwG (V : Nat → Int) (p : Int) : Nat → Nat → Rw → Int → Int
  | 0, _, _, fl => fl
  | n + 1, j, R, fl => wwG V p n (j + 1) (dayF R) (if sg R p = V j then fl else 0)
theorem wwG_s (V : Nat → Int) (p : Int) (n j : Nat) (R : Rw) (fl : Int) : wwG V p (n + 1) j R fl = wwG V p n (j + 1) (dayF R) (if sg R p = V j then fl else 0) := rfl
theorem bAnd_f {f : Int} (h : f = 0 ∨ f = 1) : bAnd f 1 = f ∧ bAnd f 0 = 0 := by
  rcases h with rfl | rfl <;> decide
theorem L_wwI (V : Nat → Int) (M p w x3 x4 : Int) (hM : M ≤ 16) (hp : 0 ≤ p ∧ p < 5) : ∀ (n j : Nat) (fl : Int) (σ : St), (j : Int) + n = M → (fl = 0 ∨ fl = 1) → σ 16 0 10 = M → σ 20 0 = V → Iv (σ 17 1) → 0 ≤ σ 17 1 2 → σ 17 1 2 + n ≤ 20000 → ∃ σ', MS σ σ' ∧ (wwG V p n j (σ 17 1) fl = 0 ∨ wwG V p n j (σ 17 1) fl = 1) ∧ Rx k_X5_whatWas 81 [.inr (.inl (16, 0)), .inl p, .inl w, .inl x3, .inl x4, .inl fl, .inl (j : Int)] [] σ = Rx k_X5_whatWas 135 [.inr (.inl (16, 0)), .inl p, .inl w, .inl x3, .inl x4, .inl (wwG V p n j (σ 17 1) fl), .inl M] [] σ' := by
  intro n
  induction n with
  | zero =>
    intro j fl σ h1 hf hc hV hR h2 h3
    refine ⟨σ, MS.refl σ, hf, ?_⟩
    rw [b_X5_whatWas_81, if_neg (by omega), show (j : Int) = M by omega]
    rfl
  | succ n ih =>
    intro j fl σ h1 hf hc hV hR h2 h3
    obtain ⟨g, hd⟩ := C_day 1 σ hR h2 (by omega)
    obtain ⟨o1, o2, o3, o4, o5⟩ := dayF_ok hR
    have ms : MS σ (sR σ 1 (dayF (σ 17 1)) g) := MS.ofR o5
    have hf' : (if sg (σ 17 1) p = V j then fl else 0) = 0 ∨ (if sg (σ 17 1) p = V j then fl else 0) = 1 := by
      split
      · exact hf
      · exact Or.inl rfl
    obtain ⟨σ', k1, k2, k3⟩ := ih (j + 1) (if sg (σ 17 1) p = V j then fl else 0) (sR σ 1 (dayF (σ 17 1)) g) (by omega) hf' (by rw [ms.tag (by decide) (by decide) (by decide)]; exact hc) (by rw [ms.tag (by decide) (by decide) (by decide)]; exact hV) (by rw [sR_17]; exact o1) (by rw [sR_17, o4]; omega) (by rw [sR_17, o4]; omega)
    rw [sR_17] at k2 k3
    refine ⟨σ', ms.trans k1, k2, ?_⟩
    have es : σ 17 1 (3 + 3 * p + 2).toNat = sg (σ 17 1) p := rfl
    rw [b_X5_whatWas_81, if_pos (by omega), b_X5_whatWas_90, C_ofP _ _ (by omega) (by omega)]
    simp only [Option.bind_some, Option.toList_some, Option.toList_none, List.cons_append, List.nil_append, List.append_nil]
    rw [b_X5_whatWas_100 (h0 := by omega) (h1 := by omega) (h2 := by omega) (h3 := by omega) (g0a := by omega) (g0b := by omega), es, hV, Int.toNat_natCast, wwG_s]
    by_cases h4 : sg (σ 17 1) p = V j
    · rw [if_pos h4] at k3 ⊢
      rw [if_pos h4, b_X5_whatWas_113, hd]
      simp only [Option.bind_some, Option.toList_some, Option.toList_none, List.cons_append, List.nil_append, List.append_nil]
      rw [(bAnd_f hf).1, b_X5_whatWas_129 (g0a := by omega) (g0b := by omega)]
      exact k3
    · rw [if_neg h4] at k3 ⊢
      rw [if_neg h4, b_X5_whatWas_117, hd]
      simp only [Option.bind_some, Option.toList_some, Option.toList_none, List.cons_append, List.nil_append, List.append_nil]
      rw [(bAnd_f hf).2, b_X5_whatWas_129 (g0a := by omega) (g0b := by omega)]
      exact k3
