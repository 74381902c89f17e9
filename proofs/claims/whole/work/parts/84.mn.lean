/-! the reference: letter; a row with another kind and figure -/
def letB (c m : Int) : Int := if c < 0 then -4 else if 255 < c ∨ m = 96 then -6 else 0
theorem M_letter (c : Int) (σ : St) (h : Mok σ) (h0 : 0 ≤ σ 16 0 9) (h1 : σ 16 0 9 ≤ 96) : Rx k_X5_letter 0 [.inr (.inl (16, 0)), .inl c] [] σ = some (some (.inl (if letB c (σ 16 0 9) = 0 then σ 16 0 9 + 1 else letB c (σ 16 0 9))), if letB c (σ 16 0 9) = 0 then up (up σ 19 0 (σ 16 0 9).toNat c) 16 0 9 (σ 16 0 9 + 1) else noS σ (letB c (σ 16 0 9))) := by
  have e19 : up σ 19 0 (σ 16 0 9).toNat c 16 = σ 16 := up_t (by decide)
  have e9 : ∀ (s : St) (w : Int), up s 16 0 9 w 16 0 9 = w := fun s w => by unfold up; rw [if_pos ⟨rfl, rfl, rfl⟩]
  have h6 : Rx k_X5_letter 27 [.inr (.inl (16, 0)), .inl c] [] σ = some (some (.inl (-6)), noS σ (-6)) := by
    rw [b_X5_letter_27, h.no (by decide) (by decide)]
    simp only [Option.bind_some, Option.toList_some, Option.toList_none, List.cons_append, List.nil_append, List.append_nil]
    rw [b_X5_letter_33]
  rw [b_X5_letter_0]
  unfold letB
  by_cases h2 : c < 0
  · rw [if_pos h2, if_pos h2, if_neg (by decide), if_neg (by decide), b_X5_letter_4, h.no (by decide) (by decide)]
    simp only [Option.bind_some, Option.toList_some, Option.toList_none, List.cons_append, List.nil_append, List.append_nil]
    rw [b_X5_letter_10]
  · rw [if_neg h2, if_neg h2, b_X5_letter_11]
    by_cases h3 : 255 < c
    · rw [if_pos h3, if_pos (Or.inl h3), if_neg (by decide), if_neg (by decide), h6]
    · rw [if_neg h3, b_X5_letter_18]
      by_cases h4 : σ 16 0 9 = 96
      · rw [if_pos h4, if_pos (Or.inr h4), if_neg (by decide), if_neg (by decide), h6]
      · rw [if_neg h4, if_neg (show ¬ (255 < c ∨ σ 16 0 9 = 96) by omega), if_pos rfl, if_pos rfl, b_X5_letter_34 _ _ h0 (by omega) (by rw [e19]; omega) (by rw [e19]; omega), e9, e19]
theorem Iv.kfw {R : Rw} (h : Iv R) {p k f : Int} (h0 : 0 ≤ p) (h1 : p < 5) (hk : 0 ≤ k ∧ k ≤ 5) (hf : 0 ≤ f ∧ f ≤ 9) : Iv (wrt (wrt R (3 + 3 * p + 0).toNat k) (3 + 3 * p + 1).toNat f) := by
  obtain ⟨i0, iP, iT, iD⟩ := h
  have e : ∀ j : Nat, j ≠ (3 + 3 * p + 0).toNat → j ≠ (3 + 3 * p + 1).toNat → wrt (wrt R (3 + 3 * p + 0).toNat k) (3 + 3 * p + 1).toNat f j = R j := fun j a b => by rw [wrt_ne b, wrt_ne a]
  have w0 := e 0 (by omega) (by omega)
  have w1 := e 1 (by omega) (by omega)
  have hb := i0
  unfold Iv0 at hb
  have et : ∀ t, 0 ≤ t → wt (wrt (wrt R (3 + 3 * p + 0).toNat k) (3 + 3 * p + 1).toNat f) t = wt R t ∧ pl (wrt (wrt R (3 + 3 * p + 0).toNat k) (3 + 3 * p + 1).toNat f) t = pl R t ∧ on (wrt (wrt R (3 + 3 * p + 0).toNat k) (3 + 3 * p + 1).toNat f) t = on R t ∧ uq (wrt (wrt R (3 + 3 * p + 0).toNat k) (3 + 3 * p + 1).toNat f) t = uq R t := fun t ht => ⟨e _ (by omega) (by omega), e _ (by omega) (by omega), e _ (by omega) (by omega), e _ (by omega) (by omega)⟩
  refine ⟨by unfold Iv0; rw [w0, w1]; exact i0, ?_, ?_, ?_⟩
  · intro s a b
    rw [w0] at b
    have q := iP s a b
    have e3 : sg (wrt (wrt R (3 + 3 * p + 0).toNat k) (3 + 3 * p + 1).toNat f) s = sg R s := e _ (by omega) (by omega)
    rw [e3]
    by_cases hs : s = p
    · have e1 : kd (wrt (wrt R (3 + 3 * p + 0).toNat k) (3 + 3 * p + 1).toNat f) s = k := by unfold kd; rw [hs, wrt_ne (by omega), wrt_eq rfl]
      have e2 : fg (wrt (wrt R (3 + 3 * p + 0).toNat k) (3 + 3 * p + 1).toNat f) s = f := by unfold fg; rw [hs, wrt_eq rfl]
      rw [e1, e2]; omega
    · have e1 : kd (wrt (wrt R (3 + 3 * p + 0).toNat k) (3 + 3 * p + 1).toNat f) s = kd R s := e _ (by omega) (by omega)
      have e2 : fg (wrt (wrt R (3 + 3 * p + 0).toNat k) (3 + 3 * p + 1).toNat f) s = fg R s := e _ (by omega) (by omega)
      rw [e1, e2]; exact q
  · intro t a b
    rw [w1] at b
    obtain ⟨e1, e2, e3, e4⟩ := et t a
    rw [e1, e2, e3, e4, w0]
    exact iT t a b
  · intro t t' a b a' b' q
    rw [w1] at b b'
    rw [(et t a).2.1, (et t' a').2.1] at q
    exact iD t t' a b a' b' q
