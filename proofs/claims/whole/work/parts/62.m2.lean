/-! a row with one thing's UP written; falls -/
theorem up_0 {R : Rw} {t v : Int} (h : 0 ≤ t) : wrt R (18 + 4 * t + 3).toNat v 0 = R 0 ∧ wrt R (18 + 4 * t + 3).toNat v 1 = R 1 ∧ wrt R (18 + 4 * t + 3).toNat v 2 = R 2 := by
  refine ⟨wrt_ne (by omega), wrt_ne (by omega), wrt_ne (by omega)⟩
theorem up_kd {R : Rw} {t v p : Int} (h : 0 ≤ t) (hp : 0 ≤ p) (h5 : p < 5) : kd (wrt R (18 + 4 * t + 3).toNat v) p = kd R p ∧ fg (wrt R (18 + 4 * t + 3).toNat v) p = fg R p ∧ sg (wrt R (18 + 4 * t + 3).toNat v) p = sg R p := by
  refine ⟨wrt_ne (by omega), wrt_ne (by omega), wrt_ne (by omega)⟩
theorem up_wt {R : Rw} {t v u : Int} (h : 0 ≤ t) (hu : 0 ≤ u) : wt (wrt R (18 + 4 * t + 3).toNat v) u = wt R u ∧ pl (wrt R (18 + 4 * t + 3).toNat v) u = pl R u ∧ on (wrt R (18 + 4 * t + 3).toNat v) u = on R u := by
  refine ⟨wrt_ne (by omega), wrt_ne (by omega), wrt_ne (by omega)⟩
theorem up_uq {R : Rw} {t v u : Int} (h : 0 ≤ t) (hu : 0 ≤ u) : uq (wrt R (18 + 4 * t + 3).toNat v) u = if u = t then v else uq R u := by
  by_cases e : u = t
  · rw [if_pos e]; exact wrt_eq (by rw [e])
  · rw [if_neg e]; exact wrt_ne (by omega)
theorem Iv1_up {R : Rw} (h : Iv1 R) {t v : Int} (h0 : 0 ≤ t) (hv : v = 0 ∨ v = 1) : Iv1 (wrt R (18 + 4 * t + 3).toNat v) := by
  obtain ⟨e0, e1, e2⟩ := up_0 (R := R) (v := v) h0
  refine ⟨?_, fun u hu hu1 => ?_⟩
  · unfold Iv0; rw [e0, e1]; exact h.1
  · rw [e1] at hu1
    obtain ⟨f1, f2, f3⟩ := up_wt (R := R) (v := v) h0 hu
    have h3 := h.2 u hu hu1
    rw [f1, f2, up_uq h0 hu]
    refine ⟨h3.1, h3.2.1, h3.2.2.1, h3.2.2.2.1, ?_⟩
    split
    · exact hv
    · exact h3.2.2.2.2
theorem who_specG {R : Rw} {c : Int} : ∀ (n : Nat) (t : Int), 0 ≤ t → whoG R c n t = -9 ∨ (t ≤ whoG R c n t ∧ whoG R c n t < t + n ∧ pl R (whoG R c n t) = c) := by
  intro n
  induction n with
  | zero => intro t _; exact Or.inl rfl
  | succ n ih =>
    intro t h0
    unfold whoG
    split
    · rename_i h; exact Or.inr ⟨by omega, by omega, h⟩
    · rcases ih (t + 1) (by omega) with h | h
      · exact Or.inl h
      · exact Or.inr ⟨by omega, by omega, h.2.2⟩
theorem who_spec {R : Rw} (h : 0 ≤ R 1) (c : Int) : whoF R c = -9 ∨ (0 ≤ whoF R c ∧ whoF R c < R 1 ∧ pl R (whoF R c) = c) := by
  rcases who_specG (R := R) (c := c) (R 1).toNat 0 (by omega) with h1 | h1
  · exact Or.inl h1
  · exact Or.inr ⟨h1.1, by have := h1.2.1; show whoG R c (R 1).toNat 0 < R 1; omega, h1.2.2⟩
theorem L_fells (q : Nat) (x : Int) (σ : St) : ∀ (k : Nat) (R : Rw) (n t w : Int), Iv1 R → (t < 0 ∨ (0 ≤ t ∧ t < R 1 ∧ 19 - pl R t < k)) → 0 ≤ n → n + k ≤ 100 →
    Rx k_X5_fells 14 [.inr (.inl (17, q)), .inl x, .inl n, .inl t, .inl w] [] (setR σ q R) = some (some (.inl (fellM k R t w n).2), setR σ q (fellM k R t w n).1) := by
  intro k
  induction k with
  | zero =>
    intro R n t w hR ht h0 h1
    have htn : t < 0 := by
      rcases ht with h | h
      · exact h
      · have := (hR.2 t h.1 h.2.1).2.2.2.1; omega
    rw [b_X5_fells_14, if_pos htn, b_X5_fells_79]
    rfl
  | succ k ih =>
    intro R n t w hR ht h0 h1
    unfold fellM
    by_cases htn : t < 0
    · rw [b_X5_fells_14, if_pos htn, b_X5_fells_79, if_pos htn]
    · obtain ⟨ht0, ht1, ht2⟩ : 0 ≤ t ∧ t < R 1 ∧ 19 - pl R t < (k + 1 : Nat) := by
        rcases ht with h | h
        · exact absurd h htn
        · exact h
      have hb := hR.1
      unfold Iv0 at hb
      have hi := hR.2 t ht0 ht1
      rw [b_X5_fells_14, if_neg htn, b_X5_fells_18, C_isUp _ _ _ ht0 (by omega), if_neg htn, setR_at]
      simp only [Option.bind_some, Option.toList_some, Option.toList_none, List.cons_append, List.nil_append, List.append_nil]
      by_cases hu : uq R t = 1
      · rw [if_pos hu, if_pos hu, b_X5_fells_23, if_neg (by decide), b_X5_fells_26, C_ofT _ _ (by omega) (by omega)]
        simp only [Option.bind_some, Option.toList_some, Option.toList_none, List.cons_append, List.nil_append, List.append_nil]
        rw [b_X5_fells_31 _ _ _ _ _ _ _ _ (by omega) (by omega) (by omega) (by omega), setR_at]
        by_cases hw : w < wt R t
        · rw [if_pos (show w < R (18 + 4 * t + 0).toNat from hw), if_pos hw, b_X5_fells_79]
        · rw [if_neg (show ¬ w < R (18 + 4 * t + 0).toNat from hw), if_neg hw, b_X5_fells_39, C_ofT _ _ (by omega) (by omega)]
          simp only [Option.bind_some, Option.toList_some, Option.toList_none, List.cons_append, List.nil_append, List.append_nil]
          rw [b_X5_fells_44 _ _ _ _ _ _ _ _ (by omega) (by omega) (by omega) (by omega), C_ofT _ _ (by omega) (by omega), setR_at]
          simp only [Option.bind_some, Option.toList_some, Option.toList_none, List.cons_append, List.nil_append, List.append_nil]
          rw [b_X5_fells_54 _ _ _ _ _ _ _ _ (by omega) (by omega) (by omega) (by omega) (by omega) (by omega), C_ofT _ _ (by omega) (by omega), up17s]
          simp only [Option.bind_some, Option.toList_some, Option.toList_none, List.cons_append, List.nil_append, List.append_nil]
          obtain ⟨e0, e1, e2⟩ := up_0 (R := R) (v := 0) ht0
          obtain ⟨f1, f2, f3⟩ := up_wt (R := R) (v := 0) ht0 ht0
          have hR' := Iv1_up hR (t := t) (v := 0) ht0 (Or.inl rfl)
          have f2' : setR σ q (wrt R (18 + 4 * t + 3).toNat 0) 17 q (18 + 4 * t + 1).toNat = pl R t := by rw [setR_at]; exact f2
          rw [b_X5_fells_67 _ _ _ _ _ _ _ _ _ (by omega) (by omega) (by omega) (by omega) (by rw [f2']; omega) (by rw [f2']; omega), f2', C_whoAt _ _ _ (by rw [setR_at, e1]; omega) (by rw [setR_at, e1]; omega), setR_at]
          simp only [Option.bind_some, Option.toList_some, Option.toList_none, List.cons_append, List.nil_append, List.append_nil]
          rw [b_X5_fells_75]
          have hwho := who_spec (R := wrt R (18 + 4 * t + 3).toNat 0) (by rw [e1]; omega) (pl R t + 1)
          refine ih _ _ _ _ hR' ?_ (by omega) (by omega)
          rcases hwho with h | ⟨g1, g2, g3⟩
          · left; rw [h]; decide
          · right
            refine ⟨g1, g2, ?_⟩
            rw [g3]
            omega
      · rw [if_neg hu, if_neg hu, b_X5_fells_23, if_pos rfl, b_X5_fells_79]
theorem C_fells (q : Nat) (t : Int) (σ : St) (h : Iv1 (σ 17 q)) (h0 : 0 ≤ t) (h1 : t < σ 17 q 1) : Rx k_X5_fells 0 [.inr (.inl (17, q)), .inl t, uns, uns, uns] [] σ = some (some (.inl (fellF (σ 17 q) t).2), setR σ q (fellF (σ 17 q) t).1) := by
  have hb := h.1
  unfold Iv0 at hb
  rw [b_X5_fells_0, C_ofT _ _ (by omega) (by omega)]
  simp only [Option.bind_some, Option.toList_some, Option.toList_none, List.cons_append, List.nil_append, List.append_nil]
  rw [b_X5_fells_9 _ _ _ _ _ _ _ _ (by omega) (by omega) (by omega) (by omega)]
  have key := L_fells q t σ 26 (σ 17 q) 0 t (wt (σ 17 q) t) h (Or.inr ⟨h0, h1, by have := (h.2 t h0 h1).2.2.1; omega⟩) (by omega) (by omega)
  rw [setR_self] at key
  exact key
