/-! the class's changes -/
/-- a change: refused with B, or answered A with the rack made R' -/
def XW (v : Option AV × St → Prop) (σ : St) (B A : Int) (R' : Rw) : Prop := ∃ σ', (if B = 0 then (FR 0 σ σ' ∧ RK σ' 0 R') else σ' = noX σ B) ∧ v (some (.inl (if B = 0 then A else B)), σ')
theorem XW_no {v : Option AV × St → Prop} {σ : St} {B A : Int} {R' : Rw} (h : B ≠ 0) (k : v (some (.inl B), noX σ B)) : XW v σ B A R' := ⟨noX σ B, by rw [if_neg h], by rw [if_neg h]; exact k⟩
theorem XW_ok {v : Option AV × St → Prop} {σ σ' : St} {A : Int} {R' : Rw} (f : FR 0 σ σ') (g : RK σ' 0 R') (k : v (some (.inl A), σ')) : XW v σ 0 A R' := ⟨σ', by rw [if_pos rfl]; exact ⟨f, g⟩, by rw [if_pos rfl]; exact k⟩
theorem N_leans (t p : Int) (σ : St) (R : Rw) (h : RK σ 0 R) (hx : Xok σ) (u : AV) : XW (fun z => Rx k_X4_leans 0 [.inr (.inl (0, 0)), .inl t, .inl p, u] [] σ = some z) σ (leaB R t p) (on R t) (wrt R (18 + 4 * t + 2).toNat p) := by
  have hb := h.1.1
  unfold Iv0 at hb
  unfold leaB
  have no : Rx k_X4_leans 22 [.inr (.inl (0, 0)), .inl t, .inl p, u] [] σ = some (some (.inl (-1)), noX σ (-1)) := by
    rw [b_X4_leans_22, K_refuse hx (by decide) (by decide)]
    simp only [Option.bind_some, Option.toList_some, Option.toList_none, List.cons_append, List.nil_append, List.append_nil]
    rw [b_X4_leans_27]
  by_cases h1 : isT R t
  · by_cases h2 : isP R p
    · obtain ⟨σ1, s1, f1, g1⟩ := K_leanOn h h1 h2
      obtain ⟨a1, a2, a3⟩ := h.2.2.2.1 t h1.1 (by have := h1.2; omega)
      have g0 := h1.1
      have g9 : t < 10 := by have := h1.2; omega
      rw [if_pos ⟨h1, h2⟩]
      refine XW_ok f1 g1 ?_
      rw [b_X4_leans_0, K_isThing h.2 h.1.1, if_pos h1]
      simp only [Option.bind_some, Option.toList_some, Option.toList_none, List.cons_append, List.nil_append, List.append_nil]
      rw [b_X4_leans_8, if_neg (by decide), b_X4_leans_11, K_isPurpose h.2 h.1.1, if_pos h2]
      simp only [Option.bind_some, Option.toList_some, Option.toList_none, List.cons_append, List.nil_append, List.append_nil]
      rw [b_X4_leans_19, if_neg (by decide), (b_X4_leans_28 (h0 := by omega) (h1 := by omega)), a3, s1]
      simp only [Option.bind_some, Option.toList_some, Option.toList_none, List.cons_append, List.nil_append, List.append_nil]
      rw [b_X4_leans_47]
    · rw [if_neg (fun z => h2 z.2)]
      refine XW_no (by decide) ?_
      rw [b_X4_leans_0, K_isThing h.2 h.1.1, if_pos h1]
      simp only [Option.bind_some, Option.toList_some, Option.toList_none, List.cons_append, List.nil_append, List.append_nil]
      rw [b_X4_leans_8, if_neg (by decide), b_X4_leans_11, K_isPurpose h.2 h.1.1, if_neg h2]
      simp only [Option.bind_some, Option.toList_some, Option.toList_none, List.cons_append, List.nil_append, List.append_nil]
      rw [b_X4_leans_19, if_pos rfl, no]
  · rw [if_neg (fun z => h1 z.1)]
    refine XW_no (by decide) ?_
    rw [b_X4_leans_0, K_isThing h.2 h.1.1, if_neg h1]
    simp only [Option.bind_some, Option.toList_some, Option.toList_none, List.cons_append, List.nil_append, List.append_nil]
    rw [b_X4_leans_8, if_pos rfl, no]
theorem N_moves (t c : Int) (σ : St) (R : Rw) (h : RK σ 0 R) (hx : Xok σ) (u : AV) : XW (fun z => Rx k_X4_moves 0 [.inr (.inl (0, 0)), .inl t, .inl c, u] [] σ = some z) σ (movB R t c) (pl R t) (wrt R (18 + 4 * t + 1).toNat c) := by
  have hb := h.1.1
  unfold Iv0 at hb
  unfold movB
  have no : Rx k_X4_moves 18 [.inr (.inl (0, 0)), .inl t, .inl c, u] [] σ = some (some (.inl (-1)), noX σ (-1)) := by
    rw [b_X4_moves_18, K_refuse hx (by decide) (by decide)]
    simp only [Option.bind_some, Option.toList_some, Option.toList_none, List.cons_append, List.nil_append, List.append_nil]
    rw [b_X4_moves_23]
  by_cases h1 : isT R t
  · have start : Rx k_X4_moves 0 [.inr (.inl (0, 0)), .inl t, .inl c, u] [] σ = if (if 0 ≤ c ∧ c ≤ 19 then (1 : Int) else 0) = 0 then Rx k_X4_moves 18 [.inr (.inl (0, 0)), .inl t, .inl c, u] [] σ else Rx k_X4_moves 24 [.inr (.inl (0, 0)), .inl t, .inl c, u] [] σ := by
      rw [b_X4_moves_0, K_isThing h.2 h.1.1, if_pos h1]
      simp only [Option.bind_some, Option.toList_some, Option.toList_none, List.cons_append, List.nil_append, List.append_nil]
      rw [b_X4_moves_8, if_neg (by decide), b_X4_moves_11, K_isPlace]
      simp only [Option.bind_some, Option.toList_some, Option.toList_none, List.cons_append, List.nil_append, List.append_nil]
      rw [b_X4_moves_15]
    rw [start]
    by_cases h2 : 0 ≤ c ∧ c ≤ 19
    · rw [if_pos h2, if_neg (show ¬ (1 : Int) = 0 by decide), if_pos (show isT R t ∧ 0 ≤ c ∧ c ≤ 19 from ⟨h1, h2⟩), b_X4_moves_24, K_isFreeFor h.2 h.1.1]
      simp only [Option.bind_some, Option.toList_some, Option.toList_none, List.cons_append, List.nil_append, List.append_nil]
      rw [b_X4_moves_33]
      by_cases h3 : whoF R c < 0 ∨ whoF R c = t
      · obtain ⟨σ1, s1, f1, g1⟩ := K_moveTo h h1 h2 h3
        obtain ⟨a1, a2, a3⟩ := h.2.2.2.1 t h1.1 (by have := h1.2; omega)
        have g0 := h1.1
        have g9 : t < 10 := by have := h1.2; omega
        rw [if_pos (show (0 ≤ c ∧ c ≤ 19) ∧ (whoF R c < 0 ∨ whoF R c = t) from ⟨h2, h3⟩), if_neg (show ¬ (1 : Int) = 0 by decide), if_pos h3]
        refine XW_ok f1 g1 ?_
        rw [(b_X4_moves_42 (h0 := by omega) (h1 := by omega)), a2, s1]
        simp only [Option.bind_some, Option.toList_some, Option.toList_none, List.cons_append, List.nil_append, List.append_nil]
        rw [b_X4_moves_61]
      · rw [if_neg (show ¬ ((0 ≤ c ∧ c ≤ 19) ∧ (whoF R c < 0 ∨ whoF R c = t)) from fun z => h3 z.2), if_pos (show (0 : Int) = 0 from rfl), if_neg h3]
        refine XW_no (by decide) ?_
        rw [b_X4_moves_36, K_refuse hx (by decide) (by decide)]
        simp only [Option.bind_some, Option.toList_some, Option.toList_none, List.cons_append, List.nil_append, List.append_nil]
        rw [b_X4_moves_41]
    · rw [if_neg h2, if_pos (show (0 : Int) = 0 from rfl), if_neg (show ¬ (isT R t ∧ 0 ≤ c ∧ c ≤ 19) from fun z => h2 z.2)]
      exact XW_no (by decide) no
  · rw [if_neg (fun z => h1 z.1)]
    refine XW_no (by decide) ?_
    rw [b_X4_moves_0, K_isThing h.2 h.1.1, if_neg h1]
    simp only [Option.bind_some, Option.toList_some, Option.toList_none, List.cons_append, List.nil_append, List.append_nil]
    rw [b_X4_moves_8, if_pos rfl, no]
theorem N_setsUp (t : Int) (σ : St) (R : Rw) (h : RK σ 0 R) (hx : Xok σ) : XW (fun z => Rx k_X4_setsUp 0 [.inr (.inl (0, 0)), .inl t] [] σ = some z) σ (tB R t) (1 - uq R t) (wrt R (18 + 4 * t + 3).toNat 1) := by
  unfold tB
  by_cases h1 : isT R t
  · have hT := h.1.2.2.1 t h1.1 (by have := h1.2; omega)
    rw [if_pos h1]
    have start : Rx k_X4_setsUp 0 [.inr (.inl (0, 0)), .inl t] [] σ = if (if isT R t ∧ uq R t = 1 then (1 : Int) else 0) = 0 then Rx k_X4_setsUp 30 [.inr (.inl (0, 0)), .inl t] [] σ else Rx k_X4_setsUp 28 [.inr (.inl (0, 0)), .inl t] [] σ := by
      rw [b_X4_setsUp_0, K_isThing h.2 h.1.1, if_pos h1]
      simp only [Option.bind_some, Option.toList_some, Option.toList_none, List.cons_append, List.nil_append, List.append_nil]
      rw [b_X4_setsUp_8, if_neg (by decide), b_X4_setsUp_17, K_isUp h.2 h.1.1]
      simp only [Option.bind_some, Option.toList_some, Option.toList_none, List.cons_append, List.nil_append, List.append_nil]
      rw [b_X4_setsUp_25]
    by_cases hu : uq R t = 1
    · have e : wrt R (18 + 4 * t + 3).toNat 1 = R := by
        funext j
        by_cases hj : j = (18 + 4 * t + 3).toNat
        · rw [wrt_eq hj, hj]; exact hu.symm
        · rw [wrt_ne hj]
      rw [e]
      refine XW_ok (FR.refl 0 σ) h ?_
      rw [start, if_pos (show isT R t ∧ uq R t = 1 from ⟨h1, hu⟩), if_neg (by decide), b_X4_setsUp_28, hu]
      rfl
    · obtain ⟨σ1, s1, f1, g1⟩ := K_raise h h1
      refine XW_ok f1 g1 ?_
      rw [start, if_neg (show ¬ (isT R t ∧ uq R t = 1) from fun z => hu z.2), if_pos rfl, b_X4_setsUp_30, s1, show uq R t = 0 by omega]
      simp only [Option.bind_some, Option.toList_some, Option.toList_none, List.cons_append, List.nil_append, List.append_nil]
      rw [b_X4_setsUp_38]
      rfl
  · rw [if_neg h1]
    refine XW_no (by decide) ?_
    rw [b_X4_setsUp_0, K_isThing h.2 h.1.1, if_neg h1]
    simp only [Option.bind_some, Option.toList_some, Option.toList_none, List.cons_append, List.nil_append, List.append_nil]
    rw [b_X4_setsUp_8, if_pos rfl, b_X4_setsUp_11, K_refuse hx (by decide) (by decide)]
    simp only [Option.bind_some, Option.toList_some, Option.toList_none, List.cons_append, List.nil_append, List.append_nil]
    rw [b_X4_setsUp_16]
theorem N_pushes (t : Int) (σ : St) (R : Rw) (h : RK σ 0 R) (hx : Xok σ) (u : AV) : XW (fun z => Rx k_X4_pushes 0 [.inr (.inl (0, 0)), .inl t, u] [] σ = some z) σ (wupF R t) (fellF R t).2 (fellF R t).1 := by
  have hw := wup_c R t
  by_cases h1 : wupF R t = 0
  · obtain ⟨ht, hu⟩ : isT R t ∧ uq R t = 1 := by
      rcases hw with k | k | k
      · exact k.2
      · omega
      · omega
    obtain ⟨σ1, s1, f1, g1⟩ := K_topple h t uns uns
    rw [(tp_up ht hu).1] at s1
    rw [(tp_up ht hu).2] at g1
    rw [h1]
    refine XW_ok f1 g1 ?_
    rw [b_X4_pushes_0, K_offUp h, h1]
    simp only [Option.bind_some, Option.toList_some, Option.toList_none, List.cons_append, List.nil_append, List.append_nil]
    rw [b_X4_pushes_5, if_pos (show -(0 : Int) = 0 from rfl), b_X4_pushes_18, s1]
    simp only [Option.bind_some, Option.toList_some, Option.toList_none, List.cons_append, List.nil_append, List.append_nil]
    rw [b_X4_pushes_26]
  · refine XW_no h1 ?_
    rw [b_X4_pushes_0, K_offUp h]
    simp only [Option.bind_some, Option.toList_some, Option.toList_none, List.cons_append, List.nil_append, List.append_nil]
    rw [b_X4_pushes_5, if_neg (show ¬ -(wupF R t) = 0 by omega), b_X4_pushes_10, K_refuse hx (by omega) (by omega), Int.neg_neg]
    simp only [Option.bind_some, Option.toList_some, Option.toList_none, List.cons_append, List.nil_append, List.append_nil]
    rw [b_X4_pushes_15]
theorem N_strong (p v : Int) (σ : St) (R : Rw) (h : RK σ 0 R) (hx : Xok σ) (u w : AV) : XW (fun z => Rx k_X4_strong 0 [.inr (.inl (0, 0)), .inl p, .inl v, u, w] [] σ = some z) σ (takB R p v) (sg R p) (wrt R (3 + 3 * p + 2).toNat v) := by
  have hb := h.1.1
  unfold Iv0 at hb
  unfold takB
  have hw := wby_c v 99
  by_cases h1 : isP R p
  · rw [if_pos h1]
    have start : Rx k_X4_strong 0 [.inr (.inl (0, 0)), .inl p, .inl v, u, w] [] σ = if -(wbyF v 99) = 0 then Rx k_X4_strong 33 [.inr (.inl (0, 0)), .inl p, .inl v, .inl (-(wbyF v 99)), w] [] σ else Rx k_X4_strong 27 [.inr (.inl (0, 0)), .inl p, .inl v, .inl (-(wbyF v 99)), w] [] σ := by
      rw [b_X4_strong_0, K_isPurpose h.2 h.1.1, if_pos h1]
      simp only [Option.bind_some, Option.toList_some, Option.toList_none, List.cons_append, List.nil_append, List.append_nil]
      rw [b_X4_strong_8, if_neg (by decide), b_X4_strong_11, K_outside]
      simp only [Option.bind_some, Option.toList_some, Option.toList_none, List.cons_append, List.nil_append, List.append_nil]
      rw [b_X4_strong_18]
    by_cases h2 : wbyF v 99 = 0
    · obtain ⟨a1, a2, a3, a4⟩ := h.2.2.1 p h1.1 (by have := h1.2; omega)
      have g0 := h1.1
      have g9 : p < 5 := by have := h1.2; omega
      rw [h2]
      refine XW_ok (FR.up 0 σ (t := 10) (by decide) (by decide) p.toNat v) (h.w10 h1 (by omega)) ?_
      rw [start, if_pos (by omega), (b_X4_strong_33 (h0 := by omega) (h1 := by omega)), a3]
    · refine XW_no h2 ?_
      rw [start, if_neg (by omega), b_X4_strong_27, K_refuse hx (by omega) (by omega), Int.neg_neg]
      simp only [Option.bind_some, Option.toList_some, Option.toList_none, List.cons_append, List.nil_append, List.append_nil]
      rw [b_X4_strong_32]
  · rw [if_neg h1]
    refine XW_no (by decide) ?_
    rw [b_X4_strong_0, K_isPurpose h.2 h.1.1, if_neg h1]
    simp only [Option.bind_some, Option.toList_some, Option.toList_none, List.cons_append, List.nil_append, List.append_nil]
    rw [b_X4_strong_8, if_pos rfl, b_X4_strong_21, if_neg (by decide), b_X4_strong_27, K_refuse hx (by decide) (by decide)]
    simp only [Option.bind_some, Option.toList_some, Option.toList_none, List.cons_append, List.nil_append, List.append_nil]
    rw [b_X4_strong_32]
theorem N_turn (p k f : Int) (σ : St) (R : Rw) (h : RK σ 0 R) (hx : Xok σ) (u w : AV) : XW (fun z => Rx k_X4_turn 0 [.inr (.inl (0, 0)), .inl p, .inl k, .inl f, u, w] [] σ = some z) σ (turB R p k f) (10 * kd R p + fg R p) (wrt (wrt R (3 + 3 * p + 0).toNat k) (3 + 3 * p + 1).toNat f) := by
  have hb := h.1.1
  unfold Iv0 at hb
  unfold turB
  have hw := wby_c f 9
  by_cases h1 : isP R p
  · rw [if_pos h1]
    have start : Rx k_X4_turn 0 [.inr (.inl (0, 0)), .inl p, .inl k, .inl f, u, w] [] σ = Rx k_X4_turn 17 [.inr (.inl (0, 0)), .inl p, .inl k, .inl f, u, w] [] σ := by
      rw [b_X4_turn_0, K_isPurpose h.2 h.1.1, if_pos h1]
      simp only [Option.bind_some, Option.toList_some, Option.toList_none, List.cons_append, List.nil_append, List.append_nil]
      rw [b_X4_turn_8, if_neg (by decide)]
    by_cases h3 : 0 ≤ k ∧ k ≤ 5
    · rw [if_pos h3]
      have st2 : Rx k_X4_turn 0 [.inr (.inl (0, 0)), .inl p, .inl k, .inl f, u, w] [] σ = if -(wbyF f 9) = 0 then Rx k_X4_turn 54 [.inr (.inl (0, 0)), .inl p, .inl k, .inl f, .inl (-(wbyF f 9)), w] [] σ else Rx k_X4_turn 47 [.inr (.inl (0, 0)), .inl p, .inl k, .inl f, .inl (-(wbyF f 9)), w] [] σ := by
        rw [start, b_X4_turn_17, if_neg (show ¬ k < 0 by omega), b_X4_turn_21, if_pos (show k < 6 by omega), b_X4_turn_33, K_outside]
        simp only [Option.bind_some, Option.toList_some, Option.toList_none, List.cons_append, List.nil_append, List.append_nil]
        rw [b_X4_turn_40]
      by_cases h2 : wbyF f 9 = 0
      · obtain ⟨a1, a2, a3, a4⟩ := h.2.2.1 p h1.1 (by have := h1.2; omega)
        have hP := h.1.2.1 p h1.1 (by have := h1.2; omega)
        have g0 := h1.1
        have g9 : p < 5 := by have := h1.2; omega
        rw [h2]
        refine XW_ok ((FR.up 0 σ (t := 8) (by decide) (by decide) p.toNat k).trans (FR.up 0 _ (t := 9) (by decide) (by decide) p.toNat f)) (h.wkf h1 h3 (by omega)) ?_
        rw [st2, if_pos (by omega), b_X4_turn_54 (h0 := by omega) (h1 := by omega) (g0a := by rw [a1]; omega) (g0b := by rw [a1]; omega) (g1a := by rw [a1, a2]; omega) (g1b := by rw [a1, a2]; omega), a1, a2]
      · refine XW_no h2 ?_
        rw [st2, if_neg (by omega), b_X4_turn_47, K_refuse hx (by omega) (by omega), Int.neg_neg]
        simp only [Option.bind_some, Option.toList_some, Option.toList_none, List.cons_append, List.nil_append, List.append_nil]
        rw [b_X4_turn_53]
    · rw [if_neg h3]
      refine XW_no (by decide) ?_
      have e : Rx k_X4_turn 17 [.inr (.inl (0, 0)), .inl p, .inl k, .inl f, u, w] [] σ = Rx k_X4_turn 27 [.inr (.inl (0, 0)), .inl p, .inl k, .inl f, u, w] [] σ := by
        rw [b_X4_turn_17]
        by_cases y : k < 0
        · rw [if_pos y]
        · rw [if_neg y, b_X4_turn_21, if_neg (by omega)]
      rw [start, e, b_X4_turn_27, K_refuse hx (by decide) (by decide)]
      simp only [Option.bind_some, Option.toList_some, Option.toList_none, List.cons_append, List.nil_append, List.append_nil]
      rw [b_X4_turn_32]
  · rw [if_neg h1]
    refine XW_no (by decide) ?_
    rw [b_X4_turn_0, K_isPurpose h.2 h.1.1, if_neg h1]
    simp only [Option.bind_some, Option.toList_some, Option.toList_none, List.cons_append, List.nil_append, List.append_nil]
    rw [b_X4_turn_8, if_pos rfl, b_X4_turn_11, K_refuse hx (by decide) (by decide)]
    simp only [Option.bind_some, Option.toList_some, Option.toList_none, List.cons_append, List.nil_append, List.append_nil]
    rw [b_X4_turn_16]
theorem N_days (x : Int) (σ : St) (R : Rw) (h : RK σ 0 R) (hd : Dk R) (hx : Xok σ) (u : AV) : XW (fun z => Rx k_X4_days 0 [.inr (.inl (0, 0)), .inl x, u] [] σ = some z) σ (dayB R x) (pc10 (upF (daysF x.toNat R)) : Nat) (daysF x.toNat R) := by
  have e2 := h.2.1.2.2.1
  have hd1 := hd.1
  have hd2 := hd.2
  unfold dayB
  have start : ∀ o : Int, o = (if x < 1 then 4 else if (if 999 - R 2 < 60 then 999 - R 2 else 60) < x then 6 else 0) → Rx k_X4_days 0 [.inr (.inl (0, 0)), .inl x, u] [] σ = if o = 0 then Rx k_X4_days 32 [.inr (.inl (0, 0)), .inl x, .inl o] [] σ else Rx k_X4_days 26 [.inr (.inl (0, 0)), .inl x, .inl o] [] σ := by
    intro o ho
    rw [b_X4_days_0 (g0a := by rw [e2]; omega) (g0b := by rw [e2]; omega), e2, K_outsideG, ← ho]
    simp only [Option.bind_some, Option.toList_some, Option.toList_none, List.cons_append, List.nil_append, List.append_nil]
    rw [b_X4_days_21]
  have no : ∀ o : Int, 0 ≤ o → o ≤ 6 → Rx k_X4_days 26 [.inr (.inl (0, 0)), .inl x, .inl o] [] σ = some (some (.inl (-o)), noX σ (-o)) := by
    intro o a b
    rw [b_X4_days_26, K_refuse hx a b]
    simp only [Option.bind_some, Option.toList_some, Option.toList_none, List.cons_append, List.nil_append, List.append_nil]
    rw [b_X4_days_31]
  by_cases h1 : x < 1
  · rw [if_pos h1]
    refine XW_no (by decide) ?_
    rw [start 4 (by rw [if_pos h1]), if_neg (by decide), no 4 (by decide) (by decide)]
  · rw [if_neg h1]
    have hm : (if 999 - R 2 < 60 then 999 - R 2 else 60) < x ↔ (60 < x ∨ 999 < R 2 + x) := by
      by_cases z : 999 - R 2 < 60
      · rw [if_pos z]; omega
      · rw [if_neg z]; omega
    by_cases h2 : 60 < x ∨ 999 < R 2 + x
    · rw [if_pos h2]
      refine XW_no (by decide) ?_
      rw [start 6 (by rw [if_neg h1, if_pos (hm.2 h2)]), if_neg (by decide), no 6 (by decide) (by decide)]
    · rw [if_neg h2]
      obtain ⟨σ1, s1, f1, g1⟩ := K_passDays h (d := x) (by omega) hd1 (by omega) uns
      refine XW_ok f1 g1 ?_
      rw [start 0 (by rw [if_neg h1, if_neg (fun z => h2 (hm.1 z))]), if_pos rfl, b_X4_days_32, s1]
      simp only [Option.bind_some, Option.toList_some, Option.toList_none, List.cons_append, List.nil_append, List.append_nil]
      rw [b_X4_days_40, K_standing g1.2 g1.1.1]
      simp only [Option.bind_some, Option.toList_some, Option.toList_none, List.cons_append, List.nil_append, List.append_nil]
      rw [b_X4_days_47]
