/-! the reference's changes to the row -/
/-- a change: refused with B, or answered A with the row made R' -/
def Wr (v : Option AV × St → Prop) (σ : St) (B A : Int) (R' : Rw) : Prop := v (some (.inl (if B = 0 then A else B)), if B = 0 then setR σ 0 R' else noS σ B)
theorem Wr_no {v : Option AV × St → Prop} {σ : St} {B A : Int} {R' : Rw} (h : B ≠ 0) (k : v (some (.inl B), noS σ B)) : Wr v σ B A R' := by unfold Wr; rw [if_neg h, if_neg h]; exact k
theorem Wr_ok {v : Option AV × St → Prop} {σ : St} {A : Int} {R' : Rw} (k : v (some (.inl A), setR σ 0 R')) : Wr v σ 0 A R' := by unfold Wr; rw [if_pos rfl, if_pos rfl]; exact k
theorem M_strong (p v : Int) (σ : St) (u w : AV) (h : Mok σ) : Wr (fun z => Rx k_X5_strong 0 [.inr (.inl (16, 0)), .inl p, .inl v, u, w] [] σ = some z) σ (takB (σ 17 0) p v) (sg (σ 17 0) p) (wrt (σ 17 0) (3 + 3 * p + 2).toNat v) := by
  have hb := h.ct
  unfold takB
  by_cases h1 : isP (σ 17 0) p
  · rw [if_pos h1]
    have hw := wby_c v 99
    have hl : Rx k_X5_strong 0 [.inr (.inl (16, 0)), .inl p, .inl v, u, w] [] σ = if wbyF v 99 = 0 then Rx k_X5_strong 29 [.inr (.inl (16, 0)), .inl p, .inl v, .inl (wbyF v 99), w] [] σ else Rx k_X5_strong 23 [.inr (.inl (16, 0)), .inl p, .inl v, .inl (wbyF v 99), w] [] σ := by
      rw [b_X5_strong_0, h.purp, if_pos h1]
      simp only [Option.bind_some, Option.toList_some, Option.toList_none, List.cons_append, List.nil_append, List.append_nil]
      rw [b_X5_strong_5, if_neg (by decide), b_X5_strong_8, C_wrongBy]
      simp only [Option.bind_some, Option.toList_some, Option.toList_none, List.cons_append, List.nil_append, List.append_nil]
      rw [b_X5_strong_14]
    rw [hl]
    by_cases h2 : wbyF v 99 = 0
    · rw [if_pos h2, h2]
      refine Wr_ok ?_
      rw [b_X5_strong_29, C_ofP _ _ (by omega) (by omega)]
      simp only [Option.bind_some, Option.toList_some, Option.toList_none, List.cons_append, List.nil_append, List.append_nil]
      rw [b_X5_strong_37 _ _ _ _ _ _ (by omega) (by omega) (by omega) (by omega), C_ofP _ _ (by omega) (by omega)]
      simp only [Option.bind_some, Option.toList_some, Option.toList_none, List.cons_append, List.nil_append, List.append_nil]
      rw [b_X5_strong_50 _ _ _ _ _ _ (by omega) (by omega) (by omega) (by omega), up17]
      rfl
    · rw [if_neg h2]
      refine Wr_no h2 ?_
      rw [b_X5_strong_23, h.no (by omega) (by omega)]
      simp only [Option.bind_some, Option.toList_some, Option.toList_none, List.cons_append, List.nil_append, List.append_nil]
      rw [b_X5_strong_28]
  · rw [if_neg h1]
    refine Wr_no (by decide) ?_
    rw [b_X5_strong_0, h.purp, if_neg h1]
    simp only [Option.bind_some, Option.toList_some, Option.toList_none, List.cons_append, List.nil_append, List.append_nil]
    rw [b_X5_strong_5, if_pos rfl, b_X5_strong_17, if_neg (by decide), b_X5_strong_23, h.no (by decide) (by decide)]
    simp only [Option.bind_some, Option.toList_some, Option.toList_none, List.cons_append, List.nil_append, List.append_nil]
    rw [b_X5_strong_28]
def movB (R : Rw) (t c : Int) : Int := if isT R t ∧ 0 ≤ c ∧ c ≤ 19 then (if whoF R c < 0 ∨ whoF R c = t then 0 else -3) else -1
theorem M_moves (t c : Int) (σ : St) (u w : AV) (h : Mok σ) : Wr (fun z => Rx k_X5_moves 0 [.inr (.inl (16, 0)), .inl t, .inl c, u, w] [] σ = some z) σ (movB (σ 17 0) t c) (pl (σ 17 0) t) (wrt (σ 17 0) (18 + 4 * t + 1).toNat c) := by
  have hb := h.ct
  unfold movB
  have hn : Rx k_X5_moves 15 [.inr (.inl (16, 0)), .inl t, .inl c, u, w] [] σ = some (some (.inl (-1)), noS σ (-1)) := by
    rw [b_X5_moves_15, h.no (by decide) (by decide)]
    simp only [Option.bind_some, Option.toList_some, Option.toList_none, List.cons_append, List.nil_append, List.append_nil]
    rw [b_X5_moves_20]
  by_cases h1 : isT (σ 17 0) t
  · have hl : Rx k_X5_moves 0 [.inr (.inl (16, 0)), .inl t, .inl c, u, w] [] σ = if (if 0 ≤ c ∧ c ≤ 19 then (1 : Int) else 0) = 0 then Rx k_X5_moves 15 [.inr (.inl (16, 0)), .inl t, .inl c, u, w] [] σ else Rx k_X5_moves 21 [.inr (.inl (16, 0)), .inl t, .inl c, u, w] [] σ := by
      rw [b_X5_moves_0, h.thin, if_pos h1]
      simp only [Option.bind_some, Option.toList_some, Option.toList_none, List.cons_append, List.nil_append, List.append_nil]
      rw [b_X5_moves_5, if_neg (by decide), b_X5_moves_8, C_isPlace]
      simp only [Option.bind_some, Option.toList_some, Option.toList_none, List.cons_append, List.nil_append, List.append_nil]
      rw [b_X5_moves_12]
    rw [hl]
    by_cases h2 : 0 ≤ c ∧ c ≤ 19
    · rw [if_pos h2, if_neg (by decide), if_pos ⟨h1, h2⟩, b_X5_moves_21, C_whoAt _ _ _ hb.2.2.1 hb.2.2.2]
      simp only [Option.bind_some, Option.toList_some, Option.toList_none, List.cons_append, List.nil_append, List.append_nil]
      rw [b_X5_moves_29]
      by_cases h3 : whoF (σ 17 0) c < 0 ∨ whoF (σ 17 0) c = t
      · have hm : (if whoF (σ 17 0) c < 0 then Rx k_X5_moves 46 [.inr (.inl (16, 0)), .inl t, .inl c, .inl (whoF (σ 17 0) c), w] [] σ else Rx k_X5_moves 34 [.inr (.inl (16, 0)), .inl t, .inl c, .inl (whoF (σ 17 0) c), w] [] σ) = Rx k_X5_moves 46 [.inr (.inl (16, 0)), .inl t, .inl c, .inl (whoF (σ 17 0) c), w] [] σ := by
          by_cases h4 : whoF (σ 17 0) c < 0
          · rw [if_pos h4]
          · rw [if_neg h4, b_X5_moves_34, if_pos (by omega)]
        rw [if_pos h3, hm]
        refine Wr_ok ?_
        rw [b_X5_moves_46, C_ofT _ _ (by omega) (by omega)]
        simp only [Option.bind_some, Option.toList_some, Option.toList_none, List.cons_append, List.nil_append, List.append_nil]
        rw [b_X5_moves_54 _ _ _ _ _ _ (by omega) (by omega) (by omega) (by omega), C_ofT _ _ (by omega) (by omega)]
        simp only [Option.bind_some, Option.toList_some, Option.toList_none, List.cons_append, List.nil_append, List.append_nil]
        rw [b_X5_moves_67 _ _ _ _ _ _ (by omega) (by omega) (by omega) (by omega), up17]
        rfl
      · rw [if_neg h3, if_neg (by omega), b_X5_moves_34, if_neg (by omega)]
        refine Wr_no (by decide) ?_
        rw [b_X5_moves_39, h.no (by decide) (by decide)]
        simp only [Option.bind_some, Option.toList_some, Option.toList_none, List.cons_append, List.nil_append, List.append_nil]
        rw [b_X5_moves_45]
    · rw [if_neg h2, if_pos rfl, if_neg (fun z => h2 z.2)]
      exact Wr_no (by decide) hn
  · rw [if_neg (fun z => h1 z.1)]
    refine Wr_no (by decide) ?_
    rw [b_X5_moves_0, h.thin, if_neg h1]
    simp only [Option.bind_some, Option.toList_some, Option.toList_none, List.cons_append, List.nil_append, List.append_nil]
    rw [b_X5_moves_5, if_pos rfl, hn]
def leaB (R : Rw) (t p : Int) : Int := if isT R t ∧ isP R p then 0 else -1
theorem M_leans (t p : Int) (σ : St) (u : AV) (h : Mok σ) : Wr (fun z => Rx k_X5_leans 0 [.inr (.inl (16, 0)), .inl t, .inl p, u] [] σ = some z) σ (leaB (σ 17 0) t p) (on (σ 17 0) t) (wrt (σ 17 0) (18 + 4 * t + 2).toNat p) := by
  have hb := h.ct
  unfold leaB
  have hn : Rx k_X5_leans 16 [.inr (.inl (16, 0)), .inl t, .inl p, u] [] σ = some (some (.inl (-1)), noS σ (-1)) := by
    rw [b_X5_leans_16, h.no (by decide) (by decide)]
    simp only [Option.bind_some, Option.toList_some, Option.toList_none, List.cons_append, List.nil_append, List.append_nil]
    rw [b_X5_leans_21]
  by_cases h1 : isT (σ 17 0) t
  · have hl : Rx k_X5_leans 0 [.inr (.inl (16, 0)), .inl t, .inl p, u] [] σ = if (if isP (σ 17 0) p then (1 : Int) else 0) = 0 then Rx k_X5_leans 16 [.inr (.inl (16, 0)), .inl t, .inl p, u] [] σ else Rx k_X5_leans 22 [.inr (.inl (16, 0)), .inl t, .inl p, u] [] σ := by
      rw [b_X5_leans_0, h.thin, if_pos h1]
      simp only [Option.bind_some, Option.toList_some, Option.toList_none, List.cons_append, List.nil_append, List.append_nil]
      rw [b_X5_leans_5, if_neg (by decide), b_X5_leans_8, h.purp]
      simp only [Option.bind_some, Option.toList_some, Option.toList_none, List.cons_append, List.nil_append, List.append_nil]
      rw [b_X5_leans_13]
    rw [hl]
    by_cases h2 : isP (σ 17 0) p
    · rw [if_pos h2, if_neg (by decide), if_pos ⟨h1, h2⟩]
      refine Wr_ok ?_
      rw [b_X5_leans_22, C_ofT _ _ (by omega) (by omega)]
      simp only [Option.bind_some, Option.toList_some, Option.toList_none, List.cons_append, List.nil_append, List.append_nil]
      rw [b_X5_leans_30 _ _ _ _ _ (by omega) (by omega) (by omega) (by omega), C_ofT _ _ (by omega) (by omega)]
      simp only [Option.bind_some, Option.toList_some, Option.toList_none, List.cons_append, List.nil_append, List.append_nil]
      rw [b_X5_leans_42 _ _ _ _ _ (by omega) (by omega) (by omega) (by omega), up17]
      rfl
    · rw [if_neg h2, if_pos rfl, if_neg (fun z => h2 z.2)]
      exact Wr_no (by decide) hn
  · rw [if_neg (fun z => h1 z.1)]
    refine Wr_no (by decide) ?_
    rw [b_X5_leans_0, h.thin, if_neg h1]
    simp only [Option.bind_some, Option.toList_some, Option.toList_none, List.cons_append, List.nil_append, List.append_nil]
    rw [b_X5_leans_5, if_pos rfl, hn]
def turB (R : Rw) (p k f : Int) : Int := if isP R p then (if 0 ≤ k ∧ k ≤ 5 then wbyF f 9 else -2) else -1
theorem M_turn (p k f : Int) (σ : St) (u w x : AV) (h : Mok σ) : Wr (fun z => Rx k_X5_turn 0 [.inr (.inl (16, 0)), .inl p, .inl k, .inl f, u, w, x] [] σ = some z) σ (turB (σ 17 0) p k f) (10 * kd (σ 17 0) p + fg (σ 17 0) p) (wrt (wrt (σ 17 0) (3 + 3 * p + 0).toNat k) (3 + 3 * p + 1).toNat f) := by
  have hb := h.ct
  unfold turB
  by_cases h1 : isP (σ 17 0) p
  · have hl : Rx k_X5_turn 0 [.inr (.inl (16, 0)), .inl p, .inl k, .inl f, u, w, x] [] σ = if (if 0 ≤ k ∧ k ≤ 5 then (1 : Int) else 0) = 0 then Rx k_X5_turn 21 [.inr (.inl (16, 0)), .inl p, .inl k, .inl f, u, w, x] [] σ else Rx k_X5_turn 26 [.inr (.inl (16, 0)), .inl p, .inl k, .inl f, u, w, x] [] σ := by
      rw [b_X5_turn_0, h.purp, if_pos h1]
      simp only [Option.bind_some, Option.toList_some, Option.toList_none, List.cons_append, List.nil_append, List.append_nil]
      rw [b_X5_turn_5, if_neg (by decide), b_X5_turn_12, C_isIn]
      simp only [Option.bind_some, Option.toList_some, Option.toList_none, List.cons_append, List.nil_append, List.append_nil]
      rw [b_X5_turn_18]
    rw [if_pos h1, hl]
    by_cases h2 : 0 ≤ k ∧ k ≤ 5
    · have hw := wby_c f 9
      rw [if_pos h2, if_neg (by decide), if_pos h2, b_X5_turn_26, C_wrongBy]
      simp only [Option.bind_some, Option.toList_some, Option.toList_none, List.cons_append, List.nil_append, List.append_nil]
      rw [b_X5_turn_32]
      by_cases h3 : wbyF f 9 = 0
      · obtain ⟨p1, p2, p3, p4, p5, p6⟩ := h.1.2.1 p h1.1 (by omega)
        unfold kd fg at *
        rw [if_pos h3, h3]
        refine Wr_ok ?_
        rw [b_X5_turn_46, C_ofP _ _ (by omega) (by omega)]
        simp only [Option.bind_some, Option.toList_some, Option.toList_none, List.cons_append, List.nil_append, List.append_nil]
        rw [b_X5_turn_50, up17, up17, setR_at, setR_set]
        all_goals omega
      · rw [if_neg h3]
        refine Wr_no h3 ?_
        rw [b_X5_turn_39, h.no (by omega) (by omega)]
        simp only [Option.bind_some, Option.toList_some, Option.toList_none, List.cons_append, List.nil_append, List.append_nil]
        rw [b_X5_turn_45]
    · rw [if_neg h2, if_pos rfl, if_neg h2]
      refine Wr_no (by decide) ?_
      rw [b_X5_turn_21, if_neg (by decide), b_X5_turn_39, h.no (by decide) (by decide)]
      simp only [Option.bind_some, Option.toList_some, Option.toList_none, List.cons_append, List.nil_append, List.append_nil]
      rw [b_X5_turn_45]
  · rw [if_neg h1]
    refine Wr_no (by decide) ?_
    rw [b_X5_turn_0, h.purp, if_neg h1]
    simp only [Option.bind_some, Option.toList_some, Option.toList_none, List.cons_append, List.nil_append, List.append_nil]
    rw [b_X5_turn_5, if_pos rfl, b_X5_turn_8, if_neg (by decide), b_X5_turn_39, h.no (by decide) (by decide)]
    simp only [Option.bind_some, Option.toList_some, Option.toList_none, List.cons_append, List.nil_append, List.append_nil]
    rw [b_X5_turn_45]
