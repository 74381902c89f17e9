/-! the reference: lots, on -/
theorem pcG_leN (x : Nat) : ∀ n, pcG x n ≤ n := by
  intro n
  induction n with
  | zero => exact Nat.le_refl 0
  | succ n ih =>
    rw [pcG_s]
    split <;> omega
theorem updF_bd (R : Rw) (d : Int) : 0 ≤ updF R d ∧ updF R d ≤ 10 := by
  have := pcG_leN (upF (daysF d.toNat R)) 10
  unfold updF pc10
  omega
theorem strF_bd {R : Rw} (h : Iv R) : 0 ≤ strF R ∧ strF R ≤ 495 := by
  have hb := h.1
  unfold Iv0 at hb
  have := strG_bd h.2.1 (R 0).toNat (by omega)
  unfold strF
  omega
theorem up16_set (σ : St) (R : Rw) (s s' : Int) : up (setR (up σ 16 0 13 s) 1 R) 16 0 13 s' = setR (up σ 16 0 13 s') 1 R := by
  funext t r k
  unfold up setR
  dsimp only
  by_cases h : t = 17 ∧ r = 1
  · rw [if_neg (fun z => by omega), if_pos h, if_pos h]
  · rw [if_neg h, if_neg h]
    by_cases h2 : t = 16 ∧ r = 0 ∧ k = 13
    · rw [if_pos h2, if_pos h2]
    · rw [if_neg h2, if_neg h2, if_neg h2]
theorem up16_up (σ : St) (s s' : Int) : up (up σ 16 0 13 s) 16 0 13 s' = up σ 16 0 13 s' := by
  funext t r k
  unfold up
  by_cases h2 : t = 16 ∧ r = 0 ∧ k = 13
  · rw [if_pos h2, if_pos h2]
  · rw [if_neg h2, if_neg h2, if_neg h2]
theorem up16_self (σ : St) : up σ 16 0 13 (σ 16 0 13) = σ := by
  funext t r k
  unfold up
  by_cases h2 : t = 16 ∧ r = 0 ∧ k = 13
  · rw [if_pos h2, h2.1, h2.2.1, h2.2.2]
  · rw [if_neg h2]
theorem up16_at (σ : St) (s : Int) : up σ 16 0 13 s 16 0 13 = s := by unfold up; rw [if_pos ⟨rfl, rfl, rfl⟩]
theorem MS.u16 {σ σ' : St} (h : MS σ σ') (v : Int) : MS (up σ 16 0 13 v) (up σ' 16 0 13 v) := by
  intro t r k
  rcases h t r k with x | x | x | x
  · exact Or.inl x
  · exact Or.inr (Or.inl x)
  · exact Or.inr (Or.inr (Or.inl x))
  · refine Or.inr (Or.inr (Or.inr ?_))
    unfold up
    by_cases h2 : t = 16 ∧ r = 0 ∧ k = 13
    · rw [if_pos h2, if_pos h2]
    · rw [if_neg h2, if_neg h2]; exact x
theorem L_lotsI (σ : St) (h : Iv0 (σ 17 0)) (hP : 0 < σ 17 0 0) (x1 x2 x3 x4 x5 : Int) : ∀ (n m : Nat) (R : Rw) (s : Int), (m : Int) + n = σ 17 0 1 → Rx k_X5_lots 88 [.inr (.inl (16, 0)), .inl x1, .inl x2, .inl x3, .inl x4, .inl x5, .inl (m : Int)] [] (setR (up σ 16 0 13 s) 1 R) = Rx k_X5_lots 127 [.inr (.inl (16, 0)), .inl x1, .inl x2, .inl x3, .inl x4, .inl x5, .inl (σ 17 0 1)] [] (setR (up σ 16 0 13 (lotR (σ 17 0 0) n m R s).2) 1 (lotR (σ 17 0 0) n m R s).1) := by
  have hb := h
  unfold Iv0 at hb
  have e0 : ∀ (R : Rw) (s : Int), setR (up σ 16 0 13 s) 1 R 17 0 = σ 17 0 := fun R s => by rw [setR_in _ _ _ (by decide), up_t (by decide)]
  intro n
  induction n with
  | zero =>
    intro m R s h1
    rw [b_X5_lots_88, e0, if_neg (by omega), show (m : Int) = σ 17 0 1 by omega]
    rfl
  | succ n ih =>
    intro m R s h1
    have hd := drF_bd s hP
    have es : setR (up σ 16 0 13 s) 1 R 16 0 13 = s := by rw [setR_tag _ _ _ (by decide), up16_at]
    rw [b_X5_lots_88, e0, if_pos (by omega), b_X5_lots_99, C_ofT _ _ (by omega) (by omega)]
    simp only [Option.bind_some, Option.toList_some, Option.toList_none, List.cons_append, List.nil_append, List.append_nil]
    rw [b_X5_lots_108 (g0a := by omega) (g0b := by omega), e0, C_drawn _ _ (by omega), es, up16_set]
    simp only [Option.bind_some, Option.toList_some, Option.toList_none, List.cons_append, List.nil_append, List.append_nil]
    rw [b_X5_lots_120 (h0 := by omega) (h1 := by omega) (g0a := by omega) (g0b := by omega), up17s, lotR_s]
    exact ih (m + 1) _ _ (by omega)
def lotV (w : Int) (R : Rw) : Int := if w = 0 then updF R 20 else strF (daysF 20 R)
def lotO (R : Rw) (w : Int) : Nat → Int → Int → Int
  | 0, _, a => a
  | n + 1, s, a => lotO R w n (lotR (R 0) (R 1).toNat 0 R s).2 (a + lotV w (lotR (R 0) (R 1).toNat 0 R s).1)
theorem lotO_s (R : Rw) (w : Int) (n : Nat) (s a : Int) : lotO R w (n + 1) s a = lotO R w n (lotR (R 0) (R 1).toNat 0 R s).2 (a + lotV w (lotR (R 0) (R 1).toNat 0 R s).1) := rfl
theorem L_lots (σ : St) (h : Mok σ) (hP : 0 < σ 17 0 0) (N x2 w : Int) (hN : N ≤ 20) : ∀ (n : Nat) (k a s : Int) (u : AV) (σ1 : St), 0 ≤ k → k + n = N → 0 ≤ a → a ≤ 500 * k → MS (up σ 16 0 13 s) σ1 → ∃ σ' s', MS (up σ 16 0 13 s') σ' ∧ Rx k_X5_lots 68 [.inr (.inl (16, 0)), .inl N, .inl x2, .inl w, .inl a, .inl k, u] [] σ1 = some (some (.inl (lotO (σ 17 0) w n s a)), σ') := by
  have hb := h.ct
  have hd := h.2.1
  have hd2 := h.2.2.1
  intro n
  induction n with
  | zero =>
    intro k a s u σ1 h0 h1 h2 h3 hk
    refine ⟨σ1, s, hk, ?_⟩
    rw [b_X5_lots_68, if_neg (by omega), b_X5_lots_162]
    rfl
  | succ n ih =>
    intro k a s u σ1 h0 h1 h2 h3 hk
    have m0 := h.u16 0 13 s
    have m1 := m0.ms hk
    have e0 : σ1 17 0 = σ 17 0 := by rw [hk.row (by decide), up_t (by decide)]
    have es : σ1 16 0 13 = s := by rw [hk.tag (by decide) (by decide) (by decide), up16_at]
    have cp := m1.cp uns
    rw [e0] at cp
    have hself : setR σ1 1 (σ 17 0) = setR (up σ1 16 0 13 s) 1 (σ 17 0) := by rw [← es, up16_self]
    have hI := L_lotsI σ1 m1.1.1 (by rw [e0]; exact hP) N x2 w a k (σ 17 0 1).toNat 0 (σ 17 0) s (by rw [e0]; omega)
    rw [e0] at hI
    obtain ⟨o1, o2, o3, o4, o5⟩ := lotR_ok hP (σ 17 0 1).toNat 0 (σ 17 0) s (by omega) h.1 rfl
    have key : ∀ (R' : Rw) (s' : Int), lotR (σ 17 0 0) (σ 17 0 1).toNat 0 (σ 17 0) s = (R', s') → ∃ σ' s', MS (up σ 16 0 13 s') σ' ∧ Rx k_X5_lots 68 [.inr (.inl (16, 0)), .inl N, .inl x2, .inl w, .inl a, .inl k, u] [] σ1 = some (some (.inl (lotO (σ 17 0) w (n + 1) s a)), σ') := by
      intro R' s' eR
      rw [eR] at o1 o2 o3 o4 o5 hI
      dsimp only at o1 o2 o3 o4 o5 hI
      obtain ⟨g, hg⟩ := C_upIn 20 (setR (up σ1 16 0 13 s') 1 R') (by rw [setR_at]; exact o1) (by decide) (by rw [setR_at, o4]; omega) (by rw [setR_at, o4]; omega)
      rw [setR_at, sR_setR] at hg
      obtain ⟨p1, p2, p3, p4, p5⟩ := daysF_ok (20 : Int).toNat o1
      have mz : ∀ j : Nat, 58 ≤ j → daysF (20 : Int).toNat R' j = up σ1 16 0 13 s' 17 1 j := fun j hj => by
        rw [p5 j hj, o5 j hj, up_t (by decide), ← e0]; exact (m1.z j hj).symm
      have k3 : MS (up σ 16 0 13 s') (sR (up σ1 16 0 13 s') 1 (daysF (20 : Int).toNat R') g) := by
        have q := hk.u16 s'
        rw [up16_up] at q
        exact q.trans (MS.ofR mz)
      have eu : ((pc10 (upF (daysF (20 : Int).toNat R')) : Nat) : Int) = updF R' 20 := rfl
      have ub := updF_bd R' 20
      have sb := strF_bd p1
      rw [eu] at hg
      rw [b_X5_lots_68, if_pos (by omega), b_X5_lots_74, cp]
      simp only [Option.bind_some, Option.toList_some, Option.toList_none, List.cons_append, List.nil_append, List.append_nil]
      rw [b_X5_lots_85, hself]
      rw [show ((0 : Nat) : Int) = 0 from rfl] at hI
      rw [hI, b_X5_lots_127, hg]
      simp only [Option.bind_some, Option.toList_some, Option.toList_none, List.cons_append, List.nil_append, List.append_nil]
      rw [b_X5_lots_133, lotO_s, eR]
      unfold lotV
      dsimp only
      by_cases h4 : w = 0
      · rw [if_pos h4, if_pos h4, b_X5_lots_141 (g0a := by omega) (g0b := by omega) (g1a := by omega) (g1b := by omega)]
        exact ih (k + 1) _ s' _ _ (by omega) (by omega) (by omega) (by omega) k3
      · have es2 := C_strengthAll 1 (sR (up σ1 16 0 13 s') 1 (daysF (20 : Int).toNat R') g) (by rw [sR_17]; exact p1) uns uns
        rw [sR_17] at es2
        rw [if_neg h4, if_neg h4, b_X5_lots_146, es2]
        simp only [Option.bind_some, Option.toList_some, Option.toList_none, List.cons_append, List.nil_append, List.append_nil]
        rw [b_X5_lots_153 (g0a := by omega) (g0b := by omega) (g1a := by omega) (g1b := by omega)]
        exact ih (k + 1) _ s' _ _ (by omega) (by omega) (by omega) (by omega) k3
    exact key _ _ rfl
