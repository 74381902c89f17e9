/-! the class's questions, on -/
theorem N_upThen (t d : Int) (σ : St) (R : Rw) (h : RK σ 0 R) (hd : Dk R) (hx : Xok σ) (u : AV) : XQ (fun z => Rx k_X4_upThen 0 [.inr (.inl (0, 0)), .inl t, .inl d, u] [] σ = some z) σ (utB R t d) (uq (daysF d.toNat R) t) := by
  unfold utB
  have hw := wby_c d 99
  by_cases h1 : isT R t
  · rw [if_pos h1]
    have start : Rx k_X4_upThen 0 [.inr (.inl (0, 0)), .inl t, .inl d, u] [] σ = if -(wbyF d 99) = 0 then Rx k_X4_upThen 33 [.inr (.inl (0, 0)), .inl t, .inl d, .inl (-(wbyF d 99))] [] σ else Rx k_X4_upThen 27 [.inr (.inl (0, 0)), .inl t, .inl d, .inl (-(wbyF d 99))] [] σ := by
      rw [b_X4_upThen_0, K_isThing h.2 h.1.1, if_pos h1]
      simp only [Option.bind_some, Option.toList_some, Option.toList_none, List.cons_append, List.nil_append, List.append_nil]
      rw [b_X4_upThen_8, if_neg (by decide), b_X4_upThen_11, K_outside]
      simp only [Option.bind_some, Option.toList_some, Option.toList_none, List.cons_append, List.nil_append, List.append_nil]
      rw [b_X4_upThen_18]
    by_cases h2 : wbyF d 99 = 0
    · obtain ⟨σ1, s1, f1, g1⟩ := K_behind h hd (d := d) (by omega) (by omega)
      have ho := daysF_ok d.toNat h.1
      have ht : isT (daysF d.toNat R) t := ⟨h1.1, by rw [ho.2.2.1]; exact h1.2⟩
      have hb := g1.1.2.2.1 t ht.1 (by have := ht.2; omega)
      rw [h2]
      refine XQ_ok f1.xs ?_
      rw [start, if_pos (by omega), b_X4_upThen_33, s1]
      simp only [Option.bind_some, Option.toList_some, Option.toList_none, List.cons_append, List.nil_append, List.append_nil]
      rw [b_X4_upThen_41, K_isUp g1.2 g1.1.1]
      simp only [Option.bind_some, Option.toList_some, Option.toList_none, List.cons_append, List.nil_append, List.append_nil]
      rw [b_X4_upThen_45]
      by_cases e3 : uq (daysF d.toNat R) t = 1
      · rw [if_pos (show isT (daysF d.toNat R) t ∧ uq (daysF d.toNat R) t = 1 from ⟨ht, e3⟩), if_neg (by decide), b_X4_upThen_48, e3]
      · rw [if_neg (show ¬ (isT (daysF d.toNat R) t ∧ uq (daysF d.toNat R) t = 1) from fun z => e3 z.2), if_pos rfl, b_X4_upThen_52, show uq (daysF d.toNat R) t = 0 by omega]
    · refine XQ_no h2 ?_
      rw [start, if_neg (by omega), b_X4_upThen_27, K_refuse hx (by omega) (by omega), Int.neg_neg]
      simp only [Option.bind_some, Option.toList_some, Option.toList_none, List.cons_append, List.nil_append, List.append_nil]
      rw [b_X4_upThen_32]
  · rw [if_neg h1]
    refine XQ_no (by decide) ?_
    rw [b_X4_upThen_0, K_isThing h.2 h.1.1, if_neg h1]
    simp only [Option.bind_some, Option.toList_some, Option.toList_none, List.cons_append, List.nil_append, List.append_nil]
    rw [b_X4_upThen_8, if_pos rfl, b_X4_upThen_21, if_neg (by decide), b_X4_upThen_27, K_refuse hx (by decide) (by decide)]
    simp only [Option.bind_some, Option.toList_some, Option.toList_none, List.cons_append, List.nil_append, List.append_nil]
    rw [b_X4_upThen_32]
theorem N_takes (p d : Int) (σ : St) (R : Rw) (h : RK σ 0 R) (hd : Dk R) (hx : Xok σ) (u v : AV) : XQ (fun z => Rx k_X4_takes 0 [.inr (.inl (0, 0)), .inl p, .inl d, u, v] [] σ = some z) σ (takB R p d) (takA R p d) := by
  unfold takB
  have hw := wby_c d 99
  by_cases h1 : isP R p
  · rw [if_pos h1]
    have start : Rx k_X4_takes 0 [.inr (.inl (0, 0)), .inl p, .inl d, u, v] [] σ = if -(wbyF d 99) = 0 then Rx k_X4_takes 33 [.inr (.inl (0, 0)), .inl p, .inl d, .inl (-(wbyF d 99)), v] [] σ else Rx k_X4_takes 27 [.inr (.inl (0, 0)), .inl p, .inl d, .inl (-(wbyF d 99)), v] [] σ := by
      rw [b_X4_takes_0, K_isPurpose h.2 h.1.1, if_pos h1]
      simp only [Option.bind_some, Option.toList_some, Option.toList_none, List.cons_append, List.nil_append, List.append_nil]
      rw [b_X4_takes_8, if_neg (by decide), b_X4_takes_11, K_outside]
      simp only [Option.bind_some, Option.toList_some, Option.toList_none, List.cons_append, List.nil_append, List.append_nil]
      rw [b_X4_takes_18]
    by_cases h2 : wbyF d 99 = 0
    · obtain ⟨σ1, s1, f1, g1⟩ := K_behind h hd (d := d) (by omega) (by omega)
      have ho := daysF_ok d.toNat h.1
      have hp : isP (daysF d.toNat R) p := ⟨h1.1, by rw [ho.2.1]; exact h1.2⟩
      rw [h2]
      refine XQ_ok f1.xs ?_
      rw [start, if_pos (by omega), b_X4_takes_33, s1]
      simp only [Option.bind_some, Option.toList_some, Option.toList_none, List.cons_append, List.nil_append, List.append_nil]
      rw [b_X4_takes_41, K_spareOf g1, if_pos hp]
      simp only [Option.bind_some, Option.toList_some, Option.toList_none, List.cons_append, List.nil_append, List.append_nil]
      rw [b_X4_takes_45]
      unfold takA
      by_cases e3 : spareF (daysF d.toNat R) p < 0
      · rw [if_pos e3, b_X4_takes_52, if_pos e3]
      · rw [if_neg e3, b_X4_takes_57, if_neg e3]
    · refine XQ_no h2 ?_
      rw [start, if_neg (by omega), b_X4_takes_27, K_refuse hx (by omega) (by omega), Int.neg_neg]
      simp only [Option.bind_some, Option.toList_some, Option.toList_none, List.cons_append, List.nil_append, List.append_nil]
      rw [b_X4_takes_32]
  · rw [if_neg h1]
    refine XQ_no (by decide) ?_
    rw [b_X4_takes_0, K_isPurpose h.2 h.1.1, if_neg h1]
    simp only [Option.bind_some, Option.toList_some, Option.toList_none, List.cons_append, List.nil_append, List.append_nil]
    rw [b_X4_takes_8, if_pos rfl, b_X4_takes_21, if_neg (by decide), b_X4_takes_27, K_refuse hx (by decide) (by decide)]
    simp only [Option.bind_some, Option.toList_some, Option.toList_none, List.cons_append, List.nil_append, List.append_nil]
    rw [b_X4_takes_32]
theorem N_purposeThen (p d w : Int) (σ : St) (R : Rw) (h : RK σ 0 R) (hd : Dk R) (hx : Xok σ) (u v : AV) : XQ (fun z => Rx k_X4_purposeThen 0 [.inr (.inl (0, 0)), .inl p, .inl d, .inl w, u, v] [] σ = some z) σ (ptB R p d w) (ptA R p d w) := by
  unfold ptB
  have hw := wby_c d 99
  by_cases h1 : isP R p
  · rw [if_pos h1]
    have start : Rx k_X4_purposeThen 0 [.inr (.inl (0, 0)), .inl p, .inl d, .inl w, u, v] [] σ = if -(wbyF d 99) = 0 then Rx k_X4_purposeThen 36 [.inr (.inl (0, 0)), .inl p, .inl d, .inl w, .inl (-(wbyF d 99)), v] [] σ else Rx k_X4_purposeThen 29 [.inr (.inl (0, 0)), .inl p, .inl d, .inl w, .inl (-(wbyF d 99)), v] [] σ := by
      rw [b_X4_purposeThen_0, K_isPurpose h.2 h.1.1, if_pos h1]
      simp only [Option.bind_some, Option.toList_some, Option.toList_none, List.cons_append, List.nil_append, List.append_nil]
      rw [b_X4_purposeThen_8, if_neg (by decide), b_X4_purposeThen_11, K_outside]
      simp only [Option.bind_some, Option.toList_some, Option.toList_none, List.cons_append, List.nil_append, List.append_nil]
      rw [b_X4_purposeThen_18]
    by_cases h2 : wbyF d 99 = 0
    · rw [if_pos h2]
      by_cases h3 : 0 ≤ w ∧ w ≤ 1
      · obtain ⟨σ1, s1, f1, g1⟩ := K_behind h hd (d := d) (by omega) (by omega)
        have ho := daysF_ok d.toNat h.1
        have hp : isP (daysF d.toNat R) p := ⟨h1.1, by rw [ho.2.1]; exact h1.2⟩
        have hb := g1.1.1
        unfold Iv0 at hb
        obtain ⟨a1, a2, a3, a4⟩ := g1.2.2.1 p hp.1 (by have := hp.2; omega)
        have g0 : 0 ≤ p := h1.1
        have g5 : p < 5 := by have := hp.2; omega
        rw [if_pos h3]
        refine XQ_ok f1.xs ?_
        rw [start, if_pos (by omega), b_X4_purposeThen_36, K_isNeither, if_pos h3]
        simp only [Option.bind_some, Option.toList_some, Option.toList_none, List.cons_append, List.nil_append, List.append_nil]
        rw [b_X4_purposeThen_40, if_pos rfl, b_X4_purposeThen_49, s1]
        simp only [Option.bind_some, Option.toList_some, Option.toList_none, List.cons_append, List.nil_append, List.append_nil]
        rw [b_X4_purposeThen_57]
        unfold ptA
        by_cases e : w = 0
        · rw [if_pos e, (b_X4_purposeThen_63 (h0 := by omega) (h1 := by omega)), if_pos e, a3]
        · rw [if_neg e, (b_X4_purposeThen_73 (h0 := by omega) (h1 := by omega)), if_neg e, a4]
      · rw [if_neg h3]
        refine XQ_no (by decide) ?_
        rw [start, if_pos (by omega), b_X4_purposeThen_36, K_isNeither, if_neg h3]
        simp only [Option.bind_some, Option.toList_some, Option.toList_none, List.cons_append, List.nil_append, List.append_nil]
        rw [b_X4_purposeThen_40, if_neg (by decide), b_X4_purposeThen_43, K_refuse hx (by decide) (by decide)]
        simp only [Option.bind_some, Option.toList_some, Option.toList_none, List.cons_append, List.nil_append, List.append_nil]
        rw [b_X4_purposeThen_48]
    · rw [if_neg h2]
      refine XQ_no h2 ?_
      rw [start, if_neg (by omega), b_X4_purposeThen_29, K_refuse hx (by omega) (by omega), Int.neg_neg]
      simp only [Option.bind_some, Option.toList_some, Option.toList_none, List.cons_append, List.nil_append, List.append_nil]
      rw [b_X4_purposeThen_35]
  · rw [if_neg h1]
    refine XQ_no (by decide) ?_
    rw [b_X4_purposeThen_0, K_isPurpose h.2 h.1.1, if_neg h1]
    simp only [Option.bind_some, Option.toList_some, Option.toList_none, List.cons_append, List.nil_append, List.append_nil]
    rw [b_X4_purposeThen_8, if_pos rfl, b_X4_purposeThen_21, if_neg (by decide), b_X4_purposeThen_29, K_refuse hx (by decide) (by decide)]
    simp only [Option.bind_some, Option.toList_some, Option.toList_none, List.cons_append, List.nil_append, List.append_nil]
    rw [b_X4_purposeThen_35]
theorem N_balanced (p w : Int) (σ : St) (R : Rw) (h : RK σ 0 R) (hx : Xok σ) (u : AV) : XQ (fun z => Rx k_X4_balanced 0 [.inr (.inl (0, 0)), .inl p, .inl w, u] [] σ = some z) σ (balB R p w) (balA R p w) := by
  have hb := h.1.1
  unfold Iv0 at hb
  unfold balB
  by_cases h1 : isP R p
  · have start : Rx k_X4_balanced 0 [.inr (.inl (0, 0)), .inl p, .inl w, u] [] σ = Rx k_X4_balanced 21 [.inr (.inl (0, 0)), .inl p, .inl w, u] [.inl (if 0 ≤ w ∧ w ≤ 1 then 0 else 1)] σ := by
      rw [b_X4_balanced_0, K_isPurpose h.2 h.1.1, if_pos h1]
      simp only [Option.bind_some, Option.toList_some, Option.toList_none, List.cons_append, List.nil_append, List.append_nil]
      rw [b_X4_balanced_8, if_neg (by decide), b_X4_balanced_17, K_isNeither]
      simp only [Option.bind_some, Option.toList_some, Option.toList_none, List.cons_append, List.nil_append, List.append_nil]
    rw [if_pos h1]
    by_cases h2 : 0 ≤ w ∧ w ≤ 1
    · rw [if_pos h2]
      refine XQ_ok (XS.refl σ) ?_
      obtain ⟨a1, a2, a3, a4⟩ := h.2.2.1 p h1.1 (by have := h1.2; omega)
      have g0 : 0 ≤ p := h1.1
      have g1 : p < 5 := by have := h1.2; omega
      have hlt := upF_lt10 h.1.1
      have hbd : ∀ (n x b : Nat), x + n = upF R + 1 → b < 1024 → balG R p n x b < 1024 := by
        intro n
        induction n with
        | zero => intro x b _ hb; exact hb
        | succ n ih =>
          intro x b hx hb
          rw [balG_s]
          split
          · exact ih _ _ (by omega) (by omega)
          · exact ih _ _ (by omega) hb
      rw [start, if_pos h2, b_X4_balanced_21, if_pos rfl, (b_X4_balanced_30 (h0 := by omega) (h1 := by omega)), a3, K_mostWithin h.2 h.1]
      simp only [Option.bind_some, Option.toList_some, Option.toList_none, List.cons_append, List.nil_append, List.append_nil]
      rw [b_X4_balanced_46]
      unfold balA balR
      by_cases e : w = 0
      · rw [if_pos e, b_X4_balanced_51, if_pos e]
      · rw [if_neg e, b_X4_balanced_55, K_bitCount _ (hbd _ _ _ (Nat.zero_add _) (by decide)), if_neg e]
        simp only [Option.bind_some, Option.toList_some, Option.toList_none, List.cons_append, List.nil_append, List.append_nil]
        rw [b_X4_balanced_59]
    · rw [if_neg h2]
      refine XQ_no (by decide) ?_
      rw [start, if_neg h2, b_X4_balanced_21, if_neg (by decide), b_X4_balanced_24, K_refuse hx (by decide) (by decide)]
      simp only [Option.bind_some, Option.toList_some, Option.toList_none, List.cons_append, List.nil_append, List.append_nil]
      rw [b_X4_balanced_29]
  · rw [if_neg h1]
    refine XQ_no (by decide) ?_
    rw [b_X4_balanced_0, K_isPurpose h.2 h.1.1, if_neg h1]
    simp only [Option.bind_some, Option.toList_some, Option.toList_none, List.cons_append, List.nil_append, List.append_nil]
    rw [b_X4_balanced_8, if_pos rfl, b_X4_balanced_11, K_refuse hx (by decide) (by decide)]
    simp only [Option.bind_some, Option.toList_some, Option.toList_none, List.cons_append, List.nil_append, List.append_nil]
    rw [b_X4_balanced_16]
theorem N_whatWas (p w : Int) (σ : St) (R : Rw) (h : RK σ 0 R) (hd : Dk R) (hx : Xok σ) (V : Nat → Int) (M : Int) (hM0 : 0 ≤ M) (hM : M ≤ 16) (hc : σ 0 0 6 = M) (hV : ∀ i : Nat, (i : Int) < M → σ 5 0 i = V i) : XQ (fun z => Rx k_X4_whatWas 0 [.inr (.inl (0, 0)), .inl p, .inl w] [] σ = some z) σ (balB R p w) (wwA R V M p w) := by
  unfold balB
  by_cases h1 : isP R p
  · have start : Rx k_X4_whatWas 0 [.inr (.inl (0, 0)), .inl p, .inl w] [] σ = Rx k_X4_whatWas 21 [.inr (.inl (0, 0)), .inl p, .inl w] [.inl (if 0 ≤ w ∧ w ≤ 1 then 0 else 1)] σ := by
      rw [b_X4_whatWas_0, K_isPurpose h.2 h.1.1, if_pos h1]
      simp only [Option.bind_some, Option.toList_some, Option.toList_none, List.cons_append, List.nil_append, List.append_nil]
      rw [b_X4_whatWas_8, if_neg (by decide), b_X4_whatWas_17, K_isNeither]
      simp only [Option.bind_some, Option.toList_some, Option.toList_none, List.cons_append, List.nil_append, List.append_nil]
    rw [if_pos h1]
    by_cases h2 : 0 ≤ w ∧ w ≤ 1
    · rw [if_pos h2]
      unfold wwA
      by_cases e : w = 0
      · obtain ⟨σ1, s1, f1⟩ := L_kinds h.1 hd V hM0 hM h1 6 0 0 σ rfl (by decide) h hc hV
        refine XQ_ok f1.xs ?_
        rw [show ((0 : Nat) : Int) = 0 from rfl] at s1
        rw [start, if_pos h2, b_X4_whatWas_21, if_pos rfl, b_X4_whatWas_30, if_pos e, b_X4_whatWas_34, b_X4_kindsThatFit_0, s1, if_pos e, e]
        simp only [Option.bind_some, Option.toList_some, Option.toList_none, List.cons_append, List.nil_append, List.append_nil]
        rw [b_X4_whatWas_39]
      · have e1 : w = 1 := by omega
        obtain ⟨σ1, s1, f1⟩ := L_figures h.1 hd V hM0 hM h1 10 0 0 σ rfl (by decide) h hc hV
        refine XQ_ok f1.xs ?_
        rw [show ((0 : Nat) : Int) = 0 from rfl] at s1
        rw [start, if_pos h2, b_X4_whatWas_21, if_pos rfl, b_X4_whatWas_30, if_neg e, b_X4_whatWas_42, b_X4_figuresThatFit_0, s1, if_neg e, e1]
        simp only [Option.bind_some, Option.toList_some, Option.toList_none, List.cons_append, List.nil_append, List.append_nil]
        rw [b_X4_whatWas_47]
    · rw [if_neg h2]
      refine XQ_no (by decide) ?_
      rw [start, if_neg h2, b_X4_whatWas_21, if_neg (by decide), b_X4_whatWas_24, K_refuse hx (by decide) (by decide)]
      simp only [Option.bind_some, Option.toList_some, Option.toList_none, List.cons_append, List.nil_append, List.append_nil]
      rw [b_X4_whatWas_29]
  · rw [if_neg h1]
    refine XQ_no (by decide) ?_
    rw [b_X4_whatWas_0, K_isPurpose h.2 h.1.1, if_neg h1]
    simp only [Option.bind_some, Option.toList_some, Option.toList_none, List.cons_append, List.nil_append, List.append_nil]
    rw [b_X4_whatWas_8, if_pos rfl, b_X4_whatWas_11, K_refuse hx (by decide) (by decide)]
    simp only [Option.bind_some, Option.toList_some, Option.toList_none, List.cons_append, List.nil_append, List.append_nil]
    rw [b_X4_whatWas_16]
theorem N_bestPlace (t w : Int) (σ : St) (R : Rw) (h : RK σ 0 R) (hx : Xok σ) (u : AV) : XQ (fun z => Rx k_X4_bestPlace 0 [.inr (.inl (0, 0)), .inl t, .inl w, u] [] σ = some z) σ (bplB R t w) (bplA R t w) := by
  have hb := h.1.1
  unfold Iv0 at hb
  unfold bplB
  by_cases h1 : isT R t
  · have hT := h.1.2.2.1 t h1.1 (by have := h1.2; omega)
    have start : Rx k_X4_bestPlace 0 [.inr (.inl (0, 0)), .inl t, .inl w, u] [] σ = Rx k_X4_bestPlace 21 [.inr (.inl (0, 0)), .inl t, .inl w, u] [.inl (if 0 ≤ w ∧ w ≤ 1 then 0 else 1)] σ := by
      rw [b_X4_bestPlace_0, K_isThing h.2 h.1.1, if_pos h1]
      simp only [Option.bind_some, Option.toList_some, Option.toList_none, List.cons_append, List.nil_append, List.append_nil]
      rw [b_X4_bestPlace_8, if_neg (by decide), b_X4_bestPlace_17, K_isNeither]
      simp only [Option.bind_some, Option.toList_some, Option.toList_none, List.cons_append, List.nil_append, List.append_nil]
    rw [if_pos h1]
    by_cases h2 : 0 ≤ w ∧ w ≤ 1
    · rw [if_pos h2]
      unfold wupF
      rw [if_pos h1]
      by_cases hu : uq R t = 1
      · obtain ⟨σ1, s1, f1⟩ := K_safestPlace h h1 hu uns uns uns uns
        obtain ⟨o1, o2, o3⟩ := bplG_ok h.1 h1 hu 20 0 (-9) 1000000000 (Int.le_refl 0) (by omega) (Or.inr ⟨by omega, rfl⟩)
        have st2 : Rx k_X4_bestPlace 0 [.inr (.inl (0, 0)), .inl t, .inl w, u] [] σ = if w = 0 then Rx k_X4_bestPlace 60 [.inr (.inl (0, 0)), .inl t, .inl w, .inl (bplG R t 20 0 (-9) 1000000000).1] [] σ1 else Rx k_X4_bestPlace 64 [.inr (.inl (0, 0)), .inl t, .inl w, .inl (bplG R t 20 0 (-9) 1000000000).1] [] σ1 := by
          rw [start, if_pos h2, b_X4_bestPlace_21, if_pos rfl, b_X4_bestPlace_30, K_isUp h.2 h.1.1, if_pos ⟨h1, hu⟩]
          simp only [Option.bind_some, Option.toList_some, Option.toList_none, List.cons_append, List.nil_append, List.append_nil]
          rw [b_X4_bestPlace_38, if_neg (by decide), b_X4_bestPlace_47, s1]
          simp only [Option.bind_some, Option.toList_some, Option.toList_none, List.cons_append, List.nil_append, List.append_nil]
          rw [b_X4_bestPlace_55]
        rw [if_pos hu]
        unfold bplA p2
        by_cases e : w = 0
        · refine XQ_ok f1.xs ?_
          rw [st2, if_pos e, b_X4_bestPlace_60, if_pos e]
        · obtain ⟨σ2, s2, f2⟩ := K_felledFrom (h.fr f1 (by decide)) h1 hu o1 o2
          refine XQ_ok (f1.trans f2).xs ?_
          rw [st2, if_neg e, b_X4_bestPlace_64, s2, if_neg e, o3]
          simp only [Option.bind_some, Option.toList_some, Option.toList_none, List.cons_append, List.nil_append, List.append_nil]
          rw [b_X4_bestPlace_73]
      · rw [if_neg hu]
        refine XQ_no (by decide) ?_
        rw [start, if_pos h2, b_X4_bestPlace_21, if_pos rfl, b_X4_bestPlace_30, K_isUp h.2 h.1.1, if_neg (fun z => hu z.2)]
        simp only [Option.bind_some, Option.toList_some, Option.toList_none, List.cons_append, List.nil_append, List.append_nil]
        rw [b_X4_bestPlace_38, if_pos rfl, b_X4_bestPlace_41, K_refuse hx (by decide) (by decide)]
        simp only [Option.bind_some, Option.toList_some, Option.toList_none, List.cons_append, List.nil_append, List.append_nil]
        rw [b_X4_bestPlace_46]
    · rw [if_neg h2]
      refine XQ_no (by decide) ?_
      rw [start, if_neg h2, b_X4_bestPlace_21, if_neg (by decide), b_X4_bestPlace_24, K_refuse hx (by decide) (by decide)]
      simp only [Option.bind_some, Option.toList_some, Option.toList_none, List.cons_append, List.nil_append, List.append_nil]
      rw [b_X4_bestPlace_29]
  · rw [if_neg h1]
    refine XQ_no (by decide) ?_
    rw [b_X4_bestPlace_0, K_isThing h.2 h.1.1, if_neg h1]
    simp only [Option.bind_some, Option.toList_some, Option.toList_none, List.cons_append, List.nil_append, List.append_nil]
    rw [b_X4_bestPlace_8, if_pos rfl, b_X4_bestPlace_11, K_refuse hx (by decide) (by decide)]
    simp only [Option.bind_some, Option.toList_some, Option.toList_none, List.cons_append, List.nil_append, List.append_nil]
    rw [b_X4_bestPlace_16]
