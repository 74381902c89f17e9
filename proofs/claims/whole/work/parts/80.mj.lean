/-! the reference: the best leans, on; a draw -/
def blaB (R : Rw) (t s v d w : Int) : Int := if isT R t ∧ isT R s ∧ isT R v ∧ t ≠ s ∧ t ≠ v ∧ s ≠ v then (if wbyF d 20 = 0 then (if 0 ≤ w ∧ w ≤ 1 then 0 else -2) else wbyF d 20) else -1
theorem M_bestLeans (t s v d w : Int) (σ : St) (u6 u7 u8 u9 u10 u11 u12 u13 : AV) (h : Mok σ) : Q (fun z => Rx k_X5_bestLeans 0 [.inr (.inl (16, 0)), .inl t, .inl s, .inl v, .inl d, .inl w, u6, u7, u8, u9, u10, u11, u12, u13] [] σ = some z) σ (blaB (σ 17 0) t s v d w) (blaA (σ 17 0) t s v d w) := by
  have hb := h.ct
  have hq := sq_bd hb.1 hb.2.1
  have hw := wby_c d 20
  unfold blaB
  have hn : ∀ c : Int, -6 ≤ c → c ≤ 0 → Rx k_X5_bestLeans 76 [.inr (.inl (16, 0)), .inl t, .inl s, .inl v, .inl d, .inl w, .inl c, u7, u8, u9, u10, u11, u12, u13] [] σ = some (some (.inl c), noS σ c) := by
    intro c a b
    rw [b_X5_bestLeans_76, h.no a b]
    simp only [Option.bind_some, Option.toList_some, Option.toList_none, List.cons_append, List.nil_append, List.append_nil]
    rw [b_X5_bestLeans_82]
  have hm : Rx k_X5_bestLeans 39 [.inr (.inl (16, 0)), .inl t, .inl s, .inl v, .inl d, .inl w, u6, u7, u8, u9, u10, u11, u12, u13] [] σ = some (some (.inl (-1)), noS σ (-1)) := by
    rw [b_X5_bestLeans_39, if_neg (by decide), b_X5_bestLeans_71, if_neg (by decide), hn (-1) (by decide) (by decide)]
  have l0 : Rx k_X5_bestLeans 0 [.inr (.inl (16, 0)), .inl t, .inl s, .inl v, .inl d, .inl w, u6, u7, u8, u9, u10, u11, u12, u13] [] σ = if isT (σ 17 0) t ∧ isT (σ 17 0) s ∧ isT (σ 17 0) v ∧ t ≠ s ∧ t ≠ v ∧ s ≠ v then Rx k_X5_bestLeans 43 [.inr (.inl (16, 0)), .inl t, .inl s, .inl v, .inl d, .inl w, u6, u7, u8, u9, u10, u11, u12, u13] [] σ else Rx k_X5_bestLeans 39 [.inr (.inl (16, 0)), .inl t, .inl s, .inl v, .inl d, .inl w, u6, u7, u8, u9, u10, u11, u12, u13] [] σ := by
    rw [b_X5_bestLeans_0, h.thin]
    simp only [Option.bind_some, Option.toList_some, Option.toList_none, List.cons_append, List.nil_append, List.append_nil]
    rw [b_X5_bestLeans_5]
    by_cases h1 : isT (σ 17 0) t
    · rw [if_pos h1, if_neg (by decide), b_X5_bestLeans_8, h.thin]
      simp only [Option.bind_some, Option.toList_some, Option.toList_none, List.cons_append, List.nil_append, List.append_nil]
      rw [b_X5_bestLeans_13]
      by_cases h2 : isT (σ 17 0) s
      · rw [if_pos h2, if_neg (by decide), b_X5_bestLeans_16, h.thin]
        simp only [Option.bind_some, Option.toList_some, Option.toList_none, List.cons_append, List.nil_append, List.append_nil]
        rw [b_X5_bestLeans_21]
        by_cases h3 : isT (σ 17 0) v
        · rw [if_pos h3, if_neg (by decide), b_X5_bestLeans_24]
          by_cases h4 : t = s
          · rw [if_pos h4, if_neg (fun z => z.2.2.2.1 h4)]
          · rw [if_neg h4, b_X5_bestLeans_29]
            by_cases h5 : t = v
            · rw [if_pos h5, if_neg (fun z => z.2.2.2.2.1 h5)]
            · rw [if_neg h5, b_X5_bestLeans_34]
              by_cases h6 : s = v
              · rw [if_pos h6, if_neg (fun z => z.2.2.2.2.2 h6)]
              · rw [if_neg h6, if_pos ⟨h1, h2, h3, h4, h5, h6⟩]
        · rw [if_neg h3, if_pos rfl, if_neg (fun z => h3 z.2.2.1)]
      · rw [if_neg h2, if_pos rfl, if_neg (fun z => h2 z.2.1)]
    · rw [if_neg h1, if_pos rfl, if_neg (fun z => h1 z.1)]
  rw [l0]
  by_cases hc : isT (σ 17 0) t ∧ isT (σ 17 0) s ∧ isT (σ 17 0) v ∧ t ≠ s ∧ t ≠ v ∧ s ≠ v
  · rw [if_pos hc, if_pos hc, b_X5_bestLeans_43, C_wrongBy]
    simp only [Option.bind_some, Option.toList_some, Option.toList_none, List.cons_append, List.nil_append, List.append_nil]
    rw [b_X5_bestLeans_50]
    by_cases h2 : wbyF d 20 = 0
    · have h3 : 0 ≤ d ∧ d ≤ 20 := by rcases hw with z | z | z; exact z.2; omega; omega
      rw [if_pos h2, if_pos h2, b_X5_bestLeans_57, C_isIn]
      simp only [Option.bind_some, Option.toList_some, Option.toList_none, List.cons_append, List.nil_append, List.append_nil]
      rw [b_X5_bestLeans_64]
      by_cases h4 : 0 ≤ w ∧ w ≤ 1
      · obtain ⟨σ', k1, k2⟩ := L_bestLeans σ h t s v d w (wbyF d 20) hc.1 hc.2.1 hc.2.2.1 h3.1 (by omega) (σ 17 0 0 * σ 17 0 0 * σ 17 0 0).toNat 0 (-9) (-1) u10 u11 u12 u13 σ (by decide) (by omega) (MS.refl σ)
        rw [if_pos h4, if_neg (by decide), if_pos h4]
        refine Q_ok k1 ?_
        rw [b_X5_bestLeans_71, if_pos h2, b_X5_bestLeans_83, k2]
        rfl
      · rw [if_neg h4, if_pos rfl, if_neg h4, b_X5_bestLeans_67, if_neg (by decide)]
        exact Q_no (by decide) (hn (-2) (by decide) (by decide))
    · rw [if_neg h2, if_neg h2, b_X5_bestLeans_71, if_neg h2]
      exact Q_no h2 (hn _ (by omega) (by omega))
  · rw [if_neg hc, if_neg hc]
    exact Q_no (by decide) hm
/-- a draw: the seed behind it, and the number -/
def sdF (s : Int) : Int := wr (wr (s * 1664525) + 1013904223)
def drF (s n : Int) : Int := (wr ((bAnd (sdF s) 2147483647).tdiv 256)).tmod n
theorem C_drawn (n : Int) (σ : St) (hn : n ≠ 0) : Rx k_X5_drawn 0 [.inr (.inl (16, 0)), .inl n] [] σ = some (some (.inl (drF (σ 16 0 13) n)), up σ 16 0 13 (sdF (σ 16 0 13))) := by
  rw [b_X5_drawn_0 _ _ hn]
  have e : up σ 16 0 13 (wr (wr (σ 16 0 13 * 1664525) + 1013904223)) 16 0 13 = sdF (σ 16 0 13) := by
    unfold up; rw [if_pos ⟨rfl, rfl, rfl⟩]; rfl
  rw [e]
  rfl
