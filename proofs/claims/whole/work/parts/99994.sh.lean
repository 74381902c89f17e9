/-! the law, call by call -/
theorem W_letter {i : Int} {σ : St} (h : CM σ i) (h0 : 0 ≤ i) (hL : i + 6 ≤ σ 32 1 0) (h2 : σ 32 1 0 ≤ 3072) : ∃ σ2, Rx k_L_law 212 [.inr (.inl (32, 0)), .inr (.inl (0, 0)), .inr (.inl (16, 0)), .inl i] [] σ = Rx k_L_law 1346 [.inr (.inl (32, 0)), .inr (.inl (0, 0)), .inr (.inl (16, 0)), .inl i] [] σ2 ∧ CM σ2 (i + 1) ∧ σ2 32 = σ 32 := by
  obtain ⟨x, σ1, σ2, s1, s2, c, e1, e2⟩ := S_letter (σ 32 0 (i + 1).toNat) h (by omega)
  have hL1 : i + 6 ≤ σ1 32 1 0 := by rw [e1]; exact hL
  refine ⟨σ2, ?_, c, e2⟩
  rw [(b_L_law_212 (h0 := by omega) (h1 := by omega) (g0a := by omega) (g0b := by omega)), s1]
  simp only [Option.bind_some, Option.toList_some, Option.toList_none, List.cons_append, List.nil_append, List.append_nil]
  rw [(b_L_law_221 (h0 := by omega) (h1 := by omega) (g0a := by omega) (g0b := by omega)), e1, s2]
  simp only [Option.bind_some, Option.toList_some, Option.toList_none, List.cons_append, List.nil_append, List.append_nil]
  rw [b_L_law_230, if_pos rfl]
theorem W_rack {i : Int} {σ : St} (h : CM σ i) (h0 : 0 ≤ i) (hL : i + 6 ≤ σ 32 1 0) (h2 : σ 32 1 0 ≤ 3072) : ∃ σ2, Rx k_L_law 235 [.inr (.inl (32, 0)), .inr (.inl (0, 0)), .inr (.inl (16, 0)), .inl i] [] σ = Rx k_L_law 1346 [.inr (.inl (32, 0)), .inr (.inl (0, 0)), .inr (.inl (16, 0)), .inl i] [] σ2 ∧ CM σ2 (i + 1) ∧ σ2 32 = σ 32 := by
  obtain ⟨x, σ1, σ2, s1, s2, c, e1, e2⟩ := S_rack  h (by omega)
  have hL1 : i + 6 ≤ σ1 32 1 0 := by rw [e1]; exact hL
  refine ⟨σ2, ?_, c, e2⟩
  rw [(b_L_law_235), s1]
  simp only [Option.bind_some, Option.toList_some, Option.toList_none, List.cons_append, List.nil_append, List.append_nil]
  rw [(b_L_law_239), s2]
  simp only [Option.bind_some, Option.toList_some, Option.toList_none, List.cons_append, List.nil_append, List.append_nil]
  rw [b_L_law_243, if_pos rfl]
theorem W_purpose {i : Int} {σ : St} (h : CM σ i) (h0 : 0 ≤ i) (hL : i + 6 ≤ σ 32 1 0) (h2 : σ 32 1 0 ≤ 3072) : ∃ σ2, Rx k_L_law 248 [.inr (.inl (32, 0)), .inr (.inl (0, 0)), .inr (.inl (16, 0)), .inl i] [] σ = Rx k_L_law 1346 [.inr (.inl (32, 0)), .inr (.inl (0, 0)), .inr (.inl (16, 0)), .inl i] [] σ2 ∧ CM σ2 (i + 1) ∧ σ2 32 = σ 32 := by
  obtain ⟨x, σ1, σ2, s1, s2, c, e1, e2⟩ := S_purpose (σ 32 0 (i + 1).toNat) (σ 32 0 (i + 2).toNat) h (by omega)
  have hL1 : i + 6 ≤ σ1 32 1 0 := by rw [e1]; exact hL
  refine ⟨σ2, ?_, c, e2⟩
  rw [(b_L_law_248 (h0 := by omega) (h1 := by omega) (h2 := by omega) (h3 := by omega) (g0a := by omega) (g0b := by omega) (g1a := by omega) (g1b := by omega)), s1]
  simp only [Option.bind_some, Option.toList_some, Option.toList_none, List.cons_append, List.nil_append, List.append_nil]
  rw [(b_L_law_262 (h0 := by omega) (h1 := by omega) (h2 := by omega) (h3 := by omega) (g0a := by omega) (g0b := by omega) (g1a := by omega) (g1b := by omega)), e1, s2]
  simp only [Option.bind_some, Option.toList_some, Option.toList_none, List.cons_append, List.nil_append, List.append_nil]
  rw [b_L_law_276, if_pos rfl]
theorem W_spare {i : Int} {σ : St} (h : CM σ i) (h0 : 0 ≤ i) (hL : i + 6 ≤ σ 32 1 0) (h2 : σ 32 1 0 ≤ 3072) : ∃ σ2, Rx k_L_law 281 [.inr (.inl (32, 0)), .inr (.inl (0, 0)), .inr (.inl (16, 0)), .inl i] [] σ = Rx k_L_law 1346 [.inr (.inl (32, 0)), .inr (.inl (0, 0)), .inr (.inl (16, 0)), .inl i] [] σ2 ∧ CM σ2 (i + 1) ∧ σ2 32 = σ 32 := by
  obtain ⟨x, σ1, σ2, s1, s2, c, e1, e2⟩ := S_spare (σ 32 0 (i + 1).toNat) h (by omega)
  have hL1 : i + 6 ≤ σ1 32 1 0 := by rw [e1]; exact hL
  refine ⟨σ2, ?_, c, e2⟩
  rw [(b_L_law_281 (h0 := by omega) (h1 := by omega) (g0a := by omega) (g0b := by omega)), s1]
  simp only [Option.bind_some, Option.toList_some, Option.toList_none, List.cons_append, List.nil_append, List.append_nil]
  rw [(b_L_law_290 (h0 := by omega) (h1 := by omega) (g0a := by omega) (g0b := by omega)), e1, s2]
  simp only [Option.bind_some, Option.toList_some, Option.toList_none, List.cons_append, List.nil_append, List.append_nil]
  rw [b_L_law_299, if_pos rfl]
theorem W_thing {i : Int} {σ : St} (h : CM σ i) (h0 : 0 ≤ i) (hL : i + 6 ≤ σ 32 1 0) (h2 : σ 32 1 0 ≤ 3072) : ∃ σ2, Rx k_L_law 304 [.inr (.inl (32, 0)), .inr (.inl (0, 0)), .inr (.inl (16, 0)), .inl i] [] σ = Rx k_L_law 1346 [.inr (.inl (32, 0)), .inr (.inl (0, 0)), .inr (.inl (16, 0)), .inl i] [] σ2 ∧ CM σ2 (i + 1) ∧ σ2 32 = σ 32 := by
  obtain ⟨x, σ1, σ2, s1, s2, c, e1, e2⟩ := S_thing (σ 32 0 (i + 1).toNat) (σ 32 0 (i + 2).toNat) h (by omega)
  have hL1 : i + 6 ≤ σ1 32 1 0 := by rw [e1]; exact hL
  refine ⟨σ2, ?_, c, e2⟩
  rw [(b_L_law_304 (h0 := by omega) (h1 := by omega) (h2 := by omega) (h3 := by omega) (g0a := by omega) (g0b := by omega) (g1a := by omega) (g1b := by omega)), s1]
  simp only [Option.bind_some, Option.toList_some, Option.toList_none, List.cons_append, List.nil_append, List.append_nil]
  rw [(b_L_law_318 (h0 := by omega) (h1 := by omega) (h2 := by omega) (h3 := by omega) (g0a := by omega) (g0b := by omega) (g1a := by omega) (g1b := by omega)), e1, s2]
  simp only [Option.bind_some, Option.toList_some, Option.toList_none, List.cons_append, List.nil_append, List.append_nil]
  rw [b_L_law_332, if_pos rfl]
theorem W_at {i : Int} {σ : St} (h : CM σ i) (h0 : 0 ≤ i) (hL : i + 6 ≤ σ 32 1 0) (h2 : σ 32 1 0 ≤ 3072) : ∃ σ2, Rx k_L_law 337 [.inr (.inl (32, 0)), .inr (.inl (0, 0)), .inr (.inl (16, 0)), .inl i] [] σ = Rx k_L_law 1346 [.inr (.inl (32, 0)), .inr (.inl (0, 0)), .inr (.inl (16, 0)), .inl i] [] σ2 ∧ CM σ2 (i + 1) ∧ σ2 32 = σ 32 := by
  obtain ⟨x, σ1, σ2, s1, s2, c, e1, e2⟩ := S_at (σ 32 0 (i + 1).toNat) h (by omega)
  have hL1 : i + 6 ≤ σ1 32 1 0 := by rw [e1]; exact hL
  refine ⟨σ2, ?_, c, e2⟩
  rw [(b_L_law_337 (h0 := by omega) (h1 := by omega) (g0a := by omega) (g0b := by omega)), s1]
  simp only [Option.bind_some, Option.toList_some, Option.toList_none, List.cons_append, List.nil_append, List.append_nil]
  rw [(b_L_law_346 (h0 := by omega) (h1 := by omega) (g0a := by omega) (g0b := by omega)), e1, s2]
  simp only [Option.bind_some, Option.toList_some, Option.toList_none, List.cons_append, List.nil_append, List.append_nil]
  rw [b_L_law_355, if_pos rfl]
theorem W_leans {i : Int} {σ : St} (h : CM σ i) (h0 : 0 ≤ i) (hL : i + 6 ≤ σ 32 1 0) (h2 : σ 32 1 0 ≤ 3072) : ∃ σ2, Rx k_L_law 360 [.inr (.inl (32, 0)), .inr (.inl (0, 0)), .inr (.inl (16, 0)), .inl i] [] σ = Rx k_L_law 1346 [.inr (.inl (32, 0)), .inr (.inl (0, 0)), .inr (.inl (16, 0)), .inl i] [] σ2 ∧ CM σ2 (i + 1) ∧ σ2 32 = σ 32 := by
  obtain ⟨x, σ1, σ2, s1, s2, c, e1, e2⟩ := S_leans (σ 32 0 (i + 1).toNat) (σ 32 0 (i + 2).toNat) h (by omega)
  have hL1 : i + 6 ≤ σ1 32 1 0 := by rw [e1]; exact hL
  refine ⟨σ2, ?_, c, e2⟩
  rw [(b_L_law_360 (h0 := by omega) (h1 := by omega) (h2 := by omega) (h3 := by omega) (g0a := by omega) (g0b := by omega) (g1a := by omega) (g1b := by omega)), s1]
  simp only [Option.bind_some, Option.toList_some, Option.toList_none, List.cons_append, List.nil_append, List.append_nil]
  rw [(b_L_law_374 (h0 := by omega) (h1 := by omega) (h2 := by omega) (h3 := by omega) (g0a := by omega) (g0b := by omega) (g1a := by omega) (g1b := by omega)), e1, s2]
  simp only [Option.bind_some, Option.toList_some, Option.toList_none, List.cons_append, List.nil_append, List.append_nil]
  rw [b_L_law_388, if_pos rfl]
theorem W_moves {i : Int} {σ : St} (h : CM σ i) (h0 : 0 ≤ i) (hL : i + 6 ≤ σ 32 1 0) (h2 : σ 32 1 0 ≤ 3072) : ∃ σ2, Rx k_L_law 393 [.inr (.inl (32, 0)), .inr (.inl (0, 0)), .inr (.inl (16, 0)), .inl i] [] σ = Rx k_L_law 1346 [.inr (.inl (32, 0)), .inr (.inl (0, 0)), .inr (.inl (16, 0)), .inl i] [] σ2 ∧ CM σ2 (i + 1) ∧ σ2 32 = σ 32 := by
  obtain ⟨x, σ1, σ2, s1, s2, c, e1, e2⟩ := S_moves (σ 32 0 (i + 1).toNat) (σ 32 0 (i + 2).toNat) h (by omega)
  have hL1 : i + 6 ≤ σ1 32 1 0 := by rw [e1]; exact hL
  refine ⟨σ2, ?_, c, e2⟩
  rw [(b_L_law_393 (h0 := by omega) (h1 := by omega) (h2 := by omega) (h3 := by omega) (g0a := by omega) (g0b := by omega) (g1a := by omega) (g1b := by omega)), s1]
  simp only [Option.bind_some, Option.toList_some, Option.toList_none, List.cons_append, List.nil_append, List.append_nil]
  rw [(b_L_law_407 (h0 := by omega) (h1 := by omega) (h2 := by omega) (h3 := by omega) (g0a := by omega) (g0b := by omega) (g1a := by omega) (g1b := by omega)), e1, s2]
  simp only [Option.bind_some, Option.toList_some, Option.toList_none, List.cons_append, List.nil_append, List.append_nil]
  rw [b_L_law_421, if_pos rfl]
theorem W_setsUp {i : Int} {σ : St} (h : CM σ i) (h0 : 0 ≤ i) (hL : i + 6 ≤ σ 32 1 0) (h2 : σ 32 1 0 ≤ 3072) : ∃ σ2, Rx k_L_law 426 [.inr (.inl (32, 0)), .inr (.inl (0, 0)), .inr (.inl (16, 0)), .inl i] [] σ = Rx k_L_law 1346 [.inr (.inl (32, 0)), .inr (.inl (0, 0)), .inr (.inl (16, 0)), .inl i] [] σ2 ∧ CM σ2 (i + 1) ∧ σ2 32 = σ 32 := by
  obtain ⟨x, σ1, σ2, s1, s2, c, e1, e2⟩ := S_setsUp (σ 32 0 (i + 1).toNat) h (by omega)
  have hL1 : i + 6 ≤ σ1 32 1 0 := by rw [e1]; exact hL
  refine ⟨σ2, ?_, c, e2⟩
  rw [(b_L_law_426 (h0 := by omega) (h1 := by omega) (g0a := by omega) (g0b := by omega)), s1]
  simp only [Option.bind_some, Option.toList_some, Option.toList_none, List.cons_append, List.nil_append, List.append_nil]
  rw [(b_L_law_435 (h0 := by omega) (h1 := by omega) (g0a := by omega) (g0b := by omega)), e1, s2]
  simp only [Option.bind_some, Option.toList_some, Option.toList_none, List.cons_append, List.nil_append, List.append_nil]
  rw [b_L_law_444, if_pos rfl]
theorem W_pushes {i : Int} {σ : St} (h : CM σ i) (h0 : 0 ≤ i) (hL : i + 6 ≤ σ 32 1 0) (h2 : σ 32 1 0 ≤ 3072) : ∃ σ2, Rx k_L_law 449 [.inr (.inl (32, 0)), .inr (.inl (0, 0)), .inr (.inl (16, 0)), .inl i] [] σ = Rx k_L_law 1346 [.inr (.inl (32, 0)), .inr (.inl (0, 0)), .inr (.inl (16, 0)), .inl i] [] σ2 ∧ CM σ2 (i + 1) ∧ σ2 32 = σ 32 := by
  obtain ⟨x, σ1, σ2, s1, s2, c, e1, e2⟩ := S_pushes (σ 32 0 (i + 1).toNat) h (by omega)
  have hL1 : i + 6 ≤ σ1 32 1 0 := by rw [e1]; exact hL
  refine ⟨σ2, ?_, c, e2⟩
  rw [(b_L_law_449 (h0 := by omega) (h1 := by omega) (g0a := by omega) (g0b := by omega)), s1]
  simp only [Option.bind_some, Option.toList_some, Option.toList_none, List.cons_append, List.nil_append, List.append_nil]
  rw [(b_L_law_458 (h0 := by omega) (h1 := by omega) (g0a := by omega) (g0b := by omega)), e1, s2]
  simp only [Option.bind_some, Option.toList_some, Option.toList_none, List.cons_append, List.nil_append, List.append_nil]
  rw [b_L_law_467, if_pos rfl]
theorem W_strong {i : Int} {σ : St} (h : CM σ i) (h0 : 0 ≤ i) (hL : i + 6 ≤ σ 32 1 0) (h2 : σ 32 1 0 ≤ 3072) : ∃ σ2, Rx k_L_law 472 [.inr (.inl (32, 0)), .inr (.inl (0, 0)), .inr (.inl (16, 0)), .inl i] [] σ = Rx k_L_law 1346 [.inr (.inl (32, 0)), .inr (.inl (0, 0)), .inr (.inl (16, 0)), .inl i] [] σ2 ∧ CM σ2 (i + 1) ∧ σ2 32 = σ 32 := by
  obtain ⟨x, σ1, σ2, s1, s2, c, e1, e2⟩ := S_strong (σ 32 0 (i + 1).toNat) (σ 32 0 (i + 2).toNat) h (by omega)
  have hL1 : i + 6 ≤ σ1 32 1 0 := by rw [e1]; exact hL
  refine ⟨σ2, ?_, c, e2⟩
  rw [(b_L_law_472 (h0 := by omega) (h1 := by omega) (h2 := by omega) (h3 := by omega) (g0a := by omega) (g0b := by omega) (g1a := by omega) (g1b := by omega)), s1]
  simp only [Option.bind_some, Option.toList_some, Option.toList_none, List.cons_append, List.nil_append, List.append_nil]
  rw [(b_L_law_486 (h0 := by omega) (h1 := by omega) (h2 := by omega) (h3 := by omega) (g0a := by omega) (g0b := by omega) (g1a := by omega) (g1b := by omega)), e1, s2]
  simp only [Option.bind_some, Option.toList_some, Option.toList_none, List.cons_append, List.nil_append, List.append_nil]
  rw [b_L_law_500, if_pos rfl]
theorem W_turn {i : Int} {σ : St} (h : CM σ i) (h0 : 0 ≤ i) (hL : i + 6 ≤ σ 32 1 0) (h2 : σ 32 1 0 ≤ 3072) : ∃ σ2, Rx k_L_law 505 [.inr (.inl (32, 0)), .inr (.inl (0, 0)), .inr (.inl (16, 0)), .inl i] [] σ = Rx k_L_law 1346 [.inr (.inl (32, 0)), .inr (.inl (0, 0)), .inr (.inl (16, 0)), .inl i] [] σ2 ∧ CM σ2 (i + 1) ∧ σ2 32 = σ 32 := by
  obtain ⟨x, σ1, σ2, s1, s2, c, e1, e2⟩ := S_turn (σ 32 0 (i + 1).toNat) (σ 32 0 (i + 2).toNat) (σ 32 0 (i + 3).toNat) h (by omega)
  have hL1 : i + 6 ≤ σ1 32 1 0 := by rw [e1]; exact hL
  refine ⟨σ2, ?_, c, e2⟩
  rw [(b_L_law_505 (h0 := by omega) (h1 := by omega) (h2 := by omega) (h3 := by omega) (h4 := by omega) (h5 := by omega) (g0a := by omega) (g0b := by omega) (g1a := by omega) (g1b := by omega) (g2a := by omega) (g2b := by omega)), s1]
  simp only [Option.bind_some, Option.toList_some, Option.toList_none, List.cons_append, List.nil_append, List.append_nil]
  rw [(b_L_law_524 (h0 := by omega) (h1 := by omega) (h2 := by omega) (h3 := by omega) (h4 := by omega) (h5 := by omega) (g0a := by omega) (g0b := by omega) (g1a := by omega) (g1b := by omega) (g2a := by omega) (g2b := by omega)), e1, s2]
  simp only [Option.bind_some, Option.toList_some, Option.toList_none, List.cons_append, List.nil_append, List.append_nil]
  rw [b_L_law_543, if_pos rfl]
theorem W_days {i : Int} {σ : St} (h : CM σ i) (h0 : 0 ≤ i) (hL : i + 6 ≤ σ 32 1 0) (h2 : σ 32 1 0 ≤ 3072) : ∃ σ2, Rx k_L_law 548 [.inr (.inl (32, 0)), .inr (.inl (0, 0)), .inr (.inl (16, 0)), .inl i] [] σ = Rx k_L_law 1346 [.inr (.inl (32, 0)), .inr (.inl (0, 0)), .inr (.inl (16, 0)), .inl i] [] σ2 ∧ CM σ2 (i + 1) ∧ σ2 32 = σ 32 := by
  obtain ⟨x, σ1, σ2, s1, s2, c, e1, e2⟩ := S_days (σ 32 0 (i + 1).toNat) h (by omega)
  have hL1 : i + 6 ≤ σ1 32 1 0 := by rw [e1]; exact hL
  refine ⟨σ2, ?_, c, e2⟩
  rw [(b_L_law_548 (h0 := by omega) (h1 := by omega) (g0a := by omega) (g0b := by omega)), s1]
  simp only [Option.bind_some, Option.toList_some, Option.toList_none, List.cons_append, List.nil_append, List.append_nil]
  rw [(b_L_law_557 (h0 := by omega) (h1 := by omega) (g0a := by omega) (g0b := by omega)), e1, s2]
  simp only [Option.bind_some, Option.toList_some, Option.toList_none, List.cons_append, List.nil_append, List.append_nil]
  rw [b_L_law_566, if_pos rfl]
theorem W_upThen {i : Int} {σ : St} (h : CM σ i) (h0 : 0 ≤ i) (hL : i + 6 ≤ σ 32 1 0) (h2 : σ 32 1 0 ≤ 3072) : ∃ σ2, Rx k_L_law 571 [.inr (.inl (32, 0)), .inr (.inl (0, 0)), .inr (.inl (16, 0)), .inl i] [] σ = Rx k_L_law 1346 [.inr (.inl (32, 0)), .inr (.inl (0, 0)), .inr (.inl (16, 0)), .inl i] [] σ2 ∧ CM σ2 (i + 1) ∧ σ2 32 = σ 32 := by
  obtain ⟨x, σ1, σ2, s1, s2, c, e1, e2⟩ := S_upThen (σ 32 0 (i + 1).toNat) (σ 32 0 (i + 2).toNat) h (by omega)
  have hL1 : i + 6 ≤ σ1 32 1 0 := by rw [e1]; exact hL
  refine ⟨σ2, ?_, c, e2⟩
  rw [(b_L_law_571 (h0 := by omega) (h1 := by omega) (h2 := by omega) (h3 := by omega) (g0a := by omega) (g0b := by omega) (g1a := by omega) (g1b := by omega)), s1]
  simp only [Option.bind_some, Option.toList_some, Option.toList_none, List.cons_append, List.nil_append, List.append_nil]
  rw [(b_L_law_585 (h0 := by omega) (h1 := by omega) (h2 := by omega) (h3 := by omega) (g0a := by omega) (g0b := by omega) (g1a := by omega) (g1b := by omega)), e1, s2]
  simp only [Option.bind_some, Option.toList_some, Option.toList_none, List.cons_append, List.nil_append, List.append_nil]
  rw [b_L_law_599, if_pos rfl]
theorem W_allThen {i : Int} {σ : St} (h : CM σ i) (h0 : 0 ≤ i) (hL : i + 6 ≤ σ 32 1 0) (h2 : σ 32 1 0 ≤ 3072) : ∃ σ2, Rx k_L_law 604 [.inr (.inl (32, 0)), .inr (.inl (0, 0)), .inr (.inl (16, 0)), .inl i] [] σ = Rx k_L_law 1346 [.inr (.inl (32, 0)), .inr (.inl (0, 0)), .inr (.inl (16, 0)), .inl i] [] σ2 ∧ CM σ2 (i + 1) ∧ σ2 32 = σ 32 := by
  obtain ⟨x, σ1, σ2, s1, s2, c, e1, e2⟩ := S_allThen (σ 32 0 (i + 1).toNat) h (by omega)
  have hL1 : i + 6 ≤ σ1 32 1 0 := by rw [e1]; exact hL
  refine ⟨σ2, ?_, c, e2⟩
  rw [(b_L_law_604 (h0 := by omega) (h1 := by omega) (g0a := by omega) (g0b := by omega)), s1]
  simp only [Option.bind_some, Option.toList_some, Option.toList_none, List.cons_append, List.nil_append, List.append_nil]
  rw [(b_L_law_613 (h0 := by omega) (h1 := by omega) (g0a := by omega) (g0b := by omega)), e1, s2]
  simp only [Option.bind_some, Option.toList_some, Option.toList_none, List.cons_append, List.nil_append, List.append_nil]
  rw [b_L_law_622, if_pos rfl]
theorem W_purposeThen {i : Int} {σ : St} (h : CM σ i) (h0 : 0 ≤ i) (hL : i + 6 ≤ σ 32 1 0) (h2 : σ 32 1 0 ≤ 3072) : ∃ σ2, Rx k_L_law 627 [.inr (.inl (32, 0)), .inr (.inl (0, 0)), .inr (.inl (16, 0)), .inl i] [] σ = Rx k_L_law 1346 [.inr (.inl (32, 0)), .inr (.inl (0, 0)), .inr (.inl (16, 0)), .inl i] [] σ2 ∧ CM σ2 (i + 1) ∧ σ2 32 = σ 32 := by
  obtain ⟨x, σ1, σ2, s1, s2, c, e1, e2⟩ := S_purposeThen (σ 32 0 (i + 1).toNat) (σ 32 0 (i + 2).toNat) (σ 32 0 (i + 3).toNat) h (by omega)
  have hL1 : i + 6 ≤ σ1 32 1 0 := by rw [e1]; exact hL
  refine ⟨σ2, ?_, c, e2⟩
  rw [(b_L_law_627 (h0 := by omega) (h1 := by omega) (h2 := by omega) (h3 := by omega) (h4 := by omega) (h5 := by omega) (g0a := by omega) (g0b := by omega) (g1a := by omega) (g1b := by omega) (g2a := by omega) (g2b := by omega)), s1]
  simp only [Option.bind_some, Option.toList_some, Option.toList_none, List.cons_append, List.nil_append, List.append_nil]
  rw [(b_L_law_646 (h0 := by omega) (h1 := by omega) (h2 := by omega) (h3 := by omega) (h4 := by omega) (h5 := by omega) (g0a := by omega) (g0b := by omega) (g1a := by omega) (g1b := by omega) (g2a := by omega) (g2b := by omega)), e1, s2]
  simp only [Option.bind_some, Option.toList_some, Option.toList_none, List.cons_append, List.nil_append, List.append_nil]
  rw [b_L_law_665, if_pos rfl]
theorem W_falls {i : Int} {σ : St} (h : CM σ i) (h0 : 0 ≤ i) (hL : i + 6 ≤ σ 32 1 0) (h2 : σ 32 1 0 ≤ 3072) : ∃ σ2, Rx k_L_law 670 [.inr (.inl (32, 0)), .inr (.inl (0, 0)), .inr (.inl (16, 0)), .inl i] [] σ = Rx k_L_law 1346 [.inr (.inl (32, 0)), .inr (.inl (0, 0)), .inr (.inl (16, 0)), .inl i] [] σ2 ∧ CM σ2 (i + 1) ∧ σ2 32 = σ 32 := by
  obtain ⟨x, σ1, σ2, s1, s2, c, e1, e2⟩ := S_falls (σ 32 0 (i + 1).toNat) h (by omega)
  have hL1 : i + 6 ≤ σ1 32 1 0 := by rw [e1]; exact hL
  refine ⟨σ2, ?_, c, e2⟩
  rw [(b_L_law_670 (h0 := by omega) (h1 := by omega) (g0a := by omega) (g0b := by omega)), s1]
  simp only [Option.bind_some, Option.toList_some, Option.toList_none, List.cons_append, List.nil_append, List.append_nil]
  rw [(b_L_law_679 (h0 := by omega) (h1 := by omega) (g0a := by omega) (g0b := by omega)), e1, s2]
  simp only [Option.bind_some, Option.toList_some, Option.toList_none, List.cons_append, List.nil_append, List.append_nil]
  rw [b_L_law_688, if_pos rfl]
theorem W_first {i : Int} {σ : St} (h : CM σ i) (h0 : 0 ≤ i) (hL : i + 6 ≤ σ 32 1 0) (h2 : σ 32 1 0 ≤ 3072) : ∃ σ2, Rx k_L_law 693 [.inr (.inl (32, 0)), .inr (.inl (0, 0)), .inr (.inl (16, 0)), .inl i] [] σ = Rx k_L_law 1346 [.inr (.inl (32, 0)), .inr (.inl (0, 0)), .inr (.inl (16, 0)), .inl i] [] σ2 ∧ CM σ2 (i + 1) ∧ σ2 32 = σ 32 := by
  obtain ⟨x, σ1, σ2, s1, s2, c, e1, e2⟩ := S_first (σ 32 0 (i + 1).toNat) h (by omega)
  have hL1 : i + 6 ≤ σ1 32 1 0 := by rw [e1]; exact hL
  refine ⟨σ2, ?_, c, e2⟩
  rw [(b_L_law_693 (h0 := by omega) (h1 := by omega) (g0a := by omega) (g0b := by omega)), s1]
  simp only [Option.bind_some, Option.toList_some, Option.toList_none, List.cons_append, List.nil_append, List.append_nil]
  rw [(b_L_law_702 (h0 := by omega) (h1 := by omega) (g0a := by omega) (g0b := by omega)), e1, s2]
  simp only [Option.bind_some, Option.toList_some, Option.toList_none, List.cons_append, List.nil_append, List.append_nil]
  rw [b_L_law_711, if_pos rfl]
theorem W_pushed {i : Int} {σ : St} (h : CM σ i) (h0 : 0 ≤ i) (hL : i + 6 ≤ σ 32 1 0) (h2 : σ 32 1 0 ≤ 3072) : ∃ σ2, Rx k_L_law 716 [.inr (.inl (32, 0)), .inr (.inl (0, 0)), .inr (.inl (16, 0)), .inl i] [] σ = Rx k_L_law 1346 [.inr (.inl (32, 0)), .inr (.inl (0, 0)), .inr (.inl (16, 0)), .inl i] [] σ2 ∧ CM σ2 (i + 1) ∧ σ2 32 = σ 32 := by
  obtain ⟨x, σ1, σ2, s1, s2, c, e1, e2⟩ := S_pushed (σ 32 0 (i + 1).toNat) h (by omega)
  have hL1 : i + 6 ≤ σ1 32 1 0 := by rw [e1]; exact hL
  refine ⟨σ2, ?_, c, e2⟩
  rw [(b_L_law_716 (h0 := by omega) (h1 := by omega) (g0a := by omega) (g0b := by omega)), s1]
  simp only [Option.bind_some, Option.toList_some, Option.toList_none, List.cons_append, List.nil_append, List.append_nil]
  rw [(b_L_law_725 (h0 := by omega) (h1 := by omega) (g0a := by omega) (g0b := by omega)), e1, s2]
  simp only [Option.bind_some, Option.toList_some, Option.toList_none, List.cons_append, List.nil_append, List.append_nil]
  rw [b_L_law_734, if_pos rfl]
theorem W_worst {i : Int} {σ : St} (h : CM σ i) (h0 : 0 ≤ i) (hL : i + 6 ≤ σ 32 1 0) (h2 : σ 32 1 0 ≤ 3072) : ∃ σ2, Rx k_L_law 739 [.inr (.inl (32, 0)), .inr (.inl (0, 0)), .inr (.inl (16, 0)), .inl i] [] σ = Rx k_L_law 1346 [.inr (.inl (32, 0)), .inr (.inl (0, 0)), .inr (.inl (16, 0)), .inl i] [] σ2 ∧ CM σ2 (i + 1) ∧ σ2 32 = σ 32 := by
  obtain ⟨x, σ1, σ2, s1, s2, c, e1, e2⟩ := S_worst (σ 32 0 (i + 1).toNat) h (by omega)
  have hL1 : i + 6 ≤ σ1 32 1 0 := by rw [e1]; exact hL
  refine ⟨σ2, ?_, c, e2⟩
  rw [(b_L_law_739 (h0 := by omega) (h1 := by omega) (g0a := by omega) (g0b := by omega)), s1]
  simp only [Option.bind_some, Option.toList_some, Option.toList_none, List.cons_append, List.nil_append, List.append_nil]
  rw [(b_L_law_748 (h0 := by omega) (h1 := by omega) (g0a := by omega) (g0b := by omega)), e1, s2]
  simp only [Option.bind_some, Option.toList_some, Option.toList_none, List.cons_append, List.nil_append, List.append_nil]
  rw [b_L_law_757, if_pos rfl]
theorem W_gap {i : Int} {σ : St} (h : CM σ i) (h0 : 0 ≤ i) (hL : i + 6 ≤ σ 32 1 0) (h2 : σ 32 1 0 ≤ 3072) : ∃ σ2, Rx k_L_law 762 [.inr (.inl (32, 0)), .inr (.inl (0, 0)), .inr (.inl (16, 0)), .inl i] [] σ = Rx k_L_law 1346 [.inr (.inl (32, 0)), .inr (.inl (0, 0)), .inr (.inl (16, 0)), .inl i] [] σ2 ∧ CM σ2 (i + 1) ∧ σ2 32 = σ 32 := by
  obtain ⟨x, σ1, σ2, s1, s2, c, e1, e2⟩ := S_gap (σ 32 0 (i + 1).toNat) h (by omega)
  have hL1 : i + 6 ≤ σ1 32 1 0 := by rw [e1]; exact hL
  refine ⟨σ2, ?_, c, e2⟩
  rw [(b_L_law_762 (h0 := by omega) (h1 := by omega) (g0a := by omega) (g0b := by omega)), s1]
  simp only [Option.bind_some, Option.toList_some, Option.toList_none, List.cons_append, List.nil_append, List.append_nil]
  rw [(b_L_law_771 (h0 := by omega) (h1 := by omega) (g0a := by omega) (g0b := by omega)), e1, s2]
  simp only [Option.bind_some, Option.toList_some, Option.toList_none, List.cons_append, List.nil_append, List.append_nil]
  rw [b_L_law_780, if_pos rfl]
theorem W_longest {i : Int} {σ : St} (h : CM σ i) (h0 : 0 ≤ i) (hL : i + 6 ≤ σ 32 1 0) (h2 : σ 32 1 0 ≤ 3072) : ∃ σ2, Rx k_L_law 785 [.inr (.inl (32, 0)), .inr (.inl (0, 0)), .inr (.inl (16, 0)), .inl i] [] σ = Rx k_L_law 1346 [.inr (.inl (32, 0)), .inr (.inl (0, 0)), .inr (.inl (16, 0)), .inl i] [] σ2 ∧ CM σ2 (i + 1) ∧ σ2 32 = σ 32 := by
  obtain ⟨x, σ1, σ2, s1, s2, c, e1, e2⟩ := S_longest (σ 32 0 (i + 1).toNat) h (by omega)
  have hL1 : i + 6 ≤ σ1 32 1 0 := by rw [e1]; exact hL
  refine ⟨σ2, ?_, c, e2⟩
  rw [(b_L_law_785 (h0 := by omega) (h1 := by omega) (g0a := by omega) (g0b := by omega)), s1]
  simp only [Option.bind_some, Option.toList_some, Option.toList_none, List.cons_append, List.nil_append, List.append_nil]
  rw [(b_L_law_794 (h0 := by omega) (h1 := by omega) (g0a := by omega) (g0b := by omega)), e1, s2]
  simp only [Option.bind_some, Option.toList_some, Option.toList_none, List.cons_append, List.nil_append, List.append_nil]
  rw [b_L_law_803, if_pos rfl]
theorem W_lean {i : Int} {σ : St} (h : CM σ i) (h0 : 0 ≤ i) (hL : i + 6 ≤ σ 32 1 0) (h2 : σ 32 1 0 ≤ 3072) : ∃ σ2, Rx k_L_law 808 [.inr (.inl (32, 0)), .inr (.inl (0, 0)), .inr (.inl (16, 0)), .inl i] [] σ = Rx k_L_law 1346 [.inr (.inl (32, 0)), .inr (.inl (0, 0)), .inr (.inl (16, 0)), .inl i] [] σ2 ∧ CM σ2 (i + 1) ∧ σ2 32 = σ 32 := by
  obtain ⟨x, σ1, σ2, s1, s2, c, e1, e2⟩ := S_lean (σ 32 0 (i + 1).toNat) h (by omega)
  have hL1 : i + 6 ≤ σ1 32 1 0 := by rw [e1]; exact hL
  refine ⟨σ2, ?_, c, e2⟩
  rw [(b_L_law_808 (h0 := by omega) (h1 := by omega) (g0a := by omega) (g0b := by omega)), s1]
  simp only [Option.bind_some, Option.toList_some, Option.toList_none, List.cons_append, List.nil_append, List.append_nil]
  rw [(b_L_law_817 (h0 := by omega) (h1 := by omega) (g0a := by omega) (g0b := by omega)), e1, s2]
  simp only [Option.bind_some, Option.toList_some, Option.toList_none, List.cons_append, List.nil_append, List.append_nil]
  rw [b_L_law_826, if_pos rfl]
theorem W_bestLeans {i : Int} {σ : St} (h : CM σ i) (h0 : 0 ≤ i) (hL : i + 6 ≤ σ 32 1 0) (h2 : σ 32 1 0 ≤ 3072) : ∃ σ2, Rx k_L_law 831 [.inr (.inl (32, 0)), .inr (.inl (0, 0)), .inr (.inl (16, 0)), .inl i] [] σ = Rx k_L_law 1346 [.inr (.inl (32, 0)), .inr (.inl (0, 0)), .inr (.inl (16, 0)), .inl i] [] σ2 ∧ CM σ2 (i + 1) ∧ σ2 32 = σ 32 := by
  obtain ⟨x, σ1, σ2, s1, s2, c, e1, e2⟩ := S_bestLeans (σ 32 0 (i + 1).toNat) (σ 32 0 (i + 2).toNat) (σ 32 0 (i + 3).toNat) (σ 32 0 (i + 4).toNat) (σ 32 0 (i + 5).toNat) h (by omega)
  have hL1 : i + 6 ≤ σ1 32 1 0 := by rw [e1]; exact hL
  refine ⟨σ2, ?_, c, e2⟩
  rw [(b_L_law_831 (h0 := by omega) (h1 := by omega) (h2 := by omega) (h3 := by omega) (h4 := by omega) (h5 := by omega) (h6 := by omega) (h7 := by omega) (h8 := by omega) (h9 := by omega) (g0a := by omega) (g0b := by omega) (g1a := by omega) (g1b := by omega) (g2a := by omega) (g2b := by omega) (g3a := by omega) (g3b := by omega) (g4a := by omega) (g4b := by omega)), s1]
  simp only [Option.bind_some, Option.toList_some, Option.toList_none, List.cons_append, List.nil_append, List.append_nil]
  rw [(b_L_law_860 (h0 := by omega) (h1 := by omega) (h2 := by omega) (h3 := by omega) (h4 := by omega) (h5 := by omega) (h6 := by omega) (h7 := by omega) (h8 := by omega) (h9 := by omega) (g0a := by omega) (g0b := by omega) (g1a := by omega) (g1b := by omega) (g2a := by omega) (g2b := by omega) (g3a := by omega) (g3b := by omega) (g4a := by omega) (g4b := by omega)), e1, s2]
  simp only [Option.bind_some, Option.toList_some, Option.toList_none, List.cons_append, List.nil_append, List.append_nil]
  rw [b_L_law_889, if_pos rfl]
theorem W_mended {i : Int} {σ : St} (h : CM σ i) (h0 : 0 ≤ i) (hL : i + 6 ≤ σ 32 1 0) (h2 : σ 32 1 0 ≤ 3072) : ∃ σ2, Rx k_L_law 894 [.inr (.inl (32, 0)), .inr (.inl (0, 0)), .inr (.inl (16, 0)), .inl i] [] σ = Rx k_L_law 1346 [.inr (.inl (32, 0)), .inr (.inl (0, 0)), .inr (.inl (16, 0)), .inl i] [] σ2 ∧ CM σ2 (i + 1) ∧ σ2 32 = σ 32 := by
  obtain ⟨x, σ1, σ2, s1, s2, c, e1, e2⟩ := S_mended (σ 32 0 (i + 1).toNat) h (by omega)
  have hL1 : i + 6 ≤ σ1 32 1 0 := by rw [e1]; exact hL
  refine ⟨σ2, ?_, c, e2⟩
  rw [(b_L_law_894 (h0 := by omega) (h1 := by omega) (g0a := by omega) (g0b := by omega)), s1]
  simp only [Option.bind_some, Option.toList_some, Option.toList_none, List.cons_append, List.nil_append, List.append_nil]
  rw [(b_L_law_903 (h0 := by omega) (h1 := by omega) (g0a := by omega) (g0b := by omega)), e1, s2]
  simp only [Option.bind_some, Option.toList_some, Option.toList_none, List.cons_append, List.nil_append, List.append_nil]
  rw [b_L_law_912, if_pos rfl]
theorem W_key {i : Int} {σ : St} (h : CM σ i) (h0 : 0 ≤ i) (hL : i + 6 ≤ σ 32 1 0) (h2 : σ 32 1 0 ≤ 3072) : ∃ σ2, Rx k_L_law 917 [.inr (.inl (32, 0)), .inr (.inl (0, 0)), .inr (.inl (16, 0)), .inl i] [] σ = Rx k_L_law 1346 [.inr (.inl (32, 0)), .inr (.inl (0, 0)), .inr (.inl (16, 0)), .inl i] [] σ2 ∧ CM σ2 (i + 1) ∧ σ2 32 = σ 32 := by
  obtain ⟨x, σ1, σ2, s1, s2, c, e1, e2⟩ := S_key (σ 32 0 (i + 1).toNat) h (by omega)
  have hL1 : i + 6 ≤ σ1 32 1 0 := by rw [e1]; exact hL
  refine ⟨σ2, ?_, c, e2⟩
  rw [(b_L_law_917 (h0 := by omega) (h1 := by omega) (g0a := by omega) (g0b := by omega)), s1]
  simp only [Option.bind_some, Option.toList_some, Option.toList_none, List.cons_append, List.nil_append, List.append_nil]
  rw [(b_L_law_926 (h0 := by omega) (h1 := by omega) (g0a := by omega) (g0b := by omega)), e1, s2]
  simp only [Option.bind_some, Option.toList_some, Option.toList_none, List.cons_append, List.nil_append, List.append_nil]
  rw [b_L_law_935, if_pos rfl]
theorem W_takes {i : Int} {σ : St} (h : CM σ i) (h0 : 0 ≤ i) (hL : i + 6 ≤ σ 32 1 0) (h2 : σ 32 1 0 ≤ 3072) : ∃ σ2, Rx k_L_law 940 [.inr (.inl (32, 0)), .inr (.inl (0, 0)), .inr (.inl (16, 0)), .inl i] [] σ = Rx k_L_law 1346 [.inr (.inl (32, 0)), .inr (.inl (0, 0)), .inr (.inl (16, 0)), .inl i] [] σ2 ∧ CM σ2 (i + 1) ∧ σ2 32 = σ 32 := by
  obtain ⟨x, σ1, σ2, s1, s2, c, e1, e2⟩ := S_takes (σ 32 0 (i + 1).toNat) (σ 32 0 (i + 2).toNat) h (by omega)
  have hL1 : i + 6 ≤ σ1 32 1 0 := by rw [e1]; exact hL
  refine ⟨σ2, ?_, c, e2⟩
  rw [(b_L_law_940 (h0 := by omega) (h1 := by omega) (h2 := by omega) (h3 := by omega) (g0a := by omega) (g0b := by omega) (g1a := by omega) (g1b := by omega)), s1]
  simp only [Option.bind_some, Option.toList_some, Option.toList_none, List.cons_append, List.nil_append, List.append_nil]
  rw [(b_L_law_954 (h0 := by omega) (h1 := by omega) (h2 := by omega) (h3 := by omega) (g0a := by omega) (g0b := by omega) (g1a := by omega) (g1b := by omega)), e1, s2]
  simp only [Option.bind_some, Option.toList_some, Option.toList_none, List.cons_append, List.nil_append, List.append_nil]
  rw [b_L_law_968, if_pos rfl]
theorem W_balanced {i : Int} {σ : St} (h : CM σ i) (h0 : 0 ≤ i) (hL : i + 6 ≤ σ 32 1 0) (h2 : σ 32 1 0 ≤ 3072) : ∃ σ2, Rx k_L_law 973 [.inr (.inl (32, 0)), .inr (.inl (0, 0)), .inr (.inl (16, 0)), .inl i] [] σ = Rx k_L_law 1346 [.inr (.inl (32, 0)), .inr (.inl (0, 0)), .inr (.inl (16, 0)), .inl i] [] σ2 ∧ CM σ2 (i + 1) ∧ σ2 32 = σ 32 := by
  obtain ⟨x, σ1, σ2, s1, s2, c, e1, e2⟩ := S_balanced (σ 32 0 (i + 1).toNat) (σ 32 0 (i + 2).toNat) h (by omega)
  have hL1 : i + 6 ≤ σ1 32 1 0 := by rw [e1]; exact hL
  refine ⟨σ2, ?_, c, e2⟩
  rw [(b_L_law_973 (h0 := by omega) (h1 := by omega) (h2 := by omega) (h3 := by omega) (g0a := by omega) (g0b := by omega) (g1a := by omega) (g1b := by omega)), s1]
  simp only [Option.bind_some, Option.toList_some, Option.toList_none, List.cons_append, List.nil_append, List.append_nil]
  rw [(b_L_law_987 (h0 := by omega) (h1 := by omega) (h2 := by omega) (h3 := by omega) (g0a := by omega) (g0b := by omega) (g1a := by omega) (g1b := by omega)), e1, s2]
  simp only [Option.bind_some, Option.toList_some, Option.toList_none, List.cons_append, List.nil_append, List.append_nil]
  rw [b_L_law_1001, if_pos rfl]
theorem W_thief {i : Int} {σ : St} (h : CM σ i) (h0 : 0 ≤ i) (hL : i + 6 ≤ σ 32 1 0) (h2 : σ 32 1 0 ≤ 3072) : ∃ σ2, Rx k_L_law 1006 [.inr (.inl (32, 0)), .inr (.inl (0, 0)), .inr (.inl (16, 0)), .inl i] [] σ = Rx k_L_law 1346 [.inr (.inl (32, 0)), .inr (.inl (0, 0)), .inr (.inl (16, 0)), .inl i] [] σ2 ∧ CM σ2 (i + 1) ∧ σ2 32 = σ 32 := by
  obtain ⟨x, σ1, σ2, s1, s2, c, e1, e2⟩ := S_thief (σ 32 0 (i + 1).toNat) h (by omega)
  have hL1 : i + 6 ≤ σ1 32 1 0 := by rw [e1]; exact hL
  refine ⟨σ2, ?_, c, e2⟩
  rw [(b_L_law_1006 (h0 := by omega) (h1 := by omega) (g0a := by omega) (g0b := by omega)), s1]
  simp only [Option.bind_some, Option.toList_some, Option.toList_none, List.cons_append, List.nil_append, List.append_nil]
  rw [(b_L_law_1015 (h0 := by omega) (h1 := by omega) (g0a := by omega) (g0b := by omega)), e1, s2]
  simp only [Option.bind_some, Option.toList_some, Option.toList_none, List.cons_append, List.nil_append, List.append_nil]
  rw [b_L_law_1024, if_pos rfl]
theorem W_robbed {i : Int} {σ : St} (h : CM σ i) (h0 : 0 ≤ i) (hL : i + 6 ≤ σ 32 1 0) (h2 : σ 32 1 0 ≤ 3072) : ∃ σ2, Rx k_L_law 1029 [.inr (.inl (32, 0)), .inr (.inl (0, 0)), .inr (.inl (16, 0)), .inl i] [] σ = Rx k_L_law 1346 [.inr (.inl (32, 0)), .inr (.inl (0, 0)), .inr (.inl (16, 0)), .inl i] [] σ2 ∧ CM σ2 (i + 1) ∧ σ2 32 = σ 32 := by
  obtain ⟨x, σ1, σ2, s1, s2, c, e1, e2⟩ := S_robbed  h (by omega)
  have hL1 : i + 6 ≤ σ1 32 1 0 := by rw [e1]; exact hL
  refine ⟨σ2, ?_, c, e2⟩
  rw [(b_L_law_1029), s1]
  simp only [Option.bind_some, Option.toList_some, Option.toList_none, List.cons_append, List.nil_append, List.append_nil]
  rw [(b_L_law_1033), s2]
  simp only [Option.bind_some, Option.toList_some, Option.toList_none, List.cons_append, List.nil_append, List.append_nil]
  rw [b_L_law_1037, if_pos rfl]
theorem W_bestPlace {i : Int} {σ : St} (h : CM σ i) (h0 : 0 ≤ i) (hL : i + 6 ≤ σ 32 1 0) (h2 : σ 32 1 0 ≤ 3072) : ∃ σ2, Rx k_L_law 1042 [.inr (.inl (32, 0)), .inr (.inl (0, 0)), .inr (.inl (16, 0)), .inl i] [] σ = Rx k_L_law 1346 [.inr (.inl (32, 0)), .inr (.inl (0, 0)), .inr (.inl (16, 0)), .inl i] [] σ2 ∧ CM σ2 (i + 1) ∧ σ2 32 = σ 32 := by
  obtain ⟨x, σ1, σ2, s1, s2, c, e1, e2⟩ := S_bestPlace (σ 32 0 (i + 1).toNat) (σ 32 0 (i + 2).toNat) h (by omega)
  have hL1 : i + 6 ≤ σ1 32 1 0 := by rw [e1]; exact hL
  refine ⟨σ2, ?_, c, e2⟩
  rw [(b_L_law_1042 (h0 := by omega) (h1 := by omega) (h2 := by omega) (h3 := by omega) (g0a := by omega) (g0b := by omega) (g1a := by omega) (g1b := by omega)), s1]
  simp only [Option.bind_some, Option.toList_some, Option.toList_none, List.cons_append, List.nil_append, List.append_nil]
  rw [(b_L_law_1056 (h0 := by omega) (h1 := by omega) (h2 := by omega) (h3 := by omega) (g0a := by omega) (g0b := by omega) (g1a := by omega) (g1b := by omega)), e1, s2]
  simp only [Option.bind_some, Option.toList_some, Option.toList_none, List.cons_append, List.nil_append, List.append_nil]
  rw [b_L_law_1070, if_pos rfl]
theorem W_draught {i : Int} {σ : St} (h : CM σ i) (h0 : 0 ≤ i) (hL : i + 6 ≤ σ 32 1 0) (h2 : σ 32 1 0 ≤ 3072) : ∃ σ2, Rx k_L_law 1075 [.inr (.inl (32, 0)), .inr (.inl (0, 0)), .inr (.inl (16, 0)), .inl i] [] σ = Rx k_L_law 1346 [.inr (.inl (32, 0)), .inr (.inl (0, 0)), .inr (.inl (16, 0)), .inl i] [] σ2 ∧ CM σ2 (i + 1) ∧ σ2 32 = σ 32 := by
  obtain ⟨x, σ1, σ2, s1, s2, c, e1, e2⟩ := S_draught (σ 32 0 (i + 1).toNat) (σ 32 0 (i + 2).toNat) (σ 32 0 (i + 3).toNat) (σ 32 0 (i + 4).toNat) h (by omega)
  have hL1 : i + 6 ≤ σ1 32 1 0 := by rw [e1]; exact hL
  refine ⟨σ2, ?_, c, e2⟩
  rw [(b_L_law_1075 (h0 := by omega) (h1 := by omega) (h2 := by omega) (h3 := by omega) (h4 := by omega) (h5 := by omega) (h6 := by omega) (h7 := by omega) (g0a := by omega) (g0b := by omega) (g1a := by omega) (g1b := by omega) (g2a := by omega) (g2b := by omega) (g3a := by omega) (g3b := by omega)), s1]
  simp only [Option.bind_some, Option.toList_some, Option.toList_none, List.cons_append, List.nil_append, List.append_nil]
  rw [(b_L_law_1099 (h0 := by omega) (h1 := by omega) (h2 := by omega) (h3 := by omega) (h4 := by omega) (h5 := by omega) (h6 := by omega) (h7 := by omega) (g0a := by omega) (g0b := by omega) (g1a := by omega) (g1b := by omega) (g2a := by omega) (g2b := by omega) (g3a := by omega) (g3b := by omega)), e1, s2]
  simp only [Option.bind_some, Option.toList_some, Option.toList_none, List.cons_append, List.nil_append, List.append_nil]
  rw [b_L_law_1123, if_pos (by rw [if_neg (Int.lt_irrefl _), if_pos rfl])]
theorem W_two {i : Int} {σ : St} (h : CM σ i) (h0 : 0 ≤ i) (hL : i + 6 ≤ σ 32 1 0) (h2 : σ 32 1 0 ≤ 3072) : ∃ σ2, Rx k_L_law 1129 [.inr (.inl (32, 0)), .inr (.inl (0, 0)), .inr (.inl (16, 0)), .inl i] [] σ = Rx k_L_law 1346 [.inr (.inl (32, 0)), .inr (.inl (0, 0)), .inr (.inl (16, 0)), .inl i] [] σ2 ∧ CM σ2 (i + 1) ∧ σ2 32 = σ 32 := by
  obtain ⟨x, σ1, σ2, s1, s2, c, e1, e2⟩ := S_two (σ 32 0 (i + 1).toNat) (σ 32 0 (i + 2).toNat) (σ 32 0 (i + 3).toNat) h (by omega)
  have hL1 : i + 6 ≤ σ1 32 1 0 := by rw [e1]; exact hL
  refine ⟨σ2, ?_, c, e2⟩
  rw [(b_L_law_1129 (h0 := by omega) (h1 := by omega) (h2 := by omega) (h3 := by omega) (h4 := by omega) (h5 := by omega) (g0a := by omega) (g0b := by omega) (g1a := by omega) (g1b := by omega) (g2a := by omega) (g2b := by omega)), s1]
  simp only [Option.bind_some, Option.toList_some, Option.toList_none, List.cons_append, List.nil_append, List.append_nil]
  rw [(b_L_law_1148 (h0 := by omega) (h1 := by omega) (h2 := by omega) (h3 := by omega) (h4 := by omega) (h5 := by omega) (g0a := by omega) (g0b := by omega) (g1a := by omega) (g1b := by omega) (g2a := by omega) (g2b := by omega)), e1, s2]
  simp only [Option.bind_some, Option.toList_some, Option.toList_none, List.cons_append, List.nil_append, List.append_nil]
  rw [b_L_law_1167, if_pos rfl]
theorem W_whatWas {i : Int} {σ : St} (h : CM σ i) (h0 : 0 ≤ i) (hL : i + 6 ≤ σ 32 1 0) (h2 : σ 32 1 0 ≤ 3072) : ∃ σ2, Rx k_L_law 1172 [.inr (.inl (32, 0)), .inr (.inl (0, 0)), .inr (.inl (16, 0)), .inl i] [] σ = Rx k_L_law 1346 [.inr (.inl (32, 0)), .inr (.inl (0, 0)), .inr (.inl (16, 0)), .inl i] [] σ2 ∧ CM σ2 (i + 1) ∧ σ2 32 = σ 32 := by
  obtain ⟨x, σ1, σ2, s1, s2, c, e1, e2⟩ := S_whatWas (σ 32 0 (i + 1).toNat) (σ 32 0 (i + 2).toNat) h (by omega)
  have hL1 : i + 6 ≤ σ1 32 1 0 := by rw [e1]; exact hL
  refine ⟨σ2, ?_, c, e2⟩
  rw [(b_L_law_1172 (h0 := by omega) (h1 := by omega) (h2 := by omega) (h3 := by omega) (g0a := by omega) (g0b := by omega) (g1a := by omega) (g1b := by omega)), s1]
  simp only [Option.bind_some, Option.toList_some, Option.toList_none, List.cons_append, List.nil_append, List.append_nil]
  rw [(b_L_law_1186 (h0 := by omega) (h1 := by omega) (h2 := by omega) (h3 := by omega) (g0a := by omega) (g0b := by omega) (g1a := by omega) (g1b := by omega)), e1, s2]
  simp only [Option.bind_some, Option.toList_some, Option.toList_none, List.cons_append, List.nil_append, List.append_nil]
  rw [b_L_law_1200, if_pos rfl]
theorem W_row {i : Int} {σ : St} (h : CM σ i) (h0 : 0 ≤ i) (hL : i + 6 ≤ σ 32 1 0) (h2 : σ 32 1 0 ≤ 3072) : ∃ σ2, Rx k_L_law 1205 [.inr (.inl (32, 0)), .inr (.inl (0, 0)), .inr (.inl (16, 0)), .inl i] [] σ = Rx k_L_law 1346 [.inr (.inl (32, 0)), .inr (.inl (0, 0)), .inr (.inl (16, 0)), .inl i] [] σ2 ∧ CM σ2 (i + 1) ∧ σ2 32 = σ 32 := by
  obtain ⟨x, σ1, σ2, s1, s2, c, e1, e2⟩ := S_row (σ 32 0 (i + 1).toNat) h (by omega)
  have hL1 : i + 6 ≤ σ1 32 1 0 := by rw [e1]; exact hL
  refine ⟨σ2, ?_, c, e2⟩
  rw [(b_L_law_1205 (h0 := by omega) (h1 := by omega) (g0a := by omega) (g0b := by omega)), s1]
  simp only [Option.bind_some, Option.toList_some, Option.toList_none, List.cons_append, List.nil_append, List.append_nil]
  rw [(b_L_law_1214 (h0 := by omega) (h1 := by omega) (g0a := by omega) (g0b := by omega)), e1, s2]
  simp only [Option.bind_some, Option.toList_some, Option.toList_none, List.cons_append, List.nil_append, List.append_nil]
  rw [b_L_law_1223, if_pos rfl]
theorem W_judge {i : Int} {σ : St} (h : CM σ i) (h0 : 0 ≤ i) (hL : i + 6 ≤ σ 32 1 0) (h2 : σ 32 1 0 ≤ 3072) : ∃ σ2, Rx k_L_law 1228 [.inr (.inl (32, 0)), .inr (.inl (0, 0)), .inr (.inl (16, 0)), .inl i] [] σ = Rx k_L_law 1346 [.inr (.inl (32, 0)), .inr (.inl (0, 0)), .inr (.inl (16, 0)), .inl i] [] σ2 ∧ CM σ2 (i + 1) ∧ σ2 32 = σ 32 := by
  obtain ⟨x, σ1, σ2, s1, s2, c, e1, e2⟩ := S_judge  h (by omega)
  have hL1 : i + 6 ≤ σ1 32 1 0 := by rw [e1]; exact hL
  refine ⟨σ2, ?_, c, e2⟩
  rw [(b_L_law_1228), s1]
  simp only [Option.bind_some, Option.toList_some, Option.toList_none, List.cons_append, List.nil_append, List.append_nil]
  rw [(b_L_law_1232), s2]
  simp only [Option.bind_some, Option.toList_some, Option.toList_none, List.cons_append, List.nil_append, List.append_nil]
  rw [b_L_law_1236, if_pos rfl]
theorem W_clear {i : Int} {σ : St} (h : CM σ i) (h0 : 0 ≤ i) (hL : i + 6 ≤ σ 32 1 0) (h2 : σ 32 1 0 ≤ 3072) : ∃ σ2, Rx k_L_law 1241 [.inr (.inl (32, 0)), .inr (.inl (0, 0)), .inr (.inl (16, 0)), .inl i] [] σ = Rx k_L_law 1346 [.inr (.inl (32, 0)), .inr (.inl (0, 0)), .inr (.inl (16, 0)), .inl i] [] σ2 ∧ CM σ2 (i + 1) ∧ σ2 32 = σ 32 := by
  obtain ⟨x, σ1, σ2, s1, s2, c, e1, e2⟩ := S_clear  h (by omega)
  have hL1 : i + 6 ≤ σ1 32 1 0 := by rw [e1]; exact hL
  refine ⟨σ2, ?_, c, e2⟩
  rw [(b_L_law_1241), s1]
  simp only [Option.bind_some, Option.toList_some, Option.toList_none, List.cons_append, List.nil_append, List.append_nil]
  rw [(b_L_law_1245), s2]
  simp only [Option.bind_some, Option.toList_some, Option.toList_none, List.cons_append, List.nil_append, List.append_nil]
  rw [b_L_law_1249, if_pos rfl]
theorem W_lots {i : Int} {σ : St} (h : CM σ i) (h0 : 0 ≤ i) (hL : i + 6 ≤ σ 32 1 0) (h2 : σ 32 1 0 ≤ 3072) : ∃ σ2, Rx k_L_law 1254 [.inr (.inl (32, 0)), .inr (.inl (0, 0)), .inr (.inl (16, 0)), .inl i] [] σ = Rx k_L_law 1346 [.inr (.inl (32, 0)), .inr (.inl (0, 0)), .inr (.inl (16, 0)), .inl i] [] σ2 ∧ CM σ2 (i + 1) ∧ σ2 32 = σ 32 := by
  obtain ⟨x, σ1, σ2, s1, s2, c, e1, e2⟩ := S_lots (σ 32 0 (i + 1).toNat) (σ 32 0 (i + 2).toNat) (σ 32 0 (i + 3).toNat) h (by omega)
  have hL1 : i + 6 ≤ σ1 32 1 0 := by rw [e1]; exact hL
  refine ⟨σ2, ?_, c, e2⟩
  rw [(b_L_law_1254 (h0 := by omega) (h1 := by omega) (h2 := by omega) (h3 := by omega) (h4 := by omega) (h5 := by omega) (g0a := by omega) (g0b := by omega) (g1a := by omega) (g1b := by omega) (g2a := by omega) (g2b := by omega)), s1]
  simp only [Option.bind_some, Option.toList_some, Option.toList_none, List.cons_append, List.nil_append, List.append_nil]
  rw [(b_L_law_1273 (h0 := by omega) (h1 := by omega) (h2 := by omega) (h3 := by omega) (h4 := by omega) (h5 := by omega) (g0a := by omega) (g0b := by omega) (g1a := by omega) (g1b := by omega) (g2a := by omega) (g2b := by omega)), e1, s2]
  simp only [Option.bind_some, Option.toList_some, Option.toList_none, List.cons_append, List.nil_append, List.append_nil]
  rw [b_L_law_1292, if_pos rfl]
theorem W_image {i : Int} {σ : St} (h : CM σ i) (h0 : 0 ≤ i) (hL : i + 6 ≤ σ 32 1 0) (h2 : σ 32 1 0 ≤ 3072) : ∃ σ2, Rx k_L_law 1297 [.inr (.inl (32, 0)), .inr (.inl (0, 0)), .inr (.inl (16, 0)), .inl i] [] σ = Rx k_L_law 1346 [.inr (.inl (32, 0)), .inr (.inl (0, 0)), .inr (.inl (16, 0)), .inl i] [] σ2 ∧ CM σ2 (i + 1) ∧ σ2 32 = σ 32 := by
  obtain ⟨x, σ1, σ2, s1, s2, c, e1, e2⟩ := S_image  h (by omega)
  have hL1 : i + 6 ≤ σ1 32 1 0 := by rw [e1]; exact hL
  refine ⟨σ2, ?_, c, e2⟩
  rw [(b_L_law_1297), s1]
  simp only [Option.bind_some, Option.toList_some, Option.toList_none, List.cons_append, List.nil_append, List.append_nil]
  rw [(b_L_law_1301), s2]
  simp only [Option.bind_some, Option.toList_some, Option.toList_none, List.cons_append, List.nil_append, List.append_nil]
  rw [b_L_law_1305, if_pos rfl]
theorem W_on {i : Int} {σ : St} (h : CM σ i) (h0 : 0 ≤ i) (hL : i + 6 ≤ σ 32 1 0) (h2 : σ 32 1 0 ≤ 3072) : ∃ σ2, Rx k_L_law 1310 [.inr (.inl (32, 0)), .inr (.inl (0, 0)), .inr (.inl (16, 0)), .inl i] [] σ = Rx k_L_law 1346 [.inr (.inl (32, 0)), .inr (.inl (0, 0)), .inr (.inl (16, 0)), .inl i] [] σ2 ∧ CM σ2 (i + 1) ∧ σ2 32 = σ 32 := by
  obtain ⟨x, σ1, σ2, s1, s2, c, e1, e2⟩ := S_on  h (by omega)
  have hL1 : i + 6 ≤ σ1 32 1 0 := by rw [e1]; exact hL
  refine ⟨σ2, ?_, c, e2⟩
  rw [(b_L_law_1310), s1]
  simp only [Option.bind_some, Option.toList_some, Option.toList_none, List.cons_append, List.nil_append, List.append_nil]
  rw [(b_L_law_1314), s2]
  simp only [Option.bind_some, Option.toList_some, Option.toList_none, List.cons_append, List.nil_append, List.append_nil]
  rw [b_L_law_1318, if_pos rfl]
theorem W_count {i : Int} {σ : St} (h : CM σ i) (h0 : 0 ≤ i) (hL : i + 6 ≤ σ 32 1 0) (h2 : σ 32 1 0 ≤ 3072) : ∃ σ2, Rx k_L_law 1323 [.inr (.inl (32, 0)), .inr (.inl (0, 0)), .inr (.inl (16, 0)), .inl i] [] σ = Rx k_L_law 1346 [.inr (.inl (32, 0)), .inr (.inl (0, 0)), .inr (.inl (16, 0)), .inl i] [] σ2 ∧ CM σ2 (i + 1) ∧ σ2 32 = σ 32 := by
  obtain ⟨x, σ1, σ2, s1, s2, c, e1, e2⟩ := S_count (σ 32 0 (i + 1).toNat) h (by omega)
  have hL1 : i + 6 ≤ σ1 32 1 0 := by rw [e1]; exact hL
  refine ⟨σ2, ?_, c, e2⟩
  rw [(b_L_law_1323 (h0 := by omega) (h1 := by omega) (g0a := by omega) (g0b := by omega)), s1]
  simp only [Option.bind_some, Option.toList_some, Option.toList_none, List.cons_append, List.nil_append, List.append_nil]
  rw [(b_L_law_1332 (h0 := by omega) (h1 := by omega) (g0a := by omega) (g0b := by omega)), e1, s2]
  simp only [Option.bind_some, Option.toList_some, Option.toList_none, List.cons_append, List.nil_append, List.append_nil]
  rw [b_L_law_1341, if_pos rfl]
theorem W_step {i : Int} {σ : St} (h : CM σ i) (h0 : 0 ≤ i) (hL : i + 6 ≤ σ 32 1 0) (h2 : σ 32 1 0 ≤ 3072) : ∃ σ2, Rx k_L_law 27 [.inr (.inl (32, 0)), .inr (.inl (0, 0)), .inr (.inl (16, 0)), .inl i] [] σ = Rx k_L_law 1346 [.inr (.inl (32, 0)), .inr (.inl (0, 0)), .inr (.inl (16, 0)), .inl i] [] σ2 ∧ CM σ2 (i + 1) ∧ σ2 32 = σ 32 := by
  rw [(b_L_law_27 (h0 := by omega) (h1 := by omega))]
  by_cases c0 : bAnd (σ 32 0 i.toNat) 63 = 0
  · rw [if_pos c0]; exact W_letter h h0 hL h2
  rw [if_neg c0]
  by_cases c1 : bAnd (σ 32 0 i.toNat) 63 = 1
  · rw [if_pos c1]; exact W_rack h h0 hL h2
  rw [if_neg c1]
  by_cases c2 : bAnd (σ 32 0 i.toNat) 63 = 2
  · rw [if_pos c2]; exact W_purpose h h0 hL h2
  rw [if_neg c2]
  by_cases c3 : bAnd (σ 32 0 i.toNat) 63 = 3
  · rw [if_pos c3]; exact W_spare h h0 hL h2
  rw [if_neg c3]
  by_cases c4 : bAnd (σ 32 0 i.toNat) 63 = 4
  · rw [if_pos c4]; exact W_thing h h0 hL h2
  rw [if_neg c4]
  by_cases c5 : bAnd (σ 32 0 i.toNat) 63 = 5
  · rw [if_pos c5]; exact W_at h h0 hL h2
  rw [if_neg c5]
  by_cases c6 : bAnd (σ 32 0 i.toNat) 63 = 6
  · rw [if_pos c6]; exact W_leans h h0 hL h2
  rw [if_neg c6]
  by_cases c7 : bAnd (σ 32 0 i.toNat) 63 = 7
  · rw [if_pos c7]; exact W_moves h h0 hL h2
  rw [if_neg c7]
  by_cases c8 : bAnd (σ 32 0 i.toNat) 63 = 8
  · rw [if_pos c8]; exact W_setsUp h h0 hL h2
  rw [if_neg c8]
  by_cases c9 : bAnd (σ 32 0 i.toNat) 63 = 9
  · rw [if_pos c9]; exact W_pushes h h0 hL h2
  rw [if_neg c9]
  by_cases c10 : bAnd (σ 32 0 i.toNat) 63 = 10
  · rw [if_pos c10]; exact W_strong h h0 hL h2
  rw [if_neg c10]
  by_cases c11 : bAnd (σ 32 0 i.toNat) 63 = 11
  · rw [if_pos c11]; exact W_turn h h0 hL h2
  rw [if_neg c11]
  by_cases c12 : bAnd (σ 32 0 i.toNat) 63 = 12
  · rw [if_pos c12]; exact W_days h h0 hL h2
  rw [if_neg c12]
  by_cases c13 : bAnd (σ 32 0 i.toNat) 63 = 13
  · rw [if_pos c13]; exact W_upThen h h0 hL h2
  rw [if_neg c13]
  by_cases c14 : bAnd (σ 32 0 i.toNat) 63 = 14
  · rw [if_pos c14]; exact W_allThen h h0 hL h2
  rw [if_neg c14]
  by_cases c15 : bAnd (σ 32 0 i.toNat) 63 = 15
  · rw [if_pos c15]; exact W_purposeThen h h0 hL h2
  rw [if_neg c15]
  by_cases c16 : bAnd (σ 32 0 i.toNat) 63 = 16
  · rw [if_pos c16]; exact W_falls h h0 hL h2
  rw [if_neg c16]
  by_cases c17 : bAnd (σ 32 0 i.toNat) 63 = 17
  · rw [if_pos c17]; exact W_first h h0 hL h2
  rw [if_neg c17]
  by_cases c18 : bAnd (σ 32 0 i.toNat) 63 = 18
  · rw [if_pos c18]; exact W_pushed h h0 hL h2
  rw [if_neg c18]
  by_cases c19 : bAnd (σ 32 0 i.toNat) 63 = 19
  · rw [if_pos c19]; exact W_worst h h0 hL h2
  rw [if_neg c19]
  by_cases c20 : bAnd (σ 32 0 i.toNat) 63 = 20
  · rw [if_pos c20]; exact W_gap h h0 hL h2
  rw [if_neg c20]
  by_cases c21 : bAnd (σ 32 0 i.toNat) 63 = 21
  · rw [if_pos c21]; exact W_longest h h0 hL h2
  rw [if_neg c21]
  by_cases c22 : bAnd (σ 32 0 i.toNat) 63 = 22
  · rw [if_pos c22]; exact W_lean h h0 hL h2
  rw [if_neg c22]
  by_cases c23 : bAnd (σ 32 0 i.toNat) 63 = 23
  · rw [if_pos c23]; exact W_bestLeans h h0 hL h2
  rw [if_neg c23]
  by_cases c24 : bAnd (σ 32 0 i.toNat) 63 = 24
  · rw [if_pos c24]; exact W_mended h h0 hL h2
  rw [if_neg c24]
  by_cases c25 : bAnd (σ 32 0 i.toNat) 63 = 25
  · rw [if_pos c25]; exact W_key h h0 hL h2
  rw [if_neg c25]
  by_cases c26 : bAnd (σ 32 0 i.toNat) 63 = 26
  · rw [if_pos c26]; exact W_takes h h0 hL h2
  rw [if_neg c26]
  by_cases c27 : bAnd (σ 32 0 i.toNat) 63 = 27
  · rw [if_pos c27]; exact W_balanced h h0 hL h2
  rw [if_neg c27]
  by_cases c28 : bAnd (σ 32 0 i.toNat) 63 = 28
  · rw [if_pos c28]; exact W_thief h h0 hL h2
  rw [if_neg c28]
  by_cases c29 : bAnd (σ 32 0 i.toNat) 63 = 29
  · rw [if_pos c29]; exact W_robbed h h0 hL h2
  rw [if_neg c29]
  by_cases c30 : bAnd (σ 32 0 i.toNat) 63 = 30
  · rw [if_pos c30]; exact W_bestPlace h h0 hL h2
  rw [if_neg c30]
  by_cases c31 : bAnd (σ 32 0 i.toNat) 63 = 31
  · rw [if_pos c31]; exact W_draught h h0 hL h2
  rw [if_neg c31]
  by_cases c32 : bAnd (σ 32 0 i.toNat) 63 = 32
  · rw [if_pos c32]; exact W_two h h0 hL h2
  rw [if_neg c32]
  by_cases c33 : bAnd (σ 32 0 i.toNat) 63 = 33
  · rw [if_pos c33]; exact W_whatWas h h0 hL h2
  rw [if_neg c33]
  by_cases c34 : bAnd (σ 32 0 i.toNat) 63 = 34
  · rw [if_pos c34]; exact W_row h h0 hL h2
  rw [if_neg c34]
  by_cases c35 : bAnd (σ 32 0 i.toNat) 63 = 35
  · rw [if_pos c35]; exact W_judge h h0 hL h2
  rw [if_neg c35]
  by_cases c36 : bAnd (σ 32 0 i.toNat) 63 = 36
  · rw [if_pos c36]; exact W_clear h h0 hL h2
  rw [if_neg c36]
  by_cases c37 : bAnd (σ 32 0 i.toNat) 63 = 37
  · rw [if_pos c37]; exact W_lots h h0 hL h2
  rw [if_neg c37]
  by_cases c38 : bAnd (σ 32 0 i.toNat) 63 = 38
  · rw [if_pos c38]; exact W_image h h0 hL h2
  rw [if_neg c38]
  by_cases c39 : bAnd (σ 32 0 i.toNat) 63 = 39
  · rw [if_pos c39]; exact W_on h h0 hL h2
  rw [if_neg c39]
  by_cases c40 : bAnd (σ 32 0 i.toNat) 63 = 40
  · rw [if_pos c40]; exact W_count h h0 hL h2
  rw [if_neg c40]
  exact ⟨σ, rfl, h.le (by omega), rfl⟩
theorem W_loop : ∀ (n : Nat) (i : Int) (σ : St), CM σ i → 0 ≤ i → i ≤ 4000 → σ 32 1 0 ≤ 3072 → 0 ≤ σ 32 1 0 → σ 32 1 0 - i < 6 * n → ∃ σ', Rx k_L_law 18 [.inr (.inl (32, 0)), .inr (.inl (0, 0)), .inr (.inl (16, 0)), .inl i] [] σ = some (some (.inl 1), σ') := by
  intro n
  induction n with
  | zero =>
    intro i σ h h0 h1 h2 h3 h4
    refine ⟨σ, ?_⟩
    rw [(b_L_law_18 (g0a := by omega) (g0b := by omega)), if_pos (by omega), b_L_law_1352]
  | succ n ih =>
    intro i σ h h0 h1 h2 h3 h4
    by_cases e : σ 32 1 0 - 6 < i
    · refine ⟨σ, ?_⟩
      rw [(b_L_law_18 (g0a := by omega) (g0b := by omega)), if_pos e, b_L_law_1352]
    · obtain ⟨σ2, s2, c2, e2⟩ := W_step h h0 (by omega) h2
      obtain ⟨σ', s'⟩ := ih (i + 6) σ2 (c2.le (by omega)) (by omega) (by omega) (by rw [e2]; exact h2) (by rw [e2]; exact h3) (by rw [e2]; omega)
      refine ⟨σ', ?_⟩
      rw [(b_L_law_18 (g0a := by omega) (g0b := by omega)), if_neg e, s2, (b_L_law_1346 (g0a := by omega) (g0b := by omega))]
      exact s'
theorem CM_0 (L : Nat) (xs : Nat → Int32) : CM (σ0 L xs) 0 := by
  have z : ∀ t : Nat, t ≠ 15 → t ≠ 32 → ∀ r k : Nat, σ0 L xs t r k = 0 := by
    intro t a c r k
    unfold σ0
    rw [if_neg a, if_neg c]
  have r0 := z 17 (by decide) (by decide) 0
  have iv : Iv (σ0 L xs 17 0) := by
    refine ⟨?_, fun p a c => ?_, fun t a c => ?_, fun t t' a c a' c' _ => ?_⟩
    · unfold Iv0
      rw [r0, r0]
      exact ⟨by decide, by decide, by decide, by decide⟩
    · rw [r0] at c; omega
    · rw [r0] at c; omega
    · rw [r0] at c; omega
  refine ⟨⟨iv, ⟨?_, fun p a c => ?_, fun t a c => ?_, fun c a d => ?_⟩⟩, ⟨by rw [r0]; decide, by rw [r0]; decide⟩, fun r k _ _ => z 17 (by decide) (by decide) r k, fun k _ => ?_, ⟨?_, fun y => ?_⟩, ⟨⟨?_, ?_⟩, ?_, fun i hi => ?_⟩, ⟨⟨?_, ?_⟩, ?_, fun i hi => ?_⟩⟩
  · have u : upF (σ0 L xs 17 0) = 0 := by
      unfold upF
      rw [r0]
      rfl
    rw [z 7 (by decide) (by decide), z 7 (by decide) (by decide), z 7 (by decide) (by decide), z 7 (by decide) (by decide), r0, r0, r0, u]
    exact ⟨rfl, rfl, rfl, rfl⟩
  · rw [r0] at c; omega
  · rw [r0] at c; omega
  · have w : whoF (σ0 L xs 17 0) c = -9 := by
      unfold whoF
      rw [r0]
      rfl
    rw [w]
    unfold σ0
    rw [if_pos rfl]
  · rw [z 21 (by decide) (by decide), z 6 (by decide) (by decide)]
    exact ⟨⟨by decide, by decide⟩, rfl⟩
  · rw [z 0 (by decide) (by decide), z 16 (by decide) (by decide)]
  · rw [z 16 (by decide) (by decide)] at y
    exact absurd rfl y
  · rw [z 16 (by decide) (by decide)]; decide
  · rw [z 16 (by decide) (by decide)]; decide
  · rw [z 0 (by decide) (by decide), z 16 (by decide) (by decide)]
  · rw [z 16 (by decide) (by decide)] at hi; omega
  · rw [z 16 (by decide) (by decide)]; decide
  · rw [z 16 (by decide) (by decide)]; decide
  · rw [z 3 (by decide) (by decide), z 16 (by decide) (by decide)]
  · rw [z 16 (by decide) (by decide)] at hi; omega
theorem law_am (L : Nat) (xs : Nat → Int32) (hL : L ≤ 3072) : ∃ σ', Rx k_L_law 18 [.inr (.inl (32, 0)), .inr (.inl (0, 0)), .inr (.inl (16, 0)), .inl 0] [] (σ0 L xs) = some (some (.inl 1), σ') := by
  have e : σ0 L xs 32 1 0 = L := by
    unfold σ0
    rw [if_neg (by decide), if_pos rfl, if_neg (by decide), if_pos (by omega)]
  exact W_loop 600 0 (σ0 L xs) (CM_0 L xs) (Int.le_refl 0) (by decide) (by rw [e]; omega) (by rw [e]; omega) (by rw [e]; omega)
