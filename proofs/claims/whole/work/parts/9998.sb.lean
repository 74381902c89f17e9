/-! the reference reads a statement -/
def NFs (W : Nat → Int) (i : Nat) (ρ : St) : Prop := ρ 22 0 0 = nF0 W i ∧ (W i ≠ 117 → W i ≠ 100 → ρ 22 0 1 = nF1 W i) ∧ (W i = 112 ∨ W i = 116 → ρ 22 0 2 = nF2 W i)
theorem NP.ps {σ σ' : St} {k : Nat} (h : NP σ σ' k) : PS σ σ' := h.1
theorem R_st_p {σ τ0 : St} {W : Nat → Int} {M i : Nat} (p0 : PS σ τ0) (a0 : At τ0 W M (i + 1)) (hc : W i = 112) (u2 : AV) : SP σ W M (Rx k_X5_readsStatement 104 [.inr (.inl (16, 0)), .inl 112, u2] [] τ0) (smG W M 0 5 1 (i + 1)) (NFs W i) := by
  obtain ⟨τ1, s1, n1, k1, f1⟩ := R_kind a0
  have p1 := p0.trans n1.ps
  have g1 : smG W M 0 5 1 (i + 1) = if i + 1 < M ∧ ftB 75 (W (i + 1)) = true then smG W M 0 4 2 (i + 1 + 1) else (i + 1, false) := rfl
  rw [b_X5_readsStatement_104, s1, g1]
  simp only [Option.bind_some, Option.toList_some, Option.toList_none, List.cons_append, List.nil_append, List.append_nil]
  rw [b_X5_readsStatement_108]
  by_cases e1 : i + 1 < M ∧ kbF (W (i + 1)) ≠ -9
  rotate_left
  · rw [if_neg e1, if_pos (show (0 : Int) = 0 from rfl), if_neg (fun z => e1 (ftK.1 z)), b_X5_readsStatement_133, if_pos (show (0 : Int) = 0 from rfl)]
    exact SP.no p1 (f1 e1) (by rw [b_X5_readsStatement_273])
  rw [if_pos e1, if_neg (show ¬ (1 : Int) = 0 by decide), if_pos (ftK.2 e1)]
  obtain ⟨a1, v1⟩ := k1 e1
  obtain ⟨τ2, s2, n2, k2, f2⟩ := R_num1 a1 1 (by decide)
  rw [show ((1 : Nat) : Int) = 1 from rfl] at s2
  have p2 := p1.trans n2.ps
  have g2 : smG W M 0 4 2 (i + 1 + 1) = if i + 1 + 1 < M ∧ ftB 57 (W (i + 1 + 1)) = true then smG W M 0 3 3 (i + 1 + 1 + 1) else (i + 1 + 1, false) := rfl
  rw [b_X5_readsStatement_111, s2, g2]
  simp only [Option.bind_some, Option.toList_some, Option.toList_none, List.cons_append, List.nil_append, List.append_nil]
  rw [b_X5_readsStatement_117]
  by_cases e2 : Dg W M (i + 1 + 1)
  rotate_left
  · rw [if_neg e2, if_pos (show (0 : Int) = 0 from rfl), if_neg (fun z => e2 (ftD.1 z)), b_X5_readsStatement_133, if_pos (show (0 : Int) = 0 from rfl)]
    exact SP.no p2 (f2 e2) (by rw [b_X5_readsStatement_273])
  rw [if_pos e2, if_neg (show ¬ (1 : Int) = 0 by decide), if_pos (ftD.2 e2)]
  obtain ⟨a2, v2⟩ := k2 e2
  obtain ⟨τ3, s3, n3, k3, f3, h3⟩ := R_num2 a2 2 (by decide)
  rw [show ((2 : Nat) : Int) = 2 from rfl] at s3
  have p3 := p2.trans n3.ps
  have g3 : smG W M 0 3 3 (i + 1 + 1 + 1) = if i + 1 + 1 + 1 < M ∧ ftB 57 (W (i + 1 + 1 + 1)) = true then smG W M 0 2 4 (i + 1 + 1 + 1 + 1) else (i + 1 + 1 + 1, false) := rfl
  have g4 : smG W M 0 2 4 (i + 1 + 1 + 1 + 1) = if i + 1 + 1 + 1 + 1 < M ∧ ftB 57 (W (i + 1 + 1 + 1 + 1)) = true then smG W M 0 1 5 (i + 1 + 1 + 1 + 1 + 1) else (i + 1 + 1 + 1 + 1, false) := rfl
  rw [b_X5_readsStatement_120, s3, g3]
  simp only [Option.bind_some, Option.toList_some, Option.toList_none, List.cons_append, List.nil_append, List.append_nil]
  rw [b_X5_readsStatement_126]
  by_cases e3 : Dg W M (i + 1 + 1 + 1)
  rotate_left
  · rw [if_neg (show ¬ (Dg W M (i + 1 + 1 + 1) ∧ Dg W M (i + 1 + 1 + 1 + 1)) from fun z => e3 z.1), if_pos (show (0 : Int) = 0 from rfl), if_neg (fun z => e3 (ftD.1 z)), b_X5_readsStatement_133, if_pos (show (0 : Int) = 0 from rfl)]
    exact SP.no p3 (h3 e3) (by rw [b_X5_readsStatement_273])
  rw [if_pos (ftD.2 e3), g4]
  by_cases e4 : Dg W M (i + 1 + 1 + 1 + 1)
  rotate_left
  · rw [if_neg (show ¬ (Dg W M (i + 1 + 1 + 1) ∧ Dg W M (i + 1 + 1 + 1 + 1)) from fun z => e4 z.2), if_pos (show (0 : Int) = 0 from rfl), if_neg (fun z => e4 (ftD.1 z)), b_X5_readsStatement_133, if_pos (show (0 : Int) = 0 from rfl)]
    exact SP.no p3 (f3 e3 e4) (by rw [b_X5_readsStatement_273])
  rw [if_pos (show Dg W M (i + 1 + 1 + 1) ∧ Dg W M (i + 1 + 1 + 1 + 1) from ⟨e3, e4⟩), if_neg (show ¬ (1 : Int) = 0 by decide), if_pos (ftD.2 e4)]
  obtain ⟨a3, v3⟩ := k3 e3 e4
  rw [b_X5_readsStatement_129, if_neg (show ¬ (1 : Int) = 0 by decide)]
  refine R_semi p3 a3 0 5 rfl 112 1 _ (fun ρ _ hρ => ?_)
  unfold NFs nF0 nF1 nF2
  rw [hc]
  rw [if_pos (show (112 : Int) = 112 from rfl), if_pos (show (112 : Int) = 112 ∨ (112 : Int) = 108 from Or.inl rfl), if_pos (show (112 : Int) = 112 from rfl)]
  exact ⟨by rw [hρ 0, n3.2 0 (by decide), n2.2 0 (by decide), v1], fun _ _ => by rw [hρ 1, n3.2 1 (by decide), v2], fun _ => by rw [hρ 2, v3]⟩
theorem R_st_t {σ τ0 : St} {W : Nat → Int} {M i : Nat} (p0 : PS σ τ0) (a0 : At τ0 W M (i + 1)) (hc : W i = 116) (u2 : AV) : SP σ W M (Rx k_X5_readsStatement 138 [.inr (.inl (16, 0)), .inl 116, u2] [] τ0) (smG W M 1 5 1 (i + 1)) (NFs W i) := by
  obtain ⟨τ1, s1, n1, k1, f1⟩ := R_num1 a0 0 (by decide)
  rw [show ((0 : Nat) : Int) = 0 from rfl] at s1
  have p1 := p0.trans n1.ps
  have g1 : smG W M 1 5 1 (i + 1) = if i + 1 < M ∧ ftB 57 (W (i + 1)) = true then smG W M 1 4 2 (i + 1 + 1) else (i + 1, false) := rfl
  rw [b_X5_readsStatement_138, s1, g1]
  simp only [Option.bind_some, Option.toList_some, Option.toList_none, List.cons_append, List.nil_append, List.append_nil]
  rw [b_X5_readsStatement_144]
  by_cases e1 : Dg W M (i + 1)
  rotate_left
  · rw [if_neg e1, if_pos (show (0 : Int) = 0 from rfl), if_neg (fun z => e1 (ftD.1 z)), b_X5_readsStatement_169, if_pos (show (0 : Int) = 0 from rfl)]
    exact SP.no p1 (f1 e1) (by rw [b_X5_readsStatement_273])
  rw [if_pos e1, if_neg (show ¬ (1 : Int) = 0 by decide), if_pos (ftD.2 e1)]
  obtain ⟨a1, v1⟩ := k1 e1
  obtain ⟨τ2, s2, n2, k2, f2, h2⟩ := R_num2 a1 1 (by decide)
  rw [show ((1 : Nat) : Int) = 1 from rfl] at s2
  have p2 := p1.trans n2.ps
  have g2 : smG W M 1 4 2 (i + 1 + 1) = if i + 1 + 1 < M ∧ ftB 57 (W (i + 1 + 1)) = true then smG W M 1 3 3 (i + 1 + 1 + 1) else (i + 1 + 1, false) := rfl
  have g3 : smG W M 1 3 3 (i + 1 + 1 + 1) = if i + 1 + 1 + 1 < M ∧ ftB 57 (W (i + 1 + 1 + 1)) = true then smG W M 1 2 4 (i + 1 + 1 + 1 + 1) else (i + 1 + 1 + 1, false) := rfl
  rw [b_X5_readsStatement_147, s2, g2]
  simp only [Option.bind_some, Option.toList_some, Option.toList_none, List.cons_append, List.nil_append, List.append_nil]
  rw [b_X5_readsStatement_153]
  by_cases e2 : Dg W M (i + 1 + 1)
  rotate_left
  · rw [if_neg (show ¬ (Dg W M (i + 1 + 1) ∧ Dg W M (i + 1 + 1 + 1)) from fun z => e2 z.1), if_pos (show (0 : Int) = 0 from rfl), if_neg (fun z => e2 (ftD.1 z)), b_X5_readsStatement_169, if_pos (show (0 : Int) = 0 from rfl)]
    exact SP.no p2 (h2 e2) (by rw [b_X5_readsStatement_273])
  rw [if_pos (ftD.2 e2), g3]
  by_cases e3 : Dg W M (i + 1 + 1 + 1)
  rotate_left
  · rw [if_neg (show ¬ (Dg W M (i + 1 + 1) ∧ Dg W M (i + 1 + 1 + 1)) from fun z => e3 z.2), if_pos (show (0 : Int) = 0 from rfl), if_neg (fun z => e3 (ftD.1 z)), b_X5_readsStatement_169, if_pos (show (0 : Int) = 0 from rfl)]
    exact SP.no p2 (f2 e2 e3) (by rw [b_X5_readsStatement_273])
  rw [if_pos (show Dg W M (i + 1 + 1) ∧ Dg W M (i + 1 + 1 + 1) from ⟨e2, e3⟩), if_neg (show ¬ (1 : Int) = 0 by decide), if_pos (ftD.2 e3)]
  obtain ⟨a2, v2⟩ := k2 e2 e3
  obtain ⟨τ3, s3, n3, k3, f3⟩ := R_num1 a2 2 (by decide)
  rw [show ((2 : Nat) : Int) = 2 from rfl] at s3
  have p3 := p2.trans n3.ps
  have g4 : smG W M 1 2 4 (i + 1 + 1 + 1 + 1) = if i + 1 + 1 + 1 + 1 < M ∧ ftB 57 (W (i + 1 + 1 + 1 + 1)) = true then smG W M 1 1 5 (i + 1 + 1 + 1 + 1 + 1) else (i + 1 + 1 + 1 + 1, false) := rfl
  rw [b_X5_readsStatement_156, s3, g4]
  simp only [Option.bind_some, Option.toList_some, Option.toList_none, List.cons_append, List.nil_append, List.append_nil]
  rw [b_X5_readsStatement_162]
  by_cases e4 : Dg W M (i + 1 + 1 + 1 + 1)
  rotate_left
  · rw [if_neg e4, if_pos (show (0 : Int) = 0 from rfl), if_neg (fun z => e4 (ftD.1 z)), b_X5_readsStatement_169, if_pos (show (0 : Int) = 0 from rfl)]
    exact SP.no p3 (f3 e4) (by rw [b_X5_readsStatement_273])
  rw [if_pos e4, if_neg (show ¬ (1 : Int) = 0 by decide), if_pos (ftD.2 e4)]
  obtain ⟨a3, v3⟩ := k3 e4
  rw [b_X5_readsStatement_165, if_neg (show ¬ (1 : Int) = 0 by decide)]
  refine R_semi p3 a3 1 5 rfl 116 1 _ (fun ρ _ hρ => ?_)
  unfold NFs nF0 nF1 nF2
  rw [hc]
  rw [if_neg (show ¬ (116 : Int) = 112 by decide), if_neg (show ¬ (116 : Int) = 100 by decide), if_neg (show ¬ ((116 : Int) = 112 ∨ (116 : Int) = 108) by decide), if_neg (show ¬ (116 : Int) = 112 by decide)]
  exact ⟨by rw [hρ 0, n3.2 0 (by decide), n2.2 0 (by decide), v1], fun _ _ => by rw [hρ 1, n3.2 1 (by decide), v2], fun _ => by rw [hρ 2, v3]⟩
theorem R_st_l {σ τ0 : St} {W : Nat → Int} {M i : Nat} (p0 : PS σ τ0) (a0 : At τ0 W M (i + 1)) (hc : W i = 108) (u2 : AV) : SP σ W M (Rx k_X5_readsStatement 174 [.inr (.inl (16, 0)), .inl 108, u2] [] τ0) (smG W M 2 3 1 (i + 1)) (NFs W i) := by
  obtain ⟨τ1, s1, n1, k1, f1⟩ := R_num1 a0 0 (by decide)
  rw [show ((0 : Nat) : Int) = 0 from rfl] at s1
  have p1 := p0.trans n1.ps
  have g1 : smG W M 2 3 1 (i + 1) = if i + 1 < M ∧ ftB 57 (W (i + 1)) = true then smG W M 2 2 2 (i + 1 + 1) else (i + 1, false) := rfl
  rw [b_X5_readsStatement_174, s1, g1]
  simp only [Option.bind_some, Option.toList_some, Option.toList_none, List.cons_append, List.nil_append, List.append_nil]
  rw [b_X5_readsStatement_180]
  by_cases e1 : Dg W M (i + 1)
  rotate_left
  · rw [if_neg e1, if_pos (show (0 : Int) = 0 from rfl), if_neg (fun z => e1 (ftD.1 z)), b_X5_readsStatement_196, if_pos (show (0 : Int) = 0 from rfl)]
    exact SP.no p1 (f1 e1) (by rw [b_X5_readsStatement_273])
  rw [if_pos e1, if_neg (show ¬ (1 : Int) = 0 by decide), if_pos (ftD.2 e1)]
  obtain ⟨a1, v1⟩ := k1 e1
  obtain ⟨τ2, s2, n2, k2, f2⟩ := R_num1 a1 1 (by decide)
  rw [show ((1 : Nat) : Int) = 1 from rfl] at s2
  have p2 := p1.trans n2.ps
  have g2 : smG W M 2 2 2 (i + 1 + 1) = if i + 1 + 1 < M ∧ ftB 57 (W (i + 1 + 1)) = true then smG W M 2 1 3 (i + 1 + 1 + 1) else (i + 1 + 1, false) := rfl
  rw [b_X5_readsStatement_183, s2, g2]
  simp only [Option.bind_some, Option.toList_some, Option.toList_none, List.cons_append, List.nil_append, List.append_nil]
  rw [b_X5_readsStatement_189]
  by_cases e2 : Dg W M (i + 1 + 1)
  rotate_left
  · rw [if_neg e2, if_pos (show (0 : Int) = 0 from rfl), if_neg (fun z => e2 (ftD.1 z)), b_X5_readsStatement_196, if_pos (show (0 : Int) = 0 from rfl)]
    exact SP.no p2 (f2 e2) (by rw [b_X5_readsStatement_273])
  rw [if_pos e2, if_neg (show ¬ (1 : Int) = 0 by decide), if_pos (ftD.2 e2)]
  obtain ⟨a2, v2⟩ := k2 e2
  rw [b_X5_readsStatement_192, if_neg (show ¬ (1 : Int) = 0 by decide)]
  refine R_semi p2 a2 2 3 rfl 108 1 _ (fun ρ _ hρ => ?_)
  unfold NFs nF0 nF1 nF2
  rw [hc]
  rw [if_neg (show ¬ (108 : Int) = 112 by decide), if_neg (show ¬ (108 : Int) = 100 by decide), if_pos (show (108 : Int) = 112 ∨ (108 : Int) = 108 from Or.inr rfl)]
  exact ⟨by rw [hρ 0, n2.2 0 (by decide), v1], fun _ _ => by rw [hρ 1, v2], fun z => absurd z (by decide)⟩
theorem R_st_u {σ τ0 : St} {W : Nat → Int} {M i : Nat} (p0 : PS σ τ0) (a0 : At τ0 W M (i + 1)) (hc : W i = 117) (u2 : AV) : SP σ W M (Rx k_X5_readsStatement 201 [.inr (.inl (16, 0)), .inl 117, u2] [] τ0) (smG W M 3 2 1 (i + 1)) (NFs W i) := by
  obtain ⟨τ1, s1, n1, k1, f1⟩ := R_num1 a0 0 (by decide)
  rw [show ((0 : Nat) : Int) = 0 from rfl] at s1
  have p1 := p0.trans n1.ps
  have g1 : smG W M 3 2 1 (i + 1) = if i + 1 < M ∧ ftB 57 (W (i + 1)) = true then smG W M 3 1 2 (i + 1 + 1) else (i + 1, false) := rfl
  rw [b_X5_readsStatement_201, s1, g1]
  simp only [Option.bind_some, Option.toList_some, Option.toList_none, List.cons_append, List.nil_append, List.append_nil]
  rw [b_X5_readsStatement_207]
  by_cases e1 : Dg W M (i + 1)
  rotate_left
  · rw [if_neg e1, if_pos (show (0 : Int) = 0 from rfl), if_neg (fun z => e1 (ftD.1 z))]
    exact SP.no p1 (f1 e1) (by rw [b_X5_readsStatement_273])
  rw [if_pos e1, if_neg (show ¬ (1 : Int) = 0 by decide), if_pos (ftD.2 e1)]
  obtain ⟨a1, v1⟩ := k1 e1
  refine R_semi p1 a1 3 2 rfl 117 1 _ (fun ρ _ hρ => ?_)
  unfold NFs nF0 nF1 nF2
  rw [hc]
  rw [if_neg (show ¬ (117 : Int) = 112 by decide), if_neg (show ¬ (117 : Int) = 100 by decide)]
  exact ⟨by rw [hρ 0, v1], fun z => absurd rfl z, fun z => absurd z (by decide)⟩
theorem R_st_s {σ τ0 : St} {W : Nat → Int} {M i : Nat} (p0 : PS σ τ0) (a0 : At τ0 W M (i + 1)) (hc : W i = 115) (u2 : AV) : SP σ W M (Rx k_X5_readsStatement 211 [.inr (.inl (16, 0)), .inl 115, u2] [] τ0) (smG W M 4 4 1 (i + 1)) (NFs W i) := by
  obtain ⟨τ1, s1, n1, k1, f1⟩ := R_num1 a0 0 (by decide)
  rw [show ((0 : Nat) : Int) = 0 from rfl] at s1
  have p1 := p0.trans n1.ps
  have g1 : smG W M 4 4 1 (i + 1) = if i + 1 < M ∧ ftB 57 (W (i + 1)) = true then smG W M 4 3 2 (i + 1 + 1) else (i + 1, false) := rfl
  rw [b_X5_readsStatement_211, s1, g1]
  simp only [Option.bind_some, Option.toList_some, Option.toList_none, List.cons_append, List.nil_append, List.append_nil]
  rw [b_X5_readsStatement_217]
  by_cases e1 : Dg W M (i + 1)
  rotate_left
  · rw [if_neg e1, if_pos (show (0 : Int) = 0 from rfl), if_neg (fun z => e1 (ftD.1 z)), b_X5_readsStatement_233, if_pos (show (0 : Int) = 0 from rfl)]
    exact SP.no p1 (f1 e1) (by rw [b_X5_readsStatement_273])
  rw [if_pos e1, if_neg (show ¬ (1 : Int) = 0 by decide), if_pos (ftD.2 e1)]
  obtain ⟨a1, v1⟩ := k1 e1
  obtain ⟨τ2, s2, n2, k2, f2, h2⟩ := R_num2 a1 1 (by decide)
  rw [show ((1 : Nat) : Int) = 1 from rfl] at s2
  have p2 := p1.trans n2.ps
  have g2 : smG W M 4 3 2 (i + 1 + 1) = if i + 1 + 1 < M ∧ ftB 57 (W (i + 1 + 1)) = true then smG W M 4 2 3 (i + 1 + 1 + 1) else (i + 1 + 1, false) := rfl
  have g3 : smG W M 4 2 3 (i + 1 + 1 + 1) = if i + 1 + 1 + 1 < M ∧ ftB 57 (W (i + 1 + 1 + 1)) = true then smG W M 4 1 4 (i + 1 + 1 + 1 + 1) else (i + 1 + 1 + 1, false) := rfl
  rw [b_X5_readsStatement_220, s2, g2]
  simp only [Option.bind_some, Option.toList_some, Option.toList_none, List.cons_append, List.nil_append, List.append_nil]
  rw [b_X5_readsStatement_226]
  by_cases e2 : Dg W M (i + 1 + 1)
  rotate_left
  · rw [if_neg (show ¬ (Dg W M (i + 1 + 1) ∧ Dg W M (i + 1 + 1 + 1)) from fun z => e2 z.1), if_pos (show (0 : Int) = 0 from rfl), if_neg (fun z => e2 (ftD.1 z)), b_X5_readsStatement_233, if_pos (show (0 : Int) = 0 from rfl)]
    exact SP.no p2 (h2 e2) (by rw [b_X5_readsStatement_273])
  rw [if_pos (ftD.2 e2), g3]
  by_cases e3 : Dg W M (i + 1 + 1 + 1)
  rotate_left
  · rw [if_neg (show ¬ (Dg W M (i + 1 + 1) ∧ Dg W M (i + 1 + 1 + 1)) from fun z => e3 z.2), if_pos (show (0 : Int) = 0 from rfl), if_neg (fun z => e3 (ftD.1 z)), b_X5_readsStatement_233, if_pos (show (0 : Int) = 0 from rfl)]
    exact SP.no p2 (f2 e2 e3) (by rw [b_X5_readsStatement_273])
  rw [if_pos (show Dg W M (i + 1 + 1) ∧ Dg W M (i + 1 + 1 + 1) from ⟨e2, e3⟩), if_neg (show ¬ (1 : Int) = 0 by decide), if_pos (ftD.2 e3)]
  obtain ⟨a2, v2⟩ := k2 e2 e3
  rw [b_X5_readsStatement_229, if_neg (show ¬ (1 : Int) = 0 by decide)]
  refine R_semi p2 a2 4 4 rfl 115 1 _ (fun ρ _ hρ => ?_)
  unfold NFs nF0 nF1 nF2
  rw [hc]
  rw [if_neg (show ¬ (115 : Int) = 112 by decide), if_neg (show ¬ (115 : Int) = 100 by decide), if_neg (show ¬ ((115 : Int) = 112 ∨ (115 : Int) = 108) by decide)]
  exact ⟨by rw [hρ 0, n2.2 0 (by decide), v1], fun _ _ => by rw [hρ 1, v2], fun z => absurd z (by decide)⟩
theorem R_st_d {σ τ0 : St} {W : Nat → Int} {M i : Nat} (p0 : PS σ τ0) (a0 : At τ0 W M (i + 1)) (hc : W i = 100) (u2 : AV) : SP σ W M (Rx k_X5_readsStatement 238 [.inr (.inl (16, 0)), .inl 100, u2] [] τ0) (smG W M 5 3 1 (i + 1)) (NFs W i) := by
  obtain ⟨τ1, s1, n1, k1, f1, h1⟩ := R_num2 a0 0 (by decide)
  rw [show ((0 : Nat) : Int) = 0 from rfl] at s1
  have p1 := p0.trans n1.ps
  have g1 : smG W M 5 3 1 (i + 1) = if i + 1 < M ∧ ftB 57 (W (i + 1)) = true then smG W M 5 2 2 (i + 1 + 1) else (i + 1, false) := rfl
  have g2 : smG W M 5 2 2 (i + 1 + 1) = if i + 1 + 1 < M ∧ ftB 57 (W (i + 1 + 1)) = true then smG W M 5 1 3 (i + 1 + 1 + 1) else (i + 1 + 1, false) := rfl
  rw [b_X5_readsStatement_238, s1, g1]
  simp only [Option.bind_some, Option.toList_some, Option.toList_none, List.cons_append, List.nil_append, List.append_nil]
  rw [b_X5_readsStatement_244]
  by_cases e1 : Dg W M (i + 1)
  rotate_left
  · rw [if_neg (show ¬ (Dg W M (i + 1) ∧ Dg W M (i + 1 + 1)) from fun z => e1 z.1), if_pos (show (0 : Int) = 0 from rfl), if_neg (fun z => e1 (ftD.1 z))]
    exact SP.no p1 (h1 e1) (by rw [b_X5_readsStatement_273])
  rw [if_pos (ftD.2 e1), g2]
  by_cases e2 : Dg W M (i + 1 + 1)
  rotate_left
  · rw [if_neg (show ¬ (Dg W M (i + 1) ∧ Dg W M (i + 1 + 1)) from fun z => e2 z.2), if_pos (show (0 : Int) = 0 from rfl), if_neg (fun z => e2 (ftD.1 z))]
    exact SP.no p1 (f1 e1 e2) (by rw [b_X5_readsStatement_273])
  rw [if_pos (show Dg W M (i + 1) ∧ Dg W M (i + 1 + 1) from ⟨e1, e2⟩), if_neg (show ¬ (1 : Int) = 0 by decide), if_pos (ftD.2 e2)]
  obtain ⟨a1, v1⟩ := k1 e1 e2
  refine R_semi p1 a1 5 3 rfl 100 1 _ (fun ρ _ hρ => ?_)
  unfold NFs nF0 nF1 nF2
  rw [hc]
  rw [if_neg (show ¬ (100 : Int) = 112 by decide), if_pos (show (100 : Int) = 100 from rfl)]
  exact ⟨by rw [hρ 0, v1], fun _ z => absurd rfl z, fun z => absurd z (by decide)⟩
theorem R_stm {σ : St} {W : Nat → Int} {M i : Nat} (h : At σ W M i) (u1 u2 : AV) : SP σ W M (Rx k_X5_readsStatement 0 [.inr (.inl (16, 0)), u1, u2] [] σ) (stm W M i) (NFs W i) := by
  have hi := h.1
  have hM := h.2.2.1
  have hiM := h.2.2.2.2.2
  have p1 := PS.pl σ ((i : Int) + 1)
  have none : fmI (if i < M then W i else -1) = 6 → stm W M i = (i, false) := by
    intro z
    unfold stm
    rw [if_neg]
    rintro ⟨a, b⟩
    rw [if_pos a] at z
    exact b z
  have start : ∀ x : Int, x = (if i < M then W i else -1) → Rx k_X5_readsStatement 0 [.inr (.inl (16, 0)), u1, u2] [] σ = if x = 100 then Rx k_X5_readsStatement 238 [.inr (.inl (16, 0)), .inl x, u2] [] (up σ 16 0 11 ((i : Int) + 1)) else if x = 108 then Rx k_X5_readsStatement 174 [.inr (.inl (16, 0)), .inl x, u2] [] (up σ 16 0 11 ((i : Int) + 1)) else if x = 112 then Rx k_X5_readsStatement 104 [.inr (.inl (16, 0)), .inl x, u2] [] (up σ 16 0 11 ((i : Int) + 1)) else if x = 115 then Rx k_X5_readsStatement 211 [.inr (.inl (16, 0)), .inl x, u2] [] (up σ 16 0 11 ((i : Int) + 1)) else if x = 116 then Rx k_X5_readsStatement 138 [.inr (.inl (16, 0)), .inl x, u2] [] (up σ 16 0 11 ((i : Int) + 1)) else if x = 117 then Rx k_X5_readsStatement 201 [.inr (.inl (16, 0)), .inl x, u2] [] (up σ 16 0 11 ((i : Int) + 1)) else Rx k_X5_readsStatement 248 [.inr (.inl (16, 0)), .inl x, u2] [] (up σ 16 0 11 ((i : Int) + 1)) := by
    intro x hx
    rw [b_X5_readsStatement_0, R_here h, ← hx]
    simp only [Option.bind_some, Option.toList_some, Option.toList_none, List.cons_append, List.nil_append, List.append_nil]
    rw [b_X5_readsStatement_4 (g0a := by omega) (g0b := by omega), hi]
  have fm : ∀ (c : Int) (q : Nat), fmI c = q → q < 6 → (if i < M then W i else -1) = c → c ≠ -1 → i < M ∧ W i = c ∧ stm W M i = smG W M q (slen q) 0 i := by
    intro c q e1 e2 e3 e4
    by_cases a : i < M
    · rw [if_pos a] at e3
      refine ⟨a, e3, ?_⟩
      unfold stm
      rw [e3, e1, if_pos ⟨a, by omega⟩]
    · rw [if_neg a] at e3
      exact absurd e3.symm e4
  have a1 : i < M → At (up σ 16 0 11 ((i : Int) + 1)) W M (i + 1) := fun z => h.ps p1 (by rw [up_at]; omega) z
  rw [start _ rfl]
  by_cases e1 : (if i < M then W i else -1) = 100
  · obtain ⟨m, w, z⟩ := fm 100 5 rfl (by decide) e1 (by decide)
    have g : smG W M 5 (slen 5) 0 i = if i < M ∧ ftB 100 (W i) = true then smG W M 5 3 1 (i + 1) else (i, false) := rfl
    rw [if_pos e1, e1, z, g, if_pos ⟨m, by rw [w]; rfl⟩]
    exact R_st_d p1 (a1 m) w u2
  rw [if_neg e1]
  by_cases e2 : (if i < M then W i else -1) = 108
  · obtain ⟨m, w, z⟩ := fm 108 2 rfl (by decide) e2 (by decide)
    have g : smG W M 2 (slen 2) 0 i = if i < M ∧ ftB 108 (W i) = true then smG W M 2 3 1 (i + 1) else (i, false) := rfl
    rw [if_pos e2, e2, z, g, if_pos ⟨m, by rw [w]; rfl⟩]
    exact R_st_l p1 (a1 m) w u2
  rw [if_neg e2]
  by_cases e3 : (if i < M then W i else -1) = 112
  · obtain ⟨m, w, z⟩ := fm 112 0 rfl (by decide) e3 (by decide)
    have g : smG W M 0 (slen 0) 0 i = if i < M ∧ ftB 112 (W i) = true then smG W M 0 5 1 (i + 1) else (i, false) := rfl
    rw [if_pos e3, e3, z, g, if_pos ⟨m, by rw [w]; rfl⟩]
    exact R_st_p p1 (a1 m) w u2
  rw [if_neg e3]
  by_cases e4 : (if i < M then W i else -1) = 115
  · obtain ⟨m, w, z⟩ := fm 115 4 rfl (by decide) e4 (by decide)
    have g : smG W M 4 (slen 4) 0 i = if i < M ∧ ftB 115 (W i) = true then smG W M 4 4 1 (i + 1) else (i, false) := rfl
    rw [if_pos e4, e4, z, g, if_pos ⟨m, by rw [w]; rfl⟩]
    exact R_st_s p1 (a1 m) w u2
  rw [if_neg e4]
  by_cases e5 : (if i < M then W i else -1) = 116
  · obtain ⟨m, w, z⟩ := fm 116 1 rfl (by decide) e5 (by decide)
    have g : smG W M 1 (slen 1) 0 i = if i < M ∧ ftB 116 (W i) = true then smG W M 1 5 1 (i + 1) else (i, false) := rfl
    rw [if_pos e5, e5, z, g, if_pos ⟨m, by rw [w]; rfl⟩]
    exact R_st_t p1 (a1 m) w u2
  rw [if_neg e5]
  by_cases e6 : (if i < M then W i else -1) = 117
  · obtain ⟨m, w, z⟩ := fm 117 3 rfl (by decide) e6 (by decide)
    have g : smG W M 3 (slen 3) 0 i = if i < M ∧ ftB 117 (W i) = true then smG W M 3 2 1 (i + 1) else (i, false) := rfl
    rw [if_pos e6, e6, z, g, if_pos ⟨m, by rw [w]; rfl⟩]
    exact R_st_u p1 (a1 m) w u2
  rw [if_neg e6]
  have z : stm W M i = (i, false) := none (by unfold fmI; rw [if_neg e1, if_neg e2, if_neg e3, if_neg e4, if_neg e5, if_neg e6])
  have p2 := PS.pl (up σ 16 0 11 ((i : Int) + 1)) ((i : Int) + 1 - 1)
  rw [z]
  refine SP.no (p1.trans p2) (h.ps (p1.trans p2) (by rw [up_at]; omega) hiM) ?_
  rw [b_X5_readsStatement_248 (g0a := by rw [up_at]; omega) (g0b := by rw [up_at]; omega), up_at]
