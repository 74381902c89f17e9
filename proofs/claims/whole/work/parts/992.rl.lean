/-! the class's mind: leans and strengths -/
theorem on_2 {R : Rw} {t p : Int} (h : 0 ≤ t) : wrt R (18 + 4 * t + 2).toNat p 0 = R 0 ∧ wrt R (18 + 4 * t + 2).toNat p 1 = R 1 ∧ wrt R (18 + 4 * t + 2).toNat p 2 = R 2 := ⟨wrt_ne (by omega), wrt_ne (by omega), wrt_ne (by omega)⟩
theorem L_betterLean {R : Rw} (hI : Iv R) (hd : Dk R) {t : Int} (ht : isT R t) : ∀ (n : Nat) (p f x : Int) (u5 u6 : AV) (σ : St), 0 ≤ p → p + n = R 0 → RK σ 0 R → ∃ σ', Rx k_X1_betterLean 8 [.inr (.inl (1, 0)), .inl t, .inl f, .inl x, .inl p, u5, u6] [] σ = some (some (.inl (leaG R t.toNat n p f x)), σ') ∧ FR 1 σ σ' := by
  have hb := hI.1
  unfold Iv0 at hb
  intro n
  induction n with
  | zero =>
    intro p f x u5 u6 σ h0 h1 hK
    refine ⟨σ, ?_, FR.refl 1 σ⟩
    rw [b_X1_betterLean_8, hK.2.1.1, if_neg (show ¬ p < R 0 by omega), b_X1_betterLean_83]
    rfl
  | succ n ih =>
    intro p f x u5 u6 σ h0 h1 hK
    obtain ⟨σ1, s1, f1, g1, _⟩ := hK.bc
    obtain ⟨σ2, s2, f2, g2⟩ := K_leanOn g1 ht (p := p) ⟨h0, by omega⟩
    obtain ⟨e0, e1, e2⟩ := on_2 (R := R) (p := p) ht.1
    have hd1 := hd.1
    have hd2 := hd.2
    obtain ⟨σ3, s3, f3⟩ := K_downFrom g2 (t := t) ⟨ht.1, by rw [e1]; exact ht.2⟩ (by omega) (by omega) uns
    have f4 := (f1.trans f2).trans f3
    have hK4 := hK.fr f4 (by decide)
    have hbd := downF_bd (wrt R (18 + 4 * t + 2).toNat p) (2 ^ t.toNat) 1
    have eD : leaD R t.toNat p = if downF (wrt R (18 + 4 * t + 2).toNat p) (2 ^ t.toNat) 1 < 0 then 100 else downF (wrt R (18 + 4 * t + 2).toNat p) (2 ^ t.toNat) 1 := by
      unfold leaD
      rw [show ((t.toNat : Nat) : Int) = t by omega]
    generalize downF (wrt R (18 + 4 * t + 2).toNat p) (2 ^ t.toNat) 1 = z at hbd eD s3
    rw [b_X1_betterLean_8, hK.2.1.1, if_pos (show p < R 0 by omega), b_X1_betterLean_20, s1, leaG_s]
    simp only [Option.bind_some, Option.toList_some, Option.toList_none, List.cons_append, List.nil_append, List.append_nil]
    rw [b_X1_betterLean_31, s2]
    simp only [Option.bind_some, Option.toList_some, Option.toList_none, List.cons_append, List.nil_append, List.append_nil]
    rw [b_X1_betterLean_41, s3]
    simp only [Option.bind_some, Option.toList_some, Option.toList_none, List.cons_append, List.nil_append, List.append_nil]
    rw [b_X1_betterLean_47]
    by_cases hz : z = -9
    · rw [if_pos (show z < 0 by omega)] at eD
      rw [if_pos hz, eD, b_X1_betterLean_56]
      by_cases hx : x < 100
      · obtain ⟨σ5, s5, f5⟩ := ih (p + 1) p 100 (.inl z) (.inl 100) σ3 (by omega) (by omega) hK4
        exact ⟨σ5, by rw [if_pos hx, if_pos hx, (b_X1_betterLean_71 (g0a := by omega) (g0b := by omega)), s5], f4.trans f5⟩
      · obtain ⟨σ5, s5, f5⟩ := ih (p + 1) f x (.inl z) (.inl 100) σ3 (by omega) (by omega) hK4
        exact ⟨σ5, by rw [if_neg hx, if_neg hx, (b_X1_betterLean_77 (g0a := by omega) (g0b := by omega)), s5], f4.trans f5⟩
    · rw [if_neg (show ¬ z < 0 by omega)] at eD
      rw [if_neg hz, eD, b_X1_betterLean_61]
      by_cases hx : x < z
      · obtain ⟨σ5, s5, f5⟩ := ih (p + 1) p z (.inl z) (.inl z) σ3 (by omega) (by omega) hK4
        exact ⟨σ5, by rw [if_pos hx, if_pos hx, (b_X1_betterLean_71 (g0a := by omega) (g0b := by omega)), s5], f4.trans f5⟩
      · obtain ⟨σ5, s5, f5⟩ := ih (p + 1) f x (.inl z) (.inl z) σ3 (by omega) (by omega) hK4
        exact ⟨σ5, by rw [if_neg hx, if_neg hx, (b_X1_betterLean_77 (g0a := by omega) (g0b := by omega)), s5], f4.trans f5⟩
theorem K_betterLean {σ : St} {R : Rw} (h : RK σ 0 R) (hd : Dk R) {t : Int} (ht : isT R t) (u2 u3 u4 u5 u6 : AV) : ∃ σ', Rx k_X1_betterLean 0 [.inr (.inl (1, 0)), .inl t, u2, u3, u4, u5, u6] [] σ = some (some (.inl (leaA R t)), σ') ∧ FR 1 σ σ' := by
  have hb := h.1.1
  unfold Iv0 at hb
  rw [b_X1_betterLean_0]
  exact L_betterLean h.1 hd ht (R 0).toNat 0 (-9) (-1) u5 u6 σ (Int.le_refl 0) (by omega) h
theorem K_standingLeant {σ : St} {R : Rw} (h : RK σ 0 R) (hd : Dk R) {a b c i j l k d : Int} (ha : isT R a) (hb : isT R b) (hc : isT R c) (hi : isP R i) (hj : isP R j) (hl : isP R l) (h0 : 0 ≤ d) (h1 : d ≤ 1000) (k1 : k.tdiv 100 = i) (k2 : (k.tdiv 10).tmod 10 = j) (k3 : k.tmod 10 = l) (k4 : 0 ≤ k.tdiv 10 ∧ k.tdiv 10 ≤ 1000) : ∃ σ', Rx k_X1_standingLeant 0 [.inr (.inl (1, 0)), .inl a, .inl b, .inl c, .inl k, .inl d] [] σ = some (some (.inl (updF (blaR R a b c i j l) d)), σ') ∧ FR 1 σ σ' := by
  have hI := h.1.1
  unfold Iv0 at hI
  have hd1 := hd.1
  have hd2 := hd.2
  obtain ⟨σ1, s1, f1, g1, _⟩ := h.bc
  obtain ⟨σ2, s2, f2, g2⟩ := K_leanOn g1 ha hi
  obtain ⟨a0, a1, a2⟩ := on_2 (R := R) (p := i) ha.1
  obtain ⟨σ3, s3, f3, g3⟩ := K_leanOn g2 (t := b) (p := j) ⟨hb.1, by rw [a1]; exact hb.2⟩ ⟨hj.1, by rw [a0]; exact hj.2⟩
  obtain ⟨b0, b1, b2⟩ := on_2 (R := wrt R (18 + 4 * a + 2).toNat i) (p := j) hb.1
  obtain ⟨σ4, s4, f4, g4⟩ := K_leanOn g3 (t := c) (p := l) ⟨hc.1, by rw [b1, a1]; exact hc.2⟩ ⟨hl.1, by rw [b0, a0]; exact hl.2⟩
  obtain ⟨c0, c1, c2⟩ := on_2 (R := wrt (wrt R (18 + 4 * a + 2).toNat i) (18 + 4 * b + 2).toNat j) (p := l) hc.1
  obtain ⟨σ5, s5, f5, g5⟩ := K_passDays g4 h0 (by rw [c2, b2, a2]; omega) (by rw [c2, b2, a2]; omega) uns
  refine ⟨σ5, ?_, (((f1.trans f2).trans f3).trans f4).trans f5⟩
  rw [b_X1_standingLeant_0, s1]
  simp only [Option.bind_some, Option.toList_some, Option.toList_none, List.cons_append, List.nil_append, List.append_nil]
  rw [b_X1_standingLeant_11 (g0a := by rw [k1]; omega) (g0b := by rw [k1]; omega), k1, s2]
  simp only [Option.bind_some, Option.toList_some, Option.toList_none, List.cons_append, List.nil_append, List.append_nil]
  rw [(b_X1_standingLeant_24 (g0a := by omega) (g0b := by omega)), k2, s3]
  simp only [Option.bind_some, Option.toList_some, Option.toList_none, List.cons_append, List.nil_append, List.append_nil]
  rw [b_X1_standingLeant_41, k3, s4]
  simp only [Option.bind_some, Option.toList_some, Option.toList_none, List.cons_append, List.nil_append, List.append_nil]
  rw [b_X1_standingLeant_55, s5]
  simp only [Option.bind_some, Option.toList_some, Option.toList_none, List.cons_append, List.nil_append, List.append_nil]
  rw [b_X1_standingLeant_65, K_standing g5.2 g5.1.1]
  simp only [Option.bind_some, Option.toList_some, Option.toList_none, List.cons_append, List.nil_append, List.append_nil]
  rw [b_X1_standingLeant_72]
  rfl
theorem tri3 {P i j l : Int} (hP : P ≤ 5) (hi : 0 ≤ i ∧ i < P) (hj : 0 ≤ j ∧ j < P) (hl : 0 ≤ l ∧ l < P) : ((i * P + j) * P + l).tdiv (P * P) = i ∧ (((i * P + j) * P + l).tdiv P).tmod P = j ∧ ((i * P + j) * P + l).tmod P = l ∧ 0 ≤ (i * P + j) * P + l ∧ (i * P + j) * P + l < P * P * P ∧ (l + 1 = P → (i * P + j) * P + l + 1 = (i * P + (j + 1)) * P + 0) ∧ (l + 1 = P → j + 1 = P → (i * P + j) * P + l + 1 = ((i + 1) * P + 0) * P + 0) ∧ (l + 1 = P → j + 1 = P → i + 1 = P → (i * P + j) * P + l + 1 = P * P * P) := by
  have hc : P = 1 ∨ P = 2 ∨ P = 3 ∨ P = 4 ∨ P = 5 := by omega
  have n0 : 0 ≤ (i * P + j) * P + l := by rcases hc with e | e | e | e | e <;> subst e <;> omega
  have n1 : 0 ≤ ((i * P + j) * P + l) / P := Int.ediv_nonneg n0 (by omega)
  rw [Int.tdiv_eq_ediv_of_nonneg n0, Int.tdiv_eq_ediv_of_nonneg n0, Int.tmod_eq_emod_of_nonneg n0, Int.tmod_eq_emod_of_nonneg n1]
  rcases hc with e | e | e | e | e <;> subst e <;> omega
theorem dec3 {i j l : Int} (hi : 0 ≤ i ∧ i < 5) (hj : 0 ≤ j ∧ j < 5) (hl : 0 ≤ l ∧ l < 5) : (100 * i + 10 * j + l).tdiv 100 = i ∧ ((100 * i + 10 * j + l).tdiv 10).tmod 10 = j ∧ (100 * i + 10 * j + l).tmod 10 = l ∧ 0 ≤ (100 * i + 10 * j + l).tdiv 10 ∧ (100 * i + 10 * j + l).tdiv 10 ≤ 1000 := by
  have n0 : 0 ≤ 100 * i + 10 * j + l := by omega
  have n1 : 0 ≤ (100 * i + 10 * j + l) / 10 := by omega
  rw [Int.tdiv_eq_ediv_of_nonneg n0, Int.tdiv_eq_ediv_of_nonneg n0, Int.tmod_eq_emod_of_nonneg n0, Int.tmod_eq_emod_of_nonneg n1]
  omega
theorem S_best3 {R : Rw} (hI : Iv R) (hd : Dk R) {a b c d : Int} (ha : isT R a) (hb : isT R b) (hc : isT R c) (h0 : 0 ≤ d) (h1 : d ≤ 1000) (n : Nat) {i j l : Int} (f m : Int) (u10 u11 : AV) (σ : St) (hi : 0 ≤ i ∧ i < R 0) (hj : 0 ≤ j ∧ j < R 0) (hl : 0 ≤ l ∧ l < R 0) (hK : RK σ 0 R) : ∃ σ' f' m' v10 v11, Rx k_X1_bestOfThree 40 [.inr (.inl (1, 0)), .inl a, .inl b, .inl c, .inl d, .inl f, .inl m, .inl i, .inl j, .inl l, u10, u11] [] σ = Rx k_X1_bestOfThree 40 [.inr (.inl (1, 0)), .inl a, .inl b, .inl c, .inl d, .inl f', .inl m', .inl i, .inl j, .inl (l + 1), v10, v11] [] σ' ∧ FR 1 σ σ' ∧ blaG R a b c d (n + 1) ((i * R 0 + j) * R 0 + l) f m = blaG R a b c d n ((i * R 0 + j) * R 0 + l + 1) f' m' := by
  have hP := hI.1
  unfold Iv0 at hP
  obtain ⟨t1, t2, t3, _⟩ := tri3 hP.2.1 hi hj hl
  obtain ⟨d1, d2, d3, d4⟩ := dec3 (show 0 ≤ i ∧ i < 5 by omega) (show 0 ≤ j ∧ j < 5 by omega) (show 0 ≤ l ∧ l < 5 by omega)
  obtain ⟨σ1, s1, f1⟩ := K_standingLeant hK hd ha hb hc (show isP R i by omega) (show isP R j by omega) (show isP R l by omega) h0 h1 d1 d2 d3 d4
  have start : Rx k_X1_bestOfThree 40 [.inr (.inl (1, 0)), .inl a, .inl b, .inl c, .inl d, .inl f, .inl m, .inl i, .inl j, .inl l, u10, u11] [] σ = if m < updF (blaR R a b c i j l) d then Rx k_X1_bestOfThree 88 [.inr (.inl (1, 0)), .inl a, .inl b, .inl c, .inl d, .inl f, .inl m, .inl i, .inl j, .inl l, .inl (100 * i + 10 * j + l), .inl (updF (blaR R a b c i j l) d)] [] σ1 else Rx k_X1_bestOfThree 96 [.inr (.inl (1, 0)), .inl a, .inl b, .inl c, .inl d, .inl f, .inl m, .inl i, .inl j, .inl l, .inl (100 * i + 10 * j + l), .inl (updF (blaR R a b c i j l) d)] [] σ1 := by
    rw [b_X1_bestOfThree_40, hK.2.1.1, if_pos hl.2, (b_X1_bestOfThree_52 (g0a := by omega) (g0b := by omega) (g1a := by omega) (g1b := by omega) (g2a := by omega) (g2b := by omega) (g3a := by omega) (g3b := by omega)), s1]
    simp only [Option.bind_some, Option.toList_some, Option.toList_none, List.cons_append, List.nil_append, List.append_nil]
    rw [b_X1_bestOfThree_79]
  have eU : blaU R a b c d ((i * R 0 + j) * R 0 + l) = updF (blaR R a b c i j l) d := by
    unfold blaU
    rw [t1, t2, t3]
  rw [start, blaG_s, eU, t1, t2, t3]
  by_cases hm : m < updF (blaR R a b c i j l) d
  · exact ⟨σ1, 100 * i + 10 * j + l, updF (blaR R a b c i j l) d, .inl (100 * i + 10 * j + l), .inl (updF (blaR R a b c i j l) d), by rw [if_pos hm, (b_X1_bestOfThree_88 (g0a := by omega) (g0b := by omega))], f1, by rw [if_pos hm]⟩
  · exact ⟨σ1, f, m, .inl (100 * i + 10 * j + l), .inl (updF (blaR R a b c i j l) d), by rw [if_neg hm, (b_X1_bestOfThree_96 (g0a := by omega) (g0b := by omega))], f1, by rw [if_neg hm]⟩
theorem L_best3 {R : Rw} (hI : Iv R) (hd : Dk R) {a b c d : Int} (ha : isT R a) (hb : isT R b) (hc : isT R c) (h0 : 0 ≤ d) (h1 : d ≤ 1000) : ∀ (n : Nat) (i j l f m : Int) (u10 u11 : AV) (σ : St), 0 ≤ i ∧ i < R 0 → 0 ≤ j ∧ j < R 0 → 0 ≤ l ∧ l < R 0 → (i * R 0 + j) * R 0 + l + (n + 1 : Nat) = R 0 * R 0 * R 0 → RK σ 0 R → ∃ σ', Rx k_X1_bestOfThree 40 [.inr (.inl (1, 0)), .inl a, .inl b, .inl c, .inl d, .inl f, .inl m, .inl i, .inl j, .inl l, u10, u11] [] σ = some (some (.inl (blaG R a b c d (n + 1) ((i * R 0 + j) * R 0 + l) f m).1), σ') ∧ FR 1 σ σ' := by
  have hP := hI.1
  unfold Iv0 at hP
  intro n
  induction n with
  | zero =>
    intro i j l f m u10 u11 σ hi hj hl hn hK
    obtain ⟨σ1, f', m', v10, v11, s1, f1, e1⟩ := S_best3 hI hd ha hb hc h0 h1 0 f m u10 u11 σ hi hj hl hK
    obtain ⟨_, _, _, _, _, t6, t7, t8⟩ := tri3 hP.2.1 hi hj hl
    have el : l + 1 = R 0 := by
      by_cases z : l + 1 < R 0
      · have := (tri3 hP.2.1 hi hj (l := l + 1) ⟨by omega, z⟩).2.2.2.2.1
        omega
      · omega
    have ej : j + 1 = R 0 := by
      by_cases z : j + 1 < R 0
      · have := (tri3 hP.2.1 hi (j := j + 1) ⟨by omega, z⟩ (l := 0) ⟨Int.le_refl 0, by omega⟩).2.2.2.2.1
        have := t6 el
        omega
      · omega
    have ei : i + 1 = R 0 := by
      by_cases z : i + 1 < R 0
      · have := (tri3 hP.2.1 (i := i + 1) ⟨by omega, z⟩ (j := 0) ⟨Int.le_refl 0, by omega⟩ (l := 0) ⟨Int.le_refl 0, by omega⟩).2.2.2.2.1
        have := t7 el ej
        omega
      · omega
    have hK1 := hK.fr f1 (by decide)
    refine ⟨σ1, ?_, f1⟩
    rw [s1, e1, b_X1_bestOfThree_40, hK1.2.1.1, if_neg (show ¬ l + 1 < R 0 by omega), (b_X1_bestOfThree_102 (g0a := by omega) (g0b := by omega)), b_X1_bestOfThree_25, hK1.2.1.1, if_neg (show ¬ j + 1 < R 0 by omega), (b_X1_bestOfThree_108 (g0a := by omega) (g0b := by omega)), b_X1_bestOfThree_10, hK1.2.1.1, if_neg (show ¬ i + 1 < R 0 by omega), b_X1_bestOfThree_114]
    rfl
  | succ n ih =>
    intro i j l f m u10 u11 σ hi hj hl hn hK
    obtain ⟨σ1, f', m', v10, v11, s1, f1, e1⟩ := S_best3 hI hd ha hb hc h0 h1 (n + 1) f m u10 u11 σ hi hj hl hK
    obtain ⟨_, _, _, _, _, t6, t7, t8⟩ := tri3 hP.2.1 hi hj hl
    have hK1 := hK.fr f1 (by decide)
    rw [s1, e1]
    by_cases el : l + 1 < R 0
    · obtain ⟨σ2, s2, f2⟩ := ih i j (l + 1) f' m' v10 v11 σ1 hi hj ⟨by omega, el⟩ (by omega) hK1
      rw [← Int.add_assoc] at s2
      exact ⟨σ2, s2, f1.trans f2⟩
    · have el2 : l + 1 = R 0 := by omega
      have t6' := t6 el2
      rw [b_X1_bestOfThree_40, hK1.2.1.1, if_neg el, (b_X1_bestOfThree_102 (g0a := by omega) (g0b := by omega)), b_X1_bestOfThree_25, hK1.2.1.1]
      by_cases ej : j + 1 < R 0
      · obtain ⟨σ2, s2, f2⟩ := ih i (j + 1) 0 f' m' v10 v11 σ1 hi ⟨by omega, ej⟩ ⟨Int.le_refl 0, by omega⟩ (by omega) hK1
        rw [← t6'] at s2
        refine ⟨σ2, ?_, f1.trans f2⟩
        rw [if_pos ej, b_X1_bestOfThree_37]
        exact s2
      · have ej2 : j + 1 = R 0 := by omega
        have t7' := t7 el2 ej2
        rw [if_neg ej, (b_X1_bestOfThree_108 (g0a := by omega) (g0b := by omega)), b_X1_bestOfThree_10, hK1.2.1.1]
        by_cases ei : i + 1 < R 0
        · obtain ⟨σ2, s2, f2⟩ := ih (i + 1) 0 0 f' m' v10 v11 σ1 ⟨by omega, ei⟩ ⟨Int.le_refl 0, by omega⟩ ⟨Int.le_refl 0, by omega⟩ (by omega) hK1
          rw [← t7'] at s2
          refine ⟨σ2, ?_, f1.trans f2⟩
          rw [if_pos ei, b_X1_bestOfThree_22, b_X1_bestOfThree_25, hK1.2.1.1, if_pos (show 0 < R 0 by omega), b_X1_bestOfThree_37]
          exact s2
        · have := t8 el2 ej2 (by omega)
          omega
theorem K_bestOfThree {σ : St} {R : Rw} (h : RK σ 0 R) (hd : Dk R) {a b c d : Int} (ha : isT R a) (hb : isT R b) (hc : isT R c) (h0 : 0 ≤ d) (h1 : d ≤ 1000) (u5 u6 u7 u8 u9 u10 u11 : AV) : ∃ σ', Rx k_X1_bestOfThree 0 [.inr (.inl (1, 0)), .inl a, .inl b, .inl c, .inl d, u5, u6, u7, u8, u9, u10, u11] [] σ = some (some (.inl (blaG R a b c d (R 0 * R 0 * R 0).toNat 0 (-9) (-1)).1), σ') ∧ FR 1 σ σ' := by
  have hP := h.1.1
  unfold Iv0 at hP
  have hT := h.1.2.2.1 a ha.1 (by have := ha.2; omega)
  have hp : 0 < R 0 := by omega
  have hk := (tri3 hP.2.1 (i := R 0 - 1) ⟨by omega, by omega⟩ (j := R 0 - 1) ⟨by omega, by omega⟩ (l := R 0 - 1) ⟨by omega, by omega⟩).2.2.2.2.1
  have hk0 := (tri3 hP.2.1 (i := R 0 - 1) ⟨by omega, by omega⟩ (j := R 0 - 1) ⟨by omega, by omega⟩ (l := R 0 - 1) ⟨by omega, by omega⟩).2.2.2.1
  obtain ⟨N, hN⟩ : ∃ N : Nat, (R 0 * R 0 * R 0).toNat = N + 1 := ⟨(R 0 * R 0 * R 0).toNat - 1, by omega⟩
  obtain ⟨σ2, s2, f2⟩ := L_best3 h.1 hd ha hb hc h0 h1 N 0 0 0 (-9) (-1) u10 u11 σ ⟨Int.le_refl 0, hp⟩ ⟨Int.le_refl 0, hp⟩ ⟨Int.le_refl 0, hp⟩ (by rw [Int.zero_mul, Int.zero_add, Int.zero_mul]; omega) h
  rw [Int.zero_mul, Int.zero_add, Int.zero_mul, Int.zero_add] at s2
  refine ⟨σ2, ?_, f2⟩
  rw [b_X1_bestOfThree_0, b_X1_bestOfThree_10, h.2.1.1, if_pos hp, b_X1_bestOfThree_22, b_X1_bestOfThree_25, h.2.1.1, if_pos hp, b_X1_bestOfThree_37, hN]
  exact s2
/-! strengths -/
theorem K_standingWith {σ : St} {R : Rw} (h : RK σ 0 R) (hd : Dk R) {p v d : Int} (hp : isP R p) (hv : 0 ≤ v ∧ v ≤ 99) (h0 : 0 ≤ d) (h1 : d ≤ 1000) : ∃ σ', Rx k_X1_standingWith 0 [.inr (.inl (1, 0)), .inl p, .inl v, .inl d] [] σ = some (some (.inl (upwF R p v d)), σ') ∧ FR 1 σ σ' := by
  have hb := h.1.1
  unfold Iv0 at hb
  have hd1 := hd.1
  have hd2 := hd.2
  obtain ⟨σ1, s1, f1, g1, _⟩ := h.bc
  obtain ⟨σ2, s2, f2, g2⟩ := K_strengthen g1 hp hv
  obtain ⟨e0, e1, e2⟩ := sw_0 (R := R) (v := v) hp.1 (show p < 5 by omega)
  obtain ⟨σ3, s3, f3, g3⟩ := K_passDays g2 h0 (by rw [e2]; omega) (by rw [e2]; omega) uns
  refine ⟨σ3, ?_, (f1.trans f2).trans f3⟩
  rw [b_X1_standingWith_0, s1]
  simp only [Option.bind_some, Option.toList_some, Option.toList_none, List.cons_append, List.nil_append, List.append_nil]
  rw [b_X1_standingWith_11, s2]
  simp only [Option.bind_some, Option.toList_some, Option.toList_none, List.cons_append, List.nil_append, List.append_nil]
  rw [b_X1_standingWith_20, s3]
  simp only [Option.bind_some, Option.toList_some, Option.toList_none, List.cons_append, List.nil_append, List.append_nil]
  rw [b_X1_standingWith_29, K_standing g3.2 g3.1.1]
  simp only [Option.bind_some, Option.toList_some, Option.toList_none, List.cons_append, List.nil_append, List.append_nil]
  rw [b_X1_standingWith_36]
  rfl
theorem L_toMend {R : Rw} (hI : Iv R) (hd : Dk R) {d : Int} (h0 : 0 ≤ d) (h1 : d ≤ 1000) : ∀ (n : Nat) (p f x : Int) (u5 : AV) (σ : St), 0 ≤ p → p + n = R 0 → RK σ 0 R → ∃ σ', Rx k_X1_toMend 15 [.inr (.inl (1, 0)), .inl d, .inl f, .inl x, .inl p, u5] [] σ = some (some (.inl (menG R d n p x f)), σ') ∧ FR 1 σ σ' := by
  have hb := hI.1
  unfold Iv0 at hb
  intro n
  induction n with
  | zero =>
    intro p f x u5 σ h2 h3 hK
    refine ⟨σ, ?_, FR.refl 1 σ⟩
    rw [b_X1_toMend_15, hK.2.1.1, if_neg (show ¬ p < R 0 by omega), b_X1_toMend_56]
    rfl
  | succ n ih =>
    intro p f x u5 σ h2 h3 hK
    obtain ⟨σ1, s1, f1⟩ := K_standingWith hK hd (p := p) (v := 99) ⟨h2, by omega⟩ (by omega) h0 h1
    have hK1 := hK.fr f1 (by decide)
    rw [b_X1_toMend_15, hK.2.1.1, if_pos (show p < R 0 by omega), b_X1_toMend_27, s1, menG_s]
    simp only [Option.bind_some, Option.toList_some, Option.toList_none, List.cons_append, List.nil_append, List.append_nil]
    rw [b_X1_toMend_36]
    by_cases hx : x < upwF R p 99 d
    · obtain ⟨σ5, s5, f5⟩ := ih (p + 1) p (upwF R p 99 d) (.inl (upwF R p 99 d)) σ1 (by omega) (by omega) hK1
      exact ⟨σ5, by rw [if_pos hx, if_pos hx, (b_X1_toMend_44 (g0a := by omega) (g0b := by omega)), s5], f1.trans f5⟩
    · obtain ⟨σ5, s5, f5⟩ := ih (p + 1) f x (.inl (upwF R p 99 d)) σ1 (by omega) (by omega) hK1
      exact ⟨σ5, by rw [if_neg hx, if_neg hx, (b_X1_toMend_50 (g0a := by omega) (g0b := by omega)), s5], f1.trans f5⟩
theorem L_toBreak {R : Rw} (hI : Iv R) (hd : Dk R) {d : Int} (h0 : 0 ≤ d) (h1 : d ≤ 1000) : ∀ (n : Nat) (p f x : Int) (u5 : AV) (σ : St), 0 ≤ p → p + n = R 0 → RK σ 0 R → ∃ σ', Rx k_X1_toBreak 15 [.inr (.inl (1, 0)), .inl d, .inl f, .inl x, .inl p, u5] [] σ = some (some (.inl (keyG R d n p x f)), σ') ∧ FR 1 σ σ' := by
  have hb := hI.1
  unfold Iv0 at hb
  intro n
  induction n with
  | zero =>
    intro p f x u5 σ h2 h3 hK
    refine ⟨σ, ?_, FR.refl 1 σ⟩
    rw [b_X1_toBreak_15, hK.2.1.1, if_neg (show ¬ p < R 0 by omega), b_X1_toBreak_55]
    rfl
  | succ n ih =>
    intro p f x u5 σ h2 h3 hK
    obtain ⟨σ1, s1, f1⟩ := K_standingWith hK hd (p := p) (v := 0) ⟨h2, by omega⟩ (by omega) h0 h1
    have hK1 := hK.fr f1 (by decide)
    rw [b_X1_toBreak_15, hK.2.1.1, if_pos (show p < R 0 by omega), b_X1_toBreak_27, s1, keyG_s]
    simp only [Option.bind_some, Option.toList_some, Option.toList_none, List.cons_append, List.nil_append, List.append_nil]
    rw [b_X1_toBreak_35]
    by_cases hx : upwF R p 0 d < x
    · obtain ⟨σ5, s5, f5⟩ := ih (p + 1) p (upwF R p 0 d) (.inl (upwF R p 0 d)) σ1 (by omega) (by omega) hK1
      exact ⟨σ5, by rw [if_pos hx, if_pos hx, (b_X1_toBreak_43 (g0a := by omega) (g0b := by omega)), s5], f1.trans f5⟩
    · obtain ⟨σ5, s5, f5⟩ := ih (p + 1) f x (.inl (upwF R p 0 d)) σ1 (by omega) (by omega) hK1
      exact ⟨σ5, by rw [if_neg hx, if_neg hx, (b_X1_toBreak_49 (g0a := by omega) (g0b := by omega)), s5], f1.trans f5⟩
theorem K_toMend {σ : St} {R : Rw} (h : RK σ 0 R) (hd : Dk R) {d : Int} (h0 : 0 ≤ d) (h1 : d ≤ 1000) (u2 u3 u4 u5 : AV) : ∃ σ', Rx k_X1_toMend 0 [.inr (.inl (1, 0)), .inl d, u2, u3, u4, u5] [] σ = some (some (.inl (menA R d)), σ') ∧ FR 1 σ σ' := by
  have hb := h.1.1
  unfold Iv0 at hb
  obtain ⟨σ1, s1, f1, g1⟩ := K_behind h hd h0 h1
  obtain ⟨σ2, s2, f2⟩ := L_toMend h.1 hd h0 h1 (R 0).toNat 0 (-9) (updF R d) u5 σ1 (Int.le_refl 0) (by omega) (h.fr f1 (by decide))
  refine ⟨σ2, ?_, f1.trans f2⟩
  rw [b_X1_toMend_0, s1]
  simp only [Option.bind_some, Option.toList_some, Option.toList_none, List.cons_append, List.nil_append, List.append_nil]
  rw [b_X1_toMend_8, K_standing g1.2 g1.1.1]
  simp only [Option.bind_some, Option.toList_some, Option.toList_none, List.cons_append, List.nil_append, List.append_nil]
  rw [b_X1_toMend_11]
  exact s2
theorem K_toBreak {σ : St} {R : Rw} (h : RK σ 0 R) (hd : Dk R) {d : Int} (h0 : 0 ≤ d) (h1 : d ≤ 1000) (u2 u3 u4 u5 : AV) : ∃ σ', Rx k_X1_toBreak 0 [.inr (.inl (1, 0)), .inl d, u2, u3, u4, u5] [] σ = some (some (.inl (keyA R d)), σ') ∧ FR 1 σ σ' := by
  have hb := h.1.1
  unfold Iv0 at hb
  obtain ⟨σ1, s1, f1, g1⟩ := K_behind h hd h0 h1
  obtain ⟨σ2, s2, f2⟩ := L_toBreak h.1 hd h0 h1 (R 0).toNat 0 (-9) (updF R d) u5 σ1 (Int.le_refl 0) (by omega) (h.fr f1 (by decide))
  refine ⟨σ2, ?_, f1.trans f2⟩
  rw [b_X1_toBreak_0, s1]
  simp only [Option.bind_some, Option.toList_some, Option.toList_none, List.cons_append, List.nil_append, List.append_nil]
  rw [b_X1_toBreak_8, K_standing g1.2 g1.1.1]
  simp only [Option.bind_some, Option.toList_some, Option.toList_none, List.cons_append, List.nil_append, List.append_nil]
  rw [b_X1_toBreak_11]
  exact s2
