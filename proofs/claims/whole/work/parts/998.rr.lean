/-! the class's questions: refused by a number, or by a thing that must be up -/
theorem N_allThen (d : Int) (σ : St) (R : Rw) (h : RK σ 0 R) (hd : Dk R) (hx : Xok σ) (u : AV) : XQ (fun z => Rx k_X4_allThen 0 [.inr (.inl (0, 0)), .inl d, u] [] σ = some z) σ (wbyF d 99) (updF R d) := by
  have hw := wby_c d 99
  by_cases h1 : wbyF d 99 = 0
  · obtain ⟨σ1, s1, f1, g1⟩ := K_behind h hd (d := d) (by omega) (by omega)
    rw [h1]
    refine XQ_ok f1.xs ?_
    rw [b_X4_allThen_0, K_outside, h1]
    simp only [Option.bind_some, Option.toList_some, Option.toList_none, List.cons_append, List.nil_append, List.append_nil]
    rw [b_X4_allThen_7, if_pos (show -(0 : Int) = 0 from rfl), b_X4_allThen_20, s1]
    simp only [Option.bind_some, Option.toList_some, Option.toList_none, List.cons_append, List.nil_append, List.append_nil]
    rw [b_X4_allThen_28, K_standing g1.2 g1.1.1]
    simp only [Option.bind_some, Option.toList_some, Option.toList_none, List.cons_append, List.nil_append, List.append_nil]
    rw [b_X4_allThen_31]
    rfl
  · refine XQ_no h1 ?_
    rw [b_X4_allThen_0, K_outside]
    simp only [Option.bind_some, Option.toList_some, Option.toList_none, List.cons_append, List.nil_append, List.append_nil]
    rw [b_X4_allThen_7, if_neg (show ¬ -(wbyF d 99) = 0 by omega), b_X4_allThen_12, K_refuse hx (by omega) (by omega), Int.neg_neg]
    simp only [Option.bind_some, Option.toList_some, Option.toList_none, List.cons_append, List.nil_append, List.append_nil]
    rw [b_X4_allThen_17]
theorem N_mended (d : Int) (σ : St) (R : Rw) (h : RK σ 0 R) (hd : Dk R) (hx : Xok σ) (u : AV) : XQ (fun z => Rx k_X4_mended 0 [.inr (.inl (0, 0)), .inl d, u] [] σ = some z) σ (wbyF d 99) (menA R d) := by
  have hw := wby_c d 99
  by_cases h1 : wbyF d 99 = 0
  · obtain ⟨σ1, s1, f1⟩ := K_toMend h hd (d := d) (by omega) (by omega) uns uns uns uns
    rw [h1]
    refine XQ_ok f1.xs ?_
    rw [b_X4_mended_0, K_outside, h1]
    simp only [Option.bind_some, Option.toList_some, Option.toList_none, List.cons_append, List.nil_append, List.append_nil]
    rw [b_X4_mended_7, if_pos (show -(0 : Int) = 0 from rfl), b_X4_mended_20, s1]
    simp only [Option.bind_some, Option.toList_some, Option.toList_none, List.cons_append, List.nil_append, List.append_nil]
    rw [b_X4_mended_28]
  · refine XQ_no h1 ?_
    rw [b_X4_mended_0, K_outside]
    simp only [Option.bind_some, Option.toList_some, Option.toList_none, List.cons_append, List.nil_append, List.append_nil]
    rw [b_X4_mended_7, if_neg (show ¬ -(wbyF d 99) = 0 by omega), b_X4_mended_12, K_refuse hx (by omega) (by omega), Int.neg_neg]
    simp only [Option.bind_some, Option.toList_some, Option.toList_none, List.cons_append, List.nil_append, List.append_nil]
    rw [b_X4_mended_17]
theorem N_key (d : Int) (σ : St) (R : Rw) (h : RK σ 0 R) (hd : Dk R) (hx : Xok σ) (u : AV) : XQ (fun z => Rx k_X4_key 0 [.inr (.inl (0, 0)), .inl d, u] [] σ = some z) σ (wbyF d 99) (keyA R d) := by
  have hw := wby_c d 99
  by_cases h1 : wbyF d 99 = 0
  · obtain ⟨σ1, s1, f1⟩ := K_toBreak h hd (d := d) (by omega) (by omega) uns uns uns uns
    rw [h1]
    refine XQ_ok f1.xs ?_
    rw [b_X4_key_0, K_outside, h1]
    simp only [Option.bind_some, Option.toList_some, Option.toList_none, List.cons_append, List.nil_append, List.append_nil]
    rw [b_X4_key_7, if_pos (show -(0 : Int) = 0 from rfl), b_X4_key_20, s1]
    simp only [Option.bind_some, Option.toList_some, Option.toList_none, List.cons_append, List.nil_append, List.append_nil]
    rw [b_X4_key_28]
  · refine XQ_no h1 ?_
    rw [b_X4_key_0, K_outside]
    simp only [Option.bind_some, Option.toList_some, Option.toList_none, List.cons_append, List.nil_append, List.append_nil]
    rw [b_X4_key_7, if_neg (show ¬ -(wbyF d 99) = 0 by omega), b_X4_key_12, K_refuse hx (by omega) (by omega), Int.neg_neg]
    simp only [Option.bind_some, Option.toList_some, Option.toList_none, List.cons_append, List.nil_append, List.append_nil]
    rw [b_X4_key_17]
theorem N_thief (d : Int) (σ : St) (R : Rw) (h : RK σ 0 R) (hd : Dk R) (hx : Xok σ) (u : AV) : XQ (fun z => Rx k_X4_thief 0 [.inr (.inl (0, 0)), .inl d, u] [] σ = some z) σ (wbyF d 99) (thiA R d) := by
  have hw := wby_c d 99
  by_cases h1 : wbyF d 99 = 0
  · obtain ⟨σ1, s1, f1⟩ := K_standingRobbed h hd (d := d) (by omega) (by omega) uns
    rw [h1]
    refine XQ_ok f1.xs ?_
    rw [b_X4_thief_0, K_outside, h1]
    simp only [Option.bind_some, Option.toList_some, Option.toList_none, List.cons_append, List.nil_append, List.append_nil]
    rw [b_X4_thief_7, if_pos (show -(0 : Int) = 0 from rfl), b_X4_thief_20, s1]
    simp only [Option.bind_some, Option.toList_some, Option.toList_none, List.cons_append, List.nil_append, List.append_nil]
    rw [b_X4_thief_28]
  · refine XQ_no h1 ?_
    rw [b_X4_thief_0, K_outside]
    simp only [Option.bind_some, Option.toList_some, Option.toList_none, List.cons_append, List.nil_append, List.append_nil]
    rw [b_X4_thief_7, if_neg (show ¬ -(wbyF d 99) = 0 by omega), b_X4_thief_12, K_refuse hx (by omega) (by omega), Int.neg_neg]
    simp only [Option.bind_some, Option.toList_some, Option.toList_none, List.cons_append, List.nil_append, List.append_nil]
    rw [b_X4_thief_17]
theorem N_gap (t : Int) (σ : St) (R : Rw) (h : RK σ 0 R) (hd : Dk R) (hx : Xok σ) (u : AV) : XQ (fun z => Rx k_X4_gap 0 [.inr (.inl (0, 0)), .inl t, u] [] σ = some z) σ (wupF R t) (gapA R t) := by
  have hw := wup_c R t
  by_cases h1 : wupF R t = 0
  · obtain ⟨ht, hu⟩ : isT R t ∧ uq R t = 1 := by
      rcases hw with k | k | k
      · exact k.2
      · omega
      · omega
    have s1 := K_gapBehind h.2 h.1 ht hu uns uns uns uns
    rw [h1]
    refine XQ_ok (XS.refl σ) ?_
    rw [b_X4_gap_0, K_offUp h, h1]
    simp only [Option.bind_some, Option.toList_some, Option.toList_none, List.cons_append, List.nil_append, List.append_nil]
    rw [b_X4_gap_5, if_pos (show -(0 : Int) = 0 from rfl), b_X4_gap_18, s1]
    simp only [Option.bind_some, Option.toList_some, Option.toList_none, List.cons_append, List.nil_append, List.append_nil]
    rw [b_X4_gap_26]
  · refine XQ_no h1 ?_
    rw [b_X4_gap_0, K_offUp h]
    simp only [Option.bind_some, Option.toList_some, Option.toList_none, List.cons_append, List.nil_append, List.append_nil]
    rw [b_X4_gap_5, if_neg (show ¬ -(wupF R t) = 0 by omega), b_X4_gap_10, K_refuse hx (by omega) (by omega), Int.neg_neg]
    simp only [Option.bind_some, Option.toList_some, Option.toList_none, List.cons_append, List.nil_append, List.append_nil]
    rw [b_X4_gap_15]
theorem N_lean (t : Int) (σ : St) (R : Rw) (h : RK σ 0 R) (hd : Dk R) (hx : Xok σ) (u : AV) : XQ (fun z => Rx k_X4_lean 0 [.inr (.inl (0, 0)), .inl t, u] [] σ = some z) σ (wupF R t) (leaA R t) := by
  have hw := wup_c R t
  by_cases h1 : wupF R t = 0
  · obtain ⟨ht, hu⟩ : isT R t ∧ uq R t = 1 := by
      rcases hw with k | k | k
      · exact k.2
      · omega
      · omega
    obtain ⟨σ1, s1, f1⟩ := K_betterLean h hd ht uns uns uns uns uns
    rw [h1]
    refine XQ_ok f1.xs ?_
    rw [b_X4_lean_0, K_offUp h, h1]
    simp only [Option.bind_some, Option.toList_some, Option.toList_none, List.cons_append, List.nil_append, List.append_nil]
    rw [b_X4_lean_5, if_pos (show -(0 : Int) = 0 from rfl), b_X4_lean_18, s1]
    simp only [Option.bind_some, Option.toList_some, Option.toList_none, List.cons_append, List.nil_append, List.append_nil]
    rw [b_X4_lean_26]
  · refine XQ_no h1 ?_
    rw [b_X4_lean_0, K_offUp h]
    simp only [Option.bind_some, Option.toList_some, Option.toList_none, List.cons_append, List.nil_append, List.append_nil]
    rw [b_X4_lean_5, if_neg (show ¬ -(wupF R t) = 0 by omega), b_X4_lean_10, K_refuse hx (by omega) (by omega), Int.neg_neg]
    simp only [Option.bind_some, Option.toList_some, Option.toList_none, List.cons_append, List.nil_append, List.append_nil]
    rw [b_X4_lean_15]
theorem pud_tp {R : Rw} (h : Iv R) {t : Int} (ht : isT R t) (hu : uq R t = 1) : pudA R t = (tpX R t : Nat) := by
  obtain ⟨d, i2, x1, x2, x3, x4⟩ := tp_ok h t
  unfold pudA
  rw [← (tp_up ht hu).2]
  congr 1
  apply Nat.eq_of_testBit_eq
  intro i
  rw [Bool.eq_iff_iff, xor_bit, upF_b2, upF_b2, d.2.1, x3 i (by omega), Int.toNat_natCast]
  constructor
  · intro z
    by_cases e : (tpX R t).testBit i = true
    · exact e
    · exact absurd ⟨z.1.1, by rw [if_neg e]; exact z.1.2⟩ z.2
  · intro z
    have k := upF_b2.1 (x2 i z).2
    refine ⟨k, fun y => ?_⟩
    rw [if_pos z] at y
    exact absurd y.2 (by decide)
theorem N_pushed (t : Int) (σ : St) (R : Rw) (h : RK σ 0 R) (hd : Dk R) (hx : Xok σ) (u : AV) : XQ (fun z => Rx k_X4_pushed 0 [.inr (.inl (0, 0)), .inl t, u] [] σ = some z) σ (wupF R t) (pudA R t) := by
  have hw := wup_c R t
  by_cases h1 : wupF R t = 0
  · obtain ⟨ht, hu⟩ : isT R t ∧ uq R t = 1 := by
      rcases hw with k | k | k
      · exact k.2
      · omega
      · omega
    have s1 := K_felled0 h.2 h.1 t uns uns uns uns uns
    rw [h1]
    refine XQ_ok (XS.refl σ) ?_
    rw [b_X4_pushed_0, K_offUp h, h1]
    simp only [Option.bind_some, Option.toList_some, Option.toList_none, List.cons_append, List.nil_append, List.append_nil]
    rw [b_X4_pushed_5, if_pos (show -(0 : Int) = 0 from rfl), b_X4_pushed_18, s1, pud_tp h.1 ht hu]
    simp only [Option.bind_some, Option.toList_some, Option.toList_none, List.cons_append, List.nil_append, List.append_nil]
    rw [b_X4_pushed_27]
  · refine XQ_no h1 ?_
    rw [b_X4_pushed_0, K_offUp h]
    simp only [Option.bind_some, Option.toList_some, Option.toList_none, List.cons_append, List.nil_append, List.append_nil]
    rw [b_X4_pushed_5, if_neg (show ¬ -(wupF R t) = 0 by omega), b_X4_pushed_10, K_refuse hx (by omega) (by omega), Int.neg_neg]
    simp only [Option.bind_some, Option.toList_some, Option.toList_none, List.cons_append, List.nil_append, List.append_nil]
    rw [b_X4_pushed_15]
theorem N_worst (w : Int) (σ : St) (R : Rw) (h : RK σ 0 R) (hx : Xok σ) (u : AV) : XQ (fun z => Rx k_X4_worst 0 [.inr (.inl (0, 0)), .inl w, u] [] σ = some z) σ (w1B w) (worA R w) := by
  unfold w1B
  by_cases h1 : 0 ≤ w ∧ w ≤ 1
  · rw [if_pos h1]
    refine XQ_ok (XS.refl σ) ?_
    have hok := worG_ok h.1.1 20 0 (-9) 0 (Or.inl rfl)
    have start : Rx k_X4_worst 0 [.inr (.inl (0, 0)), .inl w, u] [] σ = if w = 0 then Rx k_X4_worst 31 [.inr (.inl (0, 0)), .inl w, .inl (worG R 20 0 (-9) 0).1] [] σ else Rx k_X4_worst 25 [.inr (.inl (0, 0)), .inl w, .inl (worG R 20 0 (-9) 0).1] [] σ := by
      rw [b_X4_worst_0, K_isNeither, if_pos h1]
      simp only [Option.bind_some, Option.toList_some, Option.toList_none, List.cons_append, List.nil_append, List.append_nil]
      rw [b_X4_worst_4, if_pos rfl, b_X4_worst_13, K_worstPush h.2 h.1]
      simp only [Option.bind_some, Option.toList_some, Option.toList_none, List.cons_append, List.nil_append, List.append_nil]
      rw [b_X4_worst_20]
    rw [start]
    unfold worA pk
    generalize worG R 20 0 (-9) 0 = z at hok ⊢
    by_cases hw : w = 0
    · rw [if_pos hw, b_X4_worst_31, if_pos (Or.inr hw)]
    · rw [if_neg hw, b_X4_worst_25]
      rcases hok with k | ⟨k1, k2, k3⟩
      · rw [if_pos k, b_X4_worst_31, if_pos (Or.inl (by omega))]
      · obtain ⟨q1, q2⟩ := K_felledN h.2 h.1 z.1
        rw [(tp_up k1 k2).1] at q2
        rw [if_neg (show ¬ z.1 = -9 by have := k1.1; omega), b_X4_worst_33, q1]
        simp only [Option.bind_some, Option.toList_some, Option.toList_none, List.cons_append, List.nil_append, List.append_nil]
        rw [b_X4_worst_42, q2]
        simp only [Option.bind_some, Option.toList_some, Option.toList_none, List.cons_append, List.nil_append, List.append_nil]
        rw [b_X4_worst_45, if_neg (show ¬ (z.1 < 0 ∨ w = 0) by have := k1.1; omega), k3]
  · rw [if_neg h1]
    refine XQ_no (by decide) ?_
    rw [b_X4_worst_0, K_isNeither, if_neg h1]
    simp only [Option.bind_some, Option.toList_some, Option.toList_none, List.cons_append, List.nil_append, List.append_nil]
    rw [b_X4_worst_4, if_neg (by decide), b_X4_worst_7, K_refuse hx (by decide) (by decide)]
    simp only [Option.bind_some, Option.toList_some, Option.toList_none, List.cons_append, List.nil_append, List.append_nil]
    rw [b_X4_worst_12]
theorem N_longest (w : Int) (σ : St) (R : Rw) (h : RK σ 0 R) (hx : Xok σ) (u : AV) : XQ (fun z => Rx k_X4_longest 0 [.inr (.inl (0, 0)), .inl w, u] [] σ = some z) σ (w1B w) (lonA R w) := by
  unfold w1B
  by_cases h1 : 0 ≤ w ∧ w ≤ 1
  · rw [if_pos h1]
    refine XQ_ok (XS.refl σ) ?_
    have hok := lfG_ok R 20 0 (-9) 0 (Int.le_refl 0) (by omega) (Or.inl ⟨rfl, rfl⟩)
    rw [lf_lon0] at hok
    have start : Rx k_X4_longest 0 [.inr (.inl (0, 0)), .inl w, u] [] σ = if w = 1 then Rx k_X4_longest 26 [.inr (.inl (0, 0)), .inl w, .inl (lonG R 20 0 (-9) 0 0).1] [] σ else Rx k_X4_longest 28 [.inr (.inl (0, 0)), .inl w, .inl (lonG R 20 0 (-9) 0 0).1] [] σ := by
      rw [b_X4_longest_0, K_isNeither, if_pos h1]
      simp only [Option.bind_some, Option.toList_some, Option.toList_none, List.cons_append, List.nil_append, List.append_nil]
      rw [b_X4_longest_4, if_pos rfl, b_X4_longest_13, K_longestFrom h.2 h.1]
      simp only [Option.bind_some, Option.toList_some, Option.toList_none, List.cons_append, List.nil_append, List.append_nil]
      rw [b_X4_longest_20]
    rw [start]
    unfold lonA
    generalize lonG R 20 0 (-9) 0 0 = z at hok ⊢
    by_cases hw : w = 1
    · rw [if_pos hw, b_X4_longest_26, if_neg (show ¬ w = 0 by omega)]
    · rw [if_neg hw, b_X4_longest_28, if_pos (show w = 0 by omega)]
      rcases hok with ⟨k1, k2⟩ | ⟨k1, k2, k3⟩
      · rw [if_pos k1, b_X4_longest_34, k2]
      · rw [if_neg (show ¬ z.1 = -9 by omega), b_X4_longest_38, K_besideFrom h.2 h.1 (20 - z.1).toNat z.1 k1 (by omega)]
        simp only [Option.bind_some, Option.toList_some, Option.toList_none, List.cons_append, List.nil_append, List.append_nil]
        rw [b_X4_longest_46, k3]
  · rw [if_neg h1]
    refine XQ_no (by decide) ?_
    rw [b_X4_longest_0, K_isNeither, if_neg h1]
    simp only [Option.bind_some, Option.toList_some, Option.toList_none, List.cons_append, List.nil_append, List.append_nil]
    rw [b_X4_longest_4, if_neg (by decide), b_X4_longest_7, K_refuse hx (by decide) (by decide)]
    simp only [Option.bind_some, Option.toList_some, Option.toList_none, List.cons_append, List.nil_append, List.append_nil]
    rw [b_X4_longest_12]
theorem N_first (w : Int) (σ : St) (R : Rw) (h : RK σ 0 R) (hd : Dk R) (hx : Xok σ) (u : AV) : XQ (fun z => Rx k_X4_first 0 [.inr (.inl (0, 0)), .inl w, u] [] σ = some z) σ (w3B w) (firA R w) := by
  unfold w3B
  by_cases h1 : 0 ≤ w ∧ w ≤ 3
  · rw [if_pos h1]
    have start : Rx k_X4_first 0 [.inr (.inl (0, 0)), .inl w, u] [] σ = Rx k_X4_first 15 [.inr (.inl (0, 0)), .inl w, u] [] σ := by
      rw [b_X4_first_0, if_neg (show ¬ w < 0 by omega), b_X4_first_4, if_neg (show ¬ 3 < w by omega)]
    unfold firA
    by_cases e3 : w = 3
    · obtain ⟨σ1, s1, f1⟩ := K_flat h hd uns
      rw [if_pos e3]
      refine XQ_ok f1.xs ?_
      rw [start, b_X4_first_15, if_pos e3, b_X4_first_20, s1]
      simp only [Option.bind_some, Option.toList_some, Option.toList_none, List.cons_append, List.nil_append, List.append_nil]
      rw [b_X4_first_27]
    · obtain ⟨σ1, s1, f1⟩ := K_firstDown h hd uns
      have hbd := downF_bd R (upF R) 0
      obtain ⟨q1, q2⟩ := fir_eq h.1
      rw [if_neg e3]
      have st2 : Rx k_X4_first 0 [.inr (.inl (0, 0)), .inl w, u] [] σ = if w = 2 then Rx k_X4_first 41 [.inr (.inl (0, 0)), .inl w, .inl (downF R (upF R) 0)] [] σ1 else Rx k_X4_first 56 [.inr (.inl (0, 0)), .inl w, .inl (downF R (upF R) 0)] [] σ1 := by
        rw [start, b_X4_first_15, if_neg e3, b_X4_first_28, s1]
        simp only [Option.bind_some, Option.toList_some, Option.toList_none, List.cons_append, List.nil_append, List.append_nil]
        rw [b_X4_first_35]
      by_cases e2 : w = 2
      · rw [if_pos e2]
        refine XQ_ok f1.xs ?_
        rw [st2, if_pos e2, b_X4_first_41]
        by_cases z : downF R (upF R) 0 = -9
        · rw [if_pos z, b_X4_first_47, if_pos (show downF R (upF R) 0 < 0 by omega)]
        · rw [if_neg z, (b_X4_first_52 (g0a := by omega) (g0b := by omega)), if_neg (show ¬ downF R (upF R) 0 < 0 by omega)]
      · rw [if_neg e2]
        unfold pk
        by_cases z : downF R (upF R) 0 = -9
        · refine XQ_ok f1.xs ?_
          rw [st2, if_neg e2, b_X4_first_56, q1 z, if_pos (Or.inl (show (-9 : Int) < 0 by decide))]
          by_cases e1 : w = 1
          · rw [if_pos e1, b_X4_first_67, z]
          · rw [if_neg e1, b_X4_first_61, if_pos z, b_X4_first_67, z]
        · obtain ⟨k1, k2, k3, k4⟩ := q2 z
          by_cases e1 : w = 1
          · refine XQ_ok f1.xs ?_
            rw [st2, if_neg e2, b_X4_first_56, if_pos e1, b_X4_first_67, k4, if_neg (show ¬ (lpG R (upF R ^^^ (upF R &&& upF (daysF (downF R (upF R) 0).toNat R))) 20 0 < 0 ∨ w = 0) by omega)]
          · obtain ⟨σ2, s2, f2, g2⟩ := K_behind (h.fr f1 (by decide)) hd k1 (by omega)
            have h2 := (h.fr f1 (by decide)).fr f2 (by decide)
            have hlt := upF_lt10 h.1.1
            have hxl := xor_lt (b := upF (daysF (downF R (upF R) 0).toNat R)) hlt
            refine XQ_ok (f1.trans f2).xs ?_
            rw [st2, if_neg e2, b_X4_first_56, if_neg e1, b_X4_first_61, if_neg z, b_X4_first_69, s2]
            simp only [Option.bind_some, Option.toList_some, Option.toList_none, List.cons_append, List.nil_append, List.append_nil]
            rw [b_X4_first_88, (h.fr f1 (by decide)).2.1.2.2.2, g2.2.1.2.2.2, bAndNot_nat (by omega), K_leastPlaced h2.2 h.1.1 _ (by omega)]
            simp only [Option.bind_some, Option.toList_some, Option.toList_none, List.cons_append, List.nil_append, List.append_nil]
            rw [b_X4_first_97, k4, if_pos (Or.inr (by omega))]
  · rw [if_neg h1]
    refine XQ_no (by decide) ?_
    have e : Rx k_X4_first 0 [.inr (.inl (0, 0)), .inl w, u] [] σ = Rx k_X4_first 9 [.inr (.inl (0, 0)), .inl w, u] [] σ := by
      rw [b_X4_first_0]
      by_cases y : w < 0
      · rw [if_pos y]
      · rw [if_neg y, b_X4_first_4, if_pos (by omega)]
    rw [e, b_X4_first_9, K_refuse hx (by decide) (by decide)]
    simp only [Option.bind_some, Option.toList_some, Option.toList_none, List.cons_append, List.nil_append, List.append_nil]
    rw [b_X4_first_14]
