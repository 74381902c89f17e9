/-! the class's questions: three leans, two who push, a draught, lots -/
theorem blaG_ok {R : Rw} (hb : Iv0 R) (t s v d : Int) : ∀ (n : Nat) (k f x : Int), 0 ≤ k → k + n = R 0 * R 0 * R 0 → (f = -9 ∨ ∃ i j l, isP R i ∧ isP R j ∧ isP R l ∧ f = 100 * i + 10 * j + l ∧ x = updF (blaR R t s v i j l) d) → ((blaG R t s v d n k f x).1 = -9 ∨ ∃ i j l, isP R i ∧ isP R j ∧ isP R l ∧ (blaG R t s v d n k f x).1 = 100 * i + 10 * j + l ∧ (blaG R t s v d n k f x).2 = updF (blaR R t s v i j l) d) := by
  unfold Iv0 at hb
  intro n
  induction n with
  | zero => intro k f x _ _ h; exact h
  | succ n ih =>
    intro k f x h0 h1 h
    rw [blaG_s]
    by_cases e : x < blaU R t s v d k
    · rw [if_pos e]
      obtain ⟨_, _, a1, a2, a3, a4, a5, a6, _⟩ := tri_bd hb.1 hb.2.1 h0 (show k < R 0 * R 0 * R 0 by omega)
      exact ih _ _ _ (by omega) (by omega) (Or.inr ⟨k.tdiv (R 0 * R 0), (k.tdiv (R 0)).tmod (R 0), k.tmod (R 0), ⟨a1, by omega⟩, ⟨a3, by omega⟩, ⟨a5, by omega⟩, rfl, rfl⟩)
    · rw [if_neg e]
      exact ih _ _ _ (by omega) (by omega) h
theorem N_bestLeans (t s v d w : Int) (σ : St) (R : Rw) (h : RK σ 0 R) (hd : Dk R) (hx : Xok σ) (u6 u7 : AV) : XQ (fun z => Rx k_X4_bestLeans 0 [.inr (.inl (0, 0)), .inl t, .inl s, .inl v, .inl d, .inl w, u6, u7] [] σ = some z) σ (blaB R t s v d w) (blaA R t s v d w) := by
  have hb := h.1.1
  have hb2 := h.1.1
  unfold Iv0 at hb2
  have hw := wby_c d 20
  unfold blaB
  have no48 : Rx k_X4_bestLeans 48 [.inr (.inl (0, 0)), .inl t, .inl s, .inl v, .inl d, .inl w, u6, u7] [] σ = some (some (.inl (-1)), noX σ (-1)) := by
    rw [b_X4_bestLeans_48, K_refuse hx (by decide) (by decide)]
    simp only [Option.bind_some, Option.toList_some, Option.toList_none, List.cons_append, List.nil_append, List.append_nil]
    rw [b_X4_bestLeans_53]
  by_cases h1 : isT R t ∧ isT R s ∧ isT R v ∧ t ≠ s ∧ t ≠ v ∧ s ≠ v
  · obtain ⟨ht, hs, hv, n1, n2, n3⟩ := h1
    have start : Rx k_X4_bestLeans 0 [.inr (.inl (0, 0)), .inl t, .inl s, .inl v, .inl d, .inl w, u6, u7] [] σ = if -(wbyF d 20) = 0 then Rx k_X4_bestLeans 76 [.inr (.inl (0, 0)), .inl t, .inl s, .inl v, .inl d, .inl w, .inl (-(wbyF d 20)), u7] [] σ else Rx k_X4_bestLeans 69 [.inr (.inl (0, 0)), .inl t, .inl s, .inl v, .inl d, .inl w, .inl (-(wbyF d 20)), u7] [] σ := by
      rw [b_X4_bestLeans_0, K_isThing h.2 hb, if_pos ht]
      simp only [Option.bind_some, Option.toList_some, Option.toList_none, List.cons_append, List.nil_append, List.append_nil]
      rw [b_X4_bestLeans_8, if_neg (by decide), b_X4_bestLeans_11, K_isThing h.2 hb, if_pos hs]
      simp only [Option.bind_some, Option.toList_some, Option.toList_none, List.cons_append, List.nil_append, List.append_nil]
      rw [b_X4_bestLeans_19, if_neg (by decide), b_X4_bestLeans_22, K_isThing h.2 hb, if_pos hv]
      simp only [Option.bind_some, Option.toList_some, Option.toList_none, List.cons_append, List.nil_append, List.append_nil]
      rw [b_X4_bestLeans_30, if_neg (by decide), b_X4_bestLeans_33, if_neg n1, b_X4_bestLeans_38, if_neg n2, b_X4_bestLeans_43, if_neg n3, b_X4_bestLeans_54, K_outside]
      simp only [Option.bind_some, Option.toList_some, Option.toList_none, List.cons_append, List.nil_append, List.append_nil]
      rw [b_X4_bestLeans_62]
    rw [if_pos ⟨ht, hs, hv, n1, n2, n3⟩]
    by_cases h2 : wbyF d 20 = 0
    · have st2 : Rx k_X4_bestLeans 0 [.inr (.inl (0, 0)), .inl t, .inl s, .inl v, .inl d, .inl w, u6, u7] [] σ = Rx k_X4_bestLeans 81 [.inr (.inl (0, 0)), .inl t, .inl s, .inl v, .inl d, .inl w, .inl (-(wbyF d 20)), u7] [.inl (if 0 ≤ w ∧ w ≤ 1 then 0 else 1)] σ := by
        rw [start, if_pos (by omega), b_X4_bestLeans_76, K_isNeither]
        simp only [Option.bind_some, Option.toList_some, Option.toList_none, List.cons_append, List.nil_append, List.append_nil]
      rw [if_pos h2]
      by_cases h3 : 0 ≤ w ∧ w ≤ 1
      · obtain ⟨σ1, s1, f1⟩ := K_bestOfThree h hd ht hs hv (d := d) (by omega) (by omega) uns uns uns uns uns uns uns
        have sq := sq_bd hb2.1 hb2.2.1
        have hok := blaG_ok hb t s v d (R 0 * R 0 * R 0).toNat 0 (-9) (-1) (Int.le_refl 0) (by omega) (Or.inl rfl)
        rw [if_pos h3]
        unfold blaA pk
        generalize blaG R t s v d (R 0 * R 0 * R 0).toNat 0 (-9) (-1) = z at hok s1 ⊢
        have st3 : Rx k_X4_bestLeans 0 [.inr (.inl (0, 0)), .inl t, .inl s, .inl v, .inl d, .inl w, u6, u7] [] σ = if w = 0 then Rx k_X4_bestLeans 116 [.inr (.inl (0, 0)), .inl t, .inl s, .inl v, .inl d, .inl w, .inl (-(wbyF d 20)), .inl z.1] [] σ1 else Rx k_X4_bestLeans 109 [.inr (.inl (0, 0)), .inl t, .inl s, .inl v, .inl d, .inl w, .inl (-(wbyF d 20)), .inl z.1] [] σ1 := by
          rw [st2, if_pos h3, b_X4_bestLeans_81, if_pos rfl, b_X4_bestLeans_90, s1]
          simp only [Option.bind_some, Option.toList_some, Option.toList_none, List.cons_append, List.nil_append, List.append_nil]
          rw [b_X4_bestLeans_102]
        by_cases e : w = 0
        · refine XQ_ok f1.xs ?_
          rw [st3, if_pos e, b_X4_bestLeans_116, if_pos (Or.inr e)]
        · rcases hok with k | ⟨i, j, l, hi, hj, hl, e1, e2⟩
          · refine XQ_ok f1.xs ?_
            rw [st3, if_neg e, b_X4_bestLeans_109, if_pos k, b_X4_bestLeans_116, if_pos (Or.inl (by omega))]
          · obtain ⟨d1, d2, d3, d4⟩ := dec3 (show 0 ≤ i ∧ i < 5 by have := hi.1; have := hi.2; omega) (show 0 ≤ j ∧ j < 5 by have := hj.1; have := hj.2; omega) (show 0 ≤ l ∧ l < 5 by have := hl.1; have := hl.2; omega)
            have p1 := hi.1
            have p2 := hj.1
            have p3 := hl.1
            rw [← e1] at d1 d2 d3 d4
            obtain ⟨σ2, s2, f2⟩ := K_standingLeant (h.fr f1 (by decide)) hd ht hs hv hi hj hl (d := d) (by omega) (by omega) d1 d2 d3 d4
            refine XQ_ok (f1.trans f2).xs ?_
            rw [st3, if_neg e, b_X4_bestLeans_109, if_neg (show ¬ z.1 = -9 by omega), b_X4_bestLeans_119, s2, if_neg (show ¬ (z.1 < 0 ∨ w = 0) by omega), e2]
            simp only [Option.bind_some, Option.toList_some, Option.toList_none, List.cons_append, List.nil_append, List.append_nil]
            rw [b_X4_bestLeans_133]
      · rw [if_neg h3]
        refine XQ_no (by decide) ?_
        rw [st2, if_neg h3, b_X4_bestLeans_81, if_neg (by decide), b_X4_bestLeans_84, K_refuse hx (by decide) (by decide)]
        simp only [Option.bind_some, Option.toList_some, Option.toList_none, List.cons_append, List.nil_append, List.append_nil]
        rw [b_X4_bestLeans_89]
    · rw [if_neg h2]
      refine XQ_no h2 ?_
      rw [start, if_neg (by omega), b_X4_bestLeans_69, K_refuse hx (by omega) (by omega), Int.neg_neg]
      simp only [Option.bind_some, Option.toList_some, Option.toList_none, List.cons_append, List.nil_append, List.append_nil]
      rw [b_X4_bestLeans_75]
  · rw [if_neg h1]
    refine XQ_no (by decide) ?_
    rw [b_X4_bestLeans_0, K_isThing h.2 hb]
    simp only [Option.bind_some, Option.toList_some, Option.toList_none, List.cons_append, List.nil_append, List.append_nil]
    rw [b_X4_bestLeans_8]
    by_cases ht : isT R t
    · rw [if_pos ht, if_neg (by decide), b_X4_bestLeans_11, K_isThing h.2 hb]
      simp only [Option.bind_some, Option.toList_some, Option.toList_none, List.cons_append, List.nil_append, List.append_nil]
      rw [b_X4_bestLeans_19]
      by_cases hs : isT R s
      · rw [if_pos hs, if_neg (by decide), b_X4_bestLeans_22, K_isThing h.2 hb]
        simp only [Option.bind_some, Option.toList_some, Option.toList_none, List.cons_append, List.nil_append, List.append_nil]
        rw [b_X4_bestLeans_30]
        by_cases hv : isT R v
        · rw [if_pos hv, if_neg (by decide), b_X4_bestLeans_33]
          by_cases n1 : t = s
          · rw [if_pos n1, no48]
          · rw [if_neg n1, b_X4_bestLeans_38]
            by_cases n2 : t = v
            · rw [if_pos n2, no48]
            · rw [if_neg n2, b_X4_bestLeans_43]
              by_cases n3 : s = v
              · rw [if_pos n3, no48]
              · exact absurd ⟨ht, hs, hv, n1, n2, n3⟩ h1
        · rw [if_neg hv, if_pos rfl, no48]
      · rw [if_neg hs, if_pos rfl, no48]
    · rw [if_neg ht, if_pos rfl, no48]
theorem N_two (t s d : Int) (σ : St) (R : Rw) (h : RK σ 0 R) (hd : Dk R) (hx : Xok σ) (u : AV) : XQ (fun z => Rx k_X4_two 0 [.inr (.inl (0, 0)), .inl t, .inl s, .inl d, u] [] σ = some z) σ (twoB R t s d) (twoA R t s d) := by
  have hb := h.1.1
  have hw := wby_c d 99
  unfold twoB
  have no27 : Rx k_X4_two 27 [.inr (.inl (0, 0)), .inl t, .inl s, .inl d, u] [] σ = some (some (.inl (-1)), noX σ (-1)) := by
    rw [b_X4_two_27, K_refuse hx (by decide) (by decide)]
    simp only [Option.bind_some, Option.toList_some, Option.toList_none, List.cons_append, List.nil_append, List.append_nil]
    rw [b_X4_two_32]
  by_cases h1 : isT R t ∧ isT R s ∧ t ≠ s
  · obtain ⟨ht, hs, n1⟩ := h1
    have start : Rx k_X4_two 0 [.inr (.inl (0, 0)), .inl t, .inl s, .inl d, u] [] σ = if -(wbyF d 99) = 0 then Rx k_X4_two 56 [.inr (.inl (0, 0)), .inl t, .inl s, .inl d, .inl (-(wbyF d 99))] [] σ else Rx k_X4_two 47 [.inr (.inl (0, 0)), .inl t, .inl s, .inl d, .inl (-(wbyF d 99))] [] σ := by
      rw [b_X4_two_0, K_isThing h.2 hb, if_pos ht]
      simp only [Option.bind_some, Option.toList_some, Option.toList_none, List.cons_append, List.nil_append, List.append_nil]
      rw [b_X4_two_8, if_neg (by decide), b_X4_two_11, K_isThing h.2 hb, if_pos hs]
      simp only [Option.bind_some, Option.toList_some, Option.toList_none, List.cons_append, List.nil_append, List.append_nil]
      rw [b_X4_two_19, if_neg (by decide), b_X4_two_22, if_neg n1, b_X4_two_33, K_outside]
      simp only [Option.bind_some, Option.toList_some, Option.toList_none, List.cons_append, List.nil_append, List.append_nil]
      rw [b_X4_two_40]
    rw [if_pos ⟨ht, hs, n1⟩]
    by_cases h2 : wbyF d 99 = 0
    · obtain ⟨σ1, s1, f1⟩ := K_settled h hd ht hs (d := d) (by omega) (by omega) uns
      rw [h2]
      refine XQ_ok f1 ?_
      rw [start, if_pos (by omega), b_X4_two_56, s1]
      simp only [Option.bind_some, Option.toList_some, Option.toList_none, List.cons_append, List.nil_append, List.append_nil]
      rw [b_X4_two_66]
    · refine XQ_no h2 ?_
      rw [start, if_neg (by omega), b_X4_two_47, K_refuse hx (by omega) (by omega), Int.neg_neg]
      simp only [Option.bind_some, Option.toList_some, Option.toList_none, List.cons_append, List.nil_append, List.append_nil]
      rw [b_X4_two_53]
  · rw [if_neg h1]
    refine XQ_no (by decide) ?_
    rw [b_X4_two_0, K_isThing h.2 hb]
    simp only [Option.bind_some, Option.toList_some, Option.toList_none, List.cons_append, List.nil_append, List.append_nil]
    rw [b_X4_two_8]
    by_cases ht : isT R t
    · rw [if_pos ht, if_neg (by decide), b_X4_two_11, K_isThing h.2 hb]
      simp only [Option.bind_some, Option.toList_some, Option.toList_none, List.cons_append, List.nil_append, List.append_nil]
      rw [b_X4_two_19]
      by_cases hs : isT R s
      · rw [if_pos hs, if_neg (by decide), b_X4_two_22]
        by_cases n1 : t = s
        · rw [if_pos n1, no27]
        · exact absurd ⟨ht, hs, n1⟩ h1
      · rw [if_neg hs, if_pos rfl, no27]
    · rw [if_neg ht, if_pos rfl, no27]
theorem K_offDraught {σ : St} {R : Rw} (h : RK σ 0 R) (t d n w : Int) : Rx k_X4_offDraught 0 [.inr (.inl (0, 0)), .inl t, .inl d, .inl n, .inl w] [] σ = some (some (.inl (-(draB R t d n w))), σ) := by
  unfold draB
  rw [b_X4_offDraught_0, K_isThing h.2 h.1.1]
  simp only [Option.bind_some, Option.toList_some, Option.toList_none, List.cons_append, List.nil_append, List.append_nil]
  rw [b_X4_offDraught_8]
  by_cases h1 : isT R t
  · rw [if_pos h1, if_pos h1, if_neg (show ¬ (1 : Int) = 0 by decide), b_X4_offDraught_13]
    by_cases h2 : d < 0 ∨ n < 2
    · rw [if_pos h2]
      by_cases e : d < 0
      · rw [if_pos e, b_X4_offDraught_22]; rfl
      · rw [if_neg e, b_X4_offDraught_17, if_pos (by omega), b_X4_offDraught_22]; rfl
    · rw [if_neg h2, if_neg (show ¬ d < 0 by omega), b_X4_offDraught_17, if_neg (show ¬ n < 2 by omega), b_X4_offDraught_24]
      by_cases h3 : 7 < d ∨ 20 < n
      · rw [if_pos h3]
        by_cases e : 7 < d
        · rw [if_pos e, b_X4_offDraught_36]; rfl
        · rw [if_neg e, b_X4_offDraught_30, if_pos (by omega), b_X4_offDraught_36]; rfl
      · rw [if_neg h3, if_neg (show ¬ 7 < d by omega), b_X4_offDraught_30, if_neg (show ¬ 20 < n by omega), b_X4_offDraught_39, K_isNeither]
        simp only [Option.bind_some, Option.toList_some, Option.toList_none, List.cons_append, List.nil_append, List.append_nil]
        rw [b_X4_offDraught_44]
        by_cases h4 : 0 ≤ w ∧ w ≤ 1
        · rw [if_pos h4, if_pos h4, if_pos rfl, b_X4_offDraught_51]; rfl
        · rw [if_neg h4, if_neg h4, if_neg (show ¬ (1 : Int) = 0 by decide), b_X4_offDraught_47]; rfl
  · rw [if_neg h1, if_neg h1, if_pos rfl, b_X4_offDraught_11]; rfl
theorem N_draught (t d n w : Int) (σ : St) (R : Rw) (h : RK σ 0 R) (hd : Dk R) (hx : Xok σ) (u5 u6 u7 u8 u9 u10 u11 : AV) : ∃ σ', XS (if draB R t d n w = 0 then σ else noX σ (draB R t d n w)) σ' ∧ Rx k_X4_draught 0 [.inr (.inl (0, 0)), .inl t, .inl d, .inl n, .inl w, u5, u6, u7, u8, u9, u10, u11] [] σ = some (some (.inr (.inr (if draB R t d n w = 0 then draA R t d n w else 4000000000000000000 - draB R t d n w))), σ') := by
  have start : Rx k_X4_draught 0 [.inr (.inl (0, 0)), .inl t, .inl d, .inl n, .inl w, u5, u6, u7, u8, u9, u10, u11] [] σ = if -(draB R t d n w) = 0 then Rx k_X4_draught 28 [.inr (.inl (0, 0)), .inl t, .inl d, .inl n, .inl w, .inl (-(draB R t d n w)), u6, u7, u8, u9, u10, u11] [] σ else Rx k_X4_draught 16 [.inr (.inl (0, 0)), .inl t, .inl d, .inl n, .inl w, .inl (-(draB R t d n w)), u6, u7, u8, u9, u10, u11] [] σ := by
    rw [b_X4_draught_0, K_offDraught h]
    simp only [Option.bind_some, Option.toList_some, Option.toList_none, List.cons_append, List.nil_append, List.append_nil]
    rw [b_X4_draught_9]
  have hc : (draB R t d n w = 0 ∧ isT R t ∧ 0 ≤ d ∧ d ≤ 7 ∧ 2 ≤ n ∧ n ≤ 20 ∧ 0 ≤ w ∧ w ≤ 1) ∨ (-6 ≤ draB R t d n w ∧ draB R t d n w < 0) := by
    unfold draB
    by_cases h1 : isT R t
    · rw [if_pos h1]
      by_cases h2 : d < 0 ∨ n < 2
      · rw [if_pos h2]; right; decide
      · rw [if_neg h2]
        by_cases h3 : 7 < d ∨ 20 < n
        · rw [if_pos h3]; right; decide
        · rw [if_neg h3]
          by_cases h4 : 0 ≤ w ∧ w ≤ 1
          · rw [if_pos h4]; left; exact ⟨rfl, h1, by omega, by omega, by omega, by omega, h4.1, h4.2⟩
          · rw [if_neg h4]; right; decide
    · rw [if_neg h1]; right; decide
  rw [start]
  rcases hc with ⟨e, ht, d0, d1, n0, n1, w0, w1⟩ | e
  · rw [e, if_pos (show (0 : Int) = 0 from rfl), if_pos (show (0 : Int) = 0 from rfl), if_pos (show -(0 : Int) = 0 from rfl)]
    obtain ⟨D, rfl⟩ := Int.eq_ofNat_of_zero_le d0
    obtain ⟨N, rfl⟩ := Int.eq_ofNat_of_zero_le (show 0 ≤ n by omega)
    obtain ⟨σ1, s1, f1⟩ := K_waysUp h hd ht D N (by omega) (by omega) uns uns uns
    refine ⟨σ1, f1.xs, ?_⟩
    have n7 : N ^ D ≤ 20 ^ D := Nat.pow_le_pow_left (by omega) _
    have q7 : 20 ^ D ≤ 20 ^ 7 := Nat.pow_le_pow_right (by decide) (by omega)
    have f7 : (20 : Nat) ^ 7 = 1280000000 := by decide
    have hpos : 0 < N ^ D := Nat.pow_pos (by omega)
    have hbd := draO_bd R D N t (by omega) (2 ^ D) 0 0
    have p7 : 2 ^ D ≤ 2 ^ 7 := Nat.pow_le_pow_right (by decide) (by omega)
    have m7 : 2 ^ D * 20 ^ D ≤ 2 ^ 7 * 20 ^ 7 := Nat.mul_le_mul p7 q7
    have e7 : (2 : Nat) ^ 7 * 20 ^ 7 = 163840000000 := by decide
    rw [b_X4_draught_28, s1]
    simp only [Option.bind_some, Option.toList_some, Option.toList_none, List.cons_append, List.nil_append, List.append_nil]
    rw [b_X4_draught_38, K_power N D (by omega) (by omega)]
    simp only [Option.bind_some, Option.toList_some, Option.toList_none, List.cons_append, List.nil_append, List.append_nil]
    rw [b_X4_draught_45]
    unfold draA partF
    rw [Int.toNat_natCast, Int.toNat_natCast]
    generalize draO R D N t (2 ^ D) 0 0 = A at hbd ⊢
    generalize N ^ D = Bl at n7 hpos ⊢
    have hg : 0 < Nat.gcd A Bl := Nat.gcd_pos_of_pos_right _ hpos
    rw [K_comm A Bl (Nat.lt_of_le_of_lt n7 (by omega))]
    simp only [Option.bind_some, Option.toList_some, Option.toList_none, List.cons_append, List.nil_append, List.append_nil]
    rw [b_X4_draught_54, if_neg (by
      by_cases g1 : (1 : Int) < (Nat.gcd A Bl : Nat)
      · rw [if_pos g1]; decide
      · rw [if_neg g1, if_pos (by omega)]; decide), b_X4_draught_67]
    have ea : ((A : Nat) : Int).tdiv (Nat.gcd A Bl : Nat) = ((A / Nat.gcd A Bl : Nat) : Int) := rfl
    have eb : ((Bl : Nat) : Int).tdiv (Nat.gcd A Bl : Nat) = ((Bl / Nat.gcd A Bl : Nat) : Int) := rfl
    have la := Nat.div_le_self A (Nat.gcd A Bl)
    have lb := Nat.div_le_self Bl (Nat.gcd A Bl)
    generalize hqa : A / Nat.gcd A Bl = qa at ea la ⊢
    generalize hqb : Bl / Nat.gcd A Bl = qb at eb lb ⊢
    by_cases hw : w = 0
    · rw [if_pos hw, b_X4_draught_72 (h0 := by omega) (g0a := by rw [ea]; omega) (g0b := by rw [ea]; omega), ea, if_pos hw, hqa]
      by_cases ha : A = 0
      · rw [if_pos ha, hw, ← hqa, ha, Nat.zero_div]
        rfl
      · rw [if_neg ha]
    · rw [if_neg hw, b_X4_draught_80 (h0 := by omega) (g0a := by rw [eb]; omega) (g0b := by rw [eb]; omega), eb, if_neg hw, hqb]
      by_cases ha : A = 0
      · rw [if_pos ha, ← hqb, ha, Nat.gcd_zero_left, Nat.div_self hpos, show w = 1 by omega]
        rfl
      · rw [if_neg ha]
  · rw [if_neg (show ¬ draB R t d n w = 0 by omega), if_neg (show ¬ draB R t d n w = 0 by omega), if_neg (show ¬ -(draB R t d n w) = 0 by omega)]
    refine ⟨_, XS.refl _, ?_⟩
    rw [b_X4_draught_16, K_refuse hx (by omega) (by omega), Int.neg_neg]
    simp only [Option.bind_some, Option.toList_some, Option.toList_none, List.cons_append, List.nil_append, List.append_nil]
    rw [(b_X4_draught_25 (g0a := by omega) (g0b := by omega))]
theorem K_outsideG (v a b : Int) (σ : St) : Rx k_X4_outside 0 [.inl v, .inl a, .inl b] [] σ = some (some (.inl (if v < a then 4 else if b < v then 6 else 0)), σ) := by
  rw [b_X4_outside_0]
  by_cases h1 : v < a
  · rw [if_pos h1, b_X4_outside_5, if_pos h1]
  · rw [if_neg h1, b_X4_outside_7, if_neg h1]
    by_cases h2 : b < v
    · rw [if_pos h2, b_X4_outside_12, if_pos h2]
    · rw [if_neg h2, b_X4_outside_17, if_neg h2]
theorem N_lots (N s w : Int) (σ : St) (R : Rw) (h : RK σ 0 R) (hd : Dk R) (hx : Xok σ) (u : AV) : XQ (fun z => Rx k_X4_lots 0 [.inr (.inl (0, 0)), .inl N, .inl s, .inl w, u] [] σ = some z) σ (lotB R N w) (lotA R N s w) := by
  have hb := h.1.1
  unfold Iv0 at hb
  have start : ∀ o : Int, o = (if N < 1 then 4 else if 20 < N then 6 else 0) → Rx k_X4_lots 0 [.inr (.inl (0, 0)), .inl N, .inl s, .inl w, u] [] σ = if o = 0 then Rx k_X4_lots 21 [.inr (.inl (0, 0)), .inl N, .inl s, .inl w, .inl o] [] σ else Rx k_X4_lots 14 [.inr (.inl (0, 0)), .inl N, .inl s, .inl w, .inl o] [] σ := by
    intro o ho
    rw [b_X4_lots_0, K_outsideG, ← ho]
    simp only [Option.bind_some, Option.toList_some, Option.toList_none, List.cons_append, List.nil_append, List.append_nil]
    rw [b_X4_lots_7]
  have no : ∀ o : Int, 0 ≤ o → o ≤ 6 → Rx k_X4_lots 14 [.inr (.inl (0, 0)), .inl N, .inl s, .inl w, .inl o] [] σ = some (some (.inl (-o)), noX σ (-o)) := by
    intro o a b
    rw [b_X4_lots_14, K_refuse hx a b]
    simp only [Option.bind_some, Option.toList_some, Option.toList_none, List.cons_append, List.nil_append, List.append_nil]
    rw [b_X4_lots_20]
  unfold lotB
  by_cases h1 : N < 1
  · rw [if_pos h1]
    refine XQ_no (by decide) ?_
    rw [start 4 (by rw [if_pos h1]), if_neg (by decide), no 4 (by decide) (by decide)]
  · rw [if_neg h1]
    by_cases h2 : 20 < N
    · rw [if_pos h2]
      refine XQ_no (by decide) ?_
      rw [start 6 (by rw [if_neg h1, if_pos h2]), if_neg (by decide), no 6 (by decide) (by decide)]
    · have st2 : Rx k_X4_lots 0 [.inr (.inl (0, 0)), .inl N, .inl s, .inl w, u] [] σ = Rx k_X4_lots 25 [.inr (.inl (0, 0)), .inl N, .inl s, .inl w, .inl 0] [.inl (if 0 ≤ w ∧ w ≤ 1 then 0 else 1)] σ := by
        rw [start 0 (by rw [if_neg h1, if_neg h2]), if_pos rfl, b_X4_lots_21, K_isNeither]
        simp only [Option.bind_some, Option.toList_some, Option.toList_none, List.cons_append, List.nil_append, List.append_nil]
      rw [if_neg h2]
      by_cases h3 : 0 ≤ w ∧ w ≤ 1
      · rw [if_pos h3]
        have st3 : Rx k_X4_lots 0 [.inr (.inl (0, 0)), .inl N, .inl s, .inl w, u] [] σ = if R 0 < 1 then Rx k_X4_lots 45 [.inr (.inl (0, 0)), .inl N, .inl s, .inl w, .inl 0] [] σ else Rx k_X4_lots 51 [.inr (.inl (0, 0)), .inl N, .inl s, .inl w, .inl 0] [] σ := by
          rw [st2, if_pos h3, b_X4_lots_25, if_pos rfl, b_X4_lots_34, h.2.1.1]
        by_cases h4 : R 0 = 0
        · rw [if_pos h4]
          refine XQ_no (by decide) ?_
          rw [st3, if_pos (by omega), b_X4_lots_45, K_refuse hx (by decide) (by decide)]
          simp only [Option.bind_some, Option.toList_some, Option.toList_none, List.cons_append, List.nil_append, List.append_nil]
          rw [b_X4_lots_50]
        · rw [if_neg h4]
          obtain ⟨σ1, s1, f1⟩ := K_termsByLot h hd (by omega) (N := N) (z := s) (w := w) (by omega) (by omega) uns uns uns uns
          refine XQ_ok f1.xs ?_
          rw [st3, if_neg (by omega), b_X4_lots_51, s1]
          simp only [Option.bind_some, Option.toList_some, Option.toList_none, List.cons_append, List.nil_append, List.append_nil]
          rw [b_X4_lots_61]
      · rw [if_neg h3]
        refine XQ_no (by decide) ?_
        rw [st2, if_neg h3, b_X4_lots_25, if_neg (by decide), b_X4_lots_28, K_refuse hx (by decide) (by decide)]
        simp only [Option.bind_some, Option.toList_some, Option.toList_none, List.cons_append, List.nil_append, List.append_nil]
        rw [b_X4_lots_33]
