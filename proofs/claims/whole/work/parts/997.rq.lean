/-! the class's refusals and questions -/
/-- the counts of refusals are far from their end -/
def Xok (σ : St) : Prop := ∀ k : Nat, k < 7 → 0 ≤ σ 6 0 k ∧ σ 6 0 k < 2147483600
def noX (σ : St) (c : Int) : St := up σ 6 0 (-c).toNat (σ 6 0 (-c).toNat + 1)
theorem K_refuse {σ : St} (h : Xok σ) {n : Int} (h0 : 0 ≤ n) (h1 : n ≤ 6) : Rx k_X4_refuse 0 [.inr (.inl (0, 0)), .inl n] [] σ = some (some (.inl (-n)), noX σ (-n)) := by
  have k := h n.toNat (by omega)
  rw [b_X4_refuse_0, if_neg (show ¬ n < 0 by omega), b_X4_refuse_4, if_pos (show n < 7 by omega), (b_X4_refuse_13 (h0 := by omega) (h1 := by omega) (g0a := by omega) (g0b := by omega) (g1a := by omega) (g1b := by omega))]
  unfold noX
  rw [Int.neg_neg]
theorem K_outside (v b : Int) (σ : St) : Rx k_X4_outside 0 [.inl v, .inl 0, .inl b] [] σ = some (some (.inl (-(wbyF v b))), σ) := by
  unfold wbyF
  rw [b_X4_outside_0]
  by_cases h1 : v < 0
  · rw [if_pos h1, b_X4_outside_5, if_pos h1]; rfl
  · rw [if_neg h1, b_X4_outside_7, if_neg h1]
    by_cases h2 : b < v
    · rw [if_pos h2, b_X4_outside_12, if_pos h2]; rfl
    · rw [if_neg h2, b_X4_outside_17, if_neg h2]; rfl
theorem K_isNeither (w : Int) (σ : St) : Rx k_X4_isNeither 0 [.inl w] [] σ = some (some (.inl (if 0 ≤ w ∧ w ≤ 1 then 0 else 1)), σ) := by
  rw [b_X4_isNeither_0]
  by_cases h1 : w = 0
  · rw [if_pos h1, b_X4_isNeither_13, if_pos (show 0 ≤ w ∧ w ≤ 1 by omega)]
  · rw [if_neg h1, b_X4_isNeither_4]
    by_cases h2 : w = 1
    · rw [if_pos h2, b_X4_isNeither_13, if_pos (show 0 ≤ w ∧ w ≤ 1 by omega)]
    · rw [if_neg h2, b_X4_isNeither_9, if_neg (show ¬ (0 ≤ w ∧ w ≤ 1) by omega)]
theorem K_offUp {σ : St} {R : Rw} (h : RK σ 0 R) (t : Int) : Rx k_X4_offUpThing 0 [.inr (.inl (0, 0)), .inl t] [] σ = some (some (.inl (-(wupF R t))), σ) := by
  unfold wupF
  rw [b_X4_offUpThing_0, K_isThing h.2 h.1.1]
  simp only [Option.bind_some, Option.toList_some, Option.toList_none, List.cons_append, List.nil_append, List.append_nil]
  rw [b_X4_offUpThing_8]
  by_cases h1 : isT R t
  · rw [if_pos h1, if_neg (by decide), b_X4_offUpThing_13, K_isUp h.2 h.1.1, if_pos h1]
    simp only [Option.bind_some, Option.toList_some, Option.toList_none, List.cons_append, List.nil_append, List.append_nil]
    rw [b_X4_offUpThing_21]
    by_cases h2 : uq R t = 1
    · rw [if_pos (show isT R t ∧ uq R t = 1 from ⟨h1, h2⟩), if_neg (by decide), b_X4_offUpThing_24, if_pos h2]; rfl
    · rw [if_neg (show ¬ (isT R t ∧ uq R t = 1) from fun z => h2 z.2), if_pos rfl, b_X4_offUpThing_28, if_neg h2]; rfl
  · rw [if_neg h1, if_pos rfl, b_X4_offUpThing_11, if_neg h1]; rfl
/-- a question: refused with B when B is not 0, else answered A -/
def XQ (v : Option AV × St → Prop) (σ : St) (B A : Int) : Prop := ∃ σ', XS (if B = 0 then σ else noX σ B) σ' ∧ v (some (.inl (if B = 0 then A else B)), σ')
theorem XQ_no {v : Option AV × St → Prop} {σ : St} {B A : Int} (h : B ≠ 0) (k : v (some (.inl B), noX σ B)) : XQ v σ B A := ⟨noX σ B, by rw [if_neg h]; exact XS.refl _, by rw [if_neg h]; exact k⟩
theorem XQ_ok {v : Option AV × St → Prop} {σ σ' : St} {A : Int} (h : XS σ σ') (k : v (some (.inl A), σ')) : XQ v σ 0 A := ⟨σ', by rw [if_pos rfl]; exact h, by rw [if_pos rfl]; exact k⟩
theorem N_at (c : Int) (σ : St) (R : Rw) (h : RK σ 0 R) (hx : Xok σ) : XQ (fun z => Rx k_X4_at 0 [.inr (.inl (0, 0)), .inl c] [] σ = some z) σ (atB c) (whoF R c) := by
  unfold atB
  by_cases h1 : 0 ≤ c ∧ c ≤ 19
  · rw [if_pos h1]
    refine XQ_ok (XS.refl σ) ?_
    rw [b_X4_at_0, K_isPlace, if_pos h1]
    simp only [Option.bind_some, Option.toList_some, Option.toList_none, List.cons_append, List.nil_append, List.append_nil]
    rw [b_X4_at_4, if_neg (by decide), (b_X4_at_13 (h0 := by omega) (h1 := by omega)), h.2.2.2.2 c (by omega) (by omega)]
  · rw [if_neg h1]
    refine XQ_no (by decide) ?_
    rw [b_X4_at_0, K_isPlace, if_neg h1]
    simp only [Option.bind_some, Option.toList_some, Option.toList_none, List.cons_append, List.nil_append, List.append_nil]
    rw [b_X4_at_4, if_pos rfl, b_X4_at_7, K_refuse hx (by decide) (by decide)]
    simp only [Option.bind_some, Option.toList_some, Option.toList_none, List.cons_append, List.nil_append, List.append_nil]
    rw [b_X4_at_12]
theorem N_spare (p : Int) (σ : St) (R : Rw) (h : RK σ 0 R) (hx : Xok σ) : Rx k_X4_spare 0 [.inr (.inl (0, 0)), .inl p] [] σ = some (some (.inl (if pB R p = 0 then spareF R p else 1000000001)), if pB R p = 0 then σ else noX σ (-1)) := by
  unfold pB
  rw [b_X4_spare_0, K_isPurpose h.2 h.1.1]
  simp only [Option.bind_some, Option.toList_some, Option.toList_none, List.cons_append, List.nil_append, List.append_nil]
  rw [b_X4_spare_8]
  by_cases h1 : isP R p
  · rw [if_pos h1, if_neg (by decide), b_X4_spare_20, K_spareOf h, if_pos h1]
    simp only [Option.bind_some, Option.toList_some, Option.toList_none, List.cons_append, List.nil_append, List.append_nil]
    rw [b_X4_spare_28, if_pos h1]
    rfl
  · rw [if_neg h1, if_pos rfl, b_X4_spare_11, K_refuse hx (by decide) (by decide)]
    simp only [Option.bind_some, Option.toList_some, Option.toList_none, List.cons_append, List.nil_append, List.append_nil]
    rw [(b_X4_spare_18 (g0a := by omega) (g0b := by omega)), if_neg h1]
    rfl
theorem K_lessNext {σ : St} {R : Rw} (h : RK σ 0 R) (hd : Dk R) {p : Int} (hp : isP R p) (u : AV) : Rx k_X4_lessNextDay 0 [.inr (.inl (0, 0)), .inl p, u] [] σ = some (some (.inl (lessF R p (R 2 + 1))), σ) := by
  have hb := h.1.1
  unfold Iv0 at hb
  have hP := h.1.2.1 p hp.1 (by have := hp.2; omega)
  obtain ⟨a1, a2, a3, a4⟩ := h.2.2.1 p hp.1 (by have := hp.2; omega)
  have e2 := h.2.1.2.2.1
  rw [b_X4_lessNextDay_0, K_isPurpose h.2 h.1.1, if_pos hp]
  simp only [Option.bind_some, Option.toList_some, Option.toList_none, List.cons_append, List.nil_append, List.append_nil]
  rw [b_X4_lessNextDay_8, if_neg (by decide), b_X4_lessNextDay_13 (h0 := by have := hp.1; omega) (h1 := by have := hp.2; omega) (g0a := by rw [e2]; have := hd.1; omega) (g0b := by rw [e2]; have := hd.2; omega), a1, a2, a3, a4, e2, K_by _ _ _ _ _ (by omega)]
  simp only [Option.bind_some, Option.toList_some, Option.toList_none, List.cons_append, List.nil_append, List.append_nil]
  rw [b_X4_lessNextDay_63]
  rfl
theorem N_purpose (p w : Int) (σ : St) (R : Rw) (h : RK σ 0 R) (hd : Dk R) (hx : Xok σ) : XQ (fun z => Rx k_X4_purpose 0 [.inr (.inl (0, 0)), .inl p, .inl w] [] σ = some z) σ (purpB R p w) (purpA R p w) := by
  have hb := h.1.1
  unfold Iv0 at hb
  unfold purpB
  by_cases h1 : isP R p
  · have start : Rx k_X4_purpose 0 [.inr (.inl (0, 0)), .inl p, .inl w] [] σ = Rx k_X4_purpose 17 [.inr (.inl (0, 0)), .inl p, .inl w] [] σ := by
      rw [b_X4_purpose_0, K_isPurpose h.2 h.1.1, if_pos h1]
      simp only [Option.bind_some, Option.toList_some, Option.toList_none, List.cons_append, List.nil_append, List.append_nil]
      rw [b_X4_purpose_8, if_neg (by decide)]
    obtain ⟨a1, a2, a3, a4⟩ := h.2.2.1 p h1.1 (by have := h1.2; omega)
    have g0 : 0 ≤ p := h1.1
    have g1 : p < 5 := by have := h1.2; omega
    rw [if_pos h1]
    by_cases h2 : 0 ≤ w ∧ w ≤ 4
    · rw [if_pos h2]
      refine XQ_ok (XS.refl σ) ?_
      rw [start, b_X4_purpose_17]
      unfold purpA
      by_cases e0 : w = 0
      · rw [if_pos e0, if_pos e0, (b_X4_purpose_52 (h0 := by omega) (h1 := by omega)), a1]
      rw [if_neg e0, if_neg e0]
      by_cases e1 : w = 1
      · rw [if_pos e1, if_pos e1, (b_X4_purpose_62 (h0 := by omega) (h1 := by omega)), a2]
      rw [if_neg e1, if_neg e1]
      by_cases e2 : w = 2
      · rw [if_pos e2, if_pos e2, (b_X4_purpose_72 (h0 := by omega) (h1 := by omega)), a3]
      rw [if_neg e2, if_neg e2]
      by_cases e3 : w = 3
      · rw [if_pos e3, if_pos e3, (b_X4_purpose_82 (h0 := by omega) (h1 := by omega)), a4]
      rw [if_neg e3, if_neg e3, if_pos (show w = 4 by omega), b_X4_purpose_92, K_lessNext h hd h1]
      simp only [Option.bind_some, Option.toList_some, Option.toList_none, List.cons_append, List.nil_append, List.append_nil]
      rw [b_X4_purpose_97]
    · rw [if_neg h2]
      refine XQ_no (by decide) ?_
      rw [start, b_X4_purpose_17, if_neg (show ¬ w = 0 by omega), if_neg (show ¬ w = 1 by omega), if_neg (show ¬ w = 2 by omega), if_neg (show ¬ w = 3 by omega), if_neg (show ¬ w = 4 by omega), b_X4_purpose_98, K_refuse hx (by decide) (by decide)]
      simp only [Option.bind_some, Option.toList_some, Option.toList_none, List.cons_append, List.nil_append, List.append_nil]
      rw [b_X4_purpose_103]
  · rw [if_neg h1]
    refine XQ_no (by decide) ?_
    rw [b_X4_purpose_0, K_isPurpose h.2 h.1.1, if_neg h1]
    simp only [Option.bind_some, Option.toList_some, Option.toList_none, List.cons_append, List.nil_append, List.append_nil]
    rw [b_X4_purpose_8, if_pos rfl, b_X4_purpose_11, K_refuse hx (by decide) (by decide)]
    simp only [Option.bind_some, Option.toList_some, Option.toList_none, List.cons_append, List.nil_append, List.append_nil]
    rw [b_X4_purpose_16]
theorem N_thing (t w : Int) (σ : St) (R : Rw) (h : RK σ 0 R) (hx : Xok σ) : XQ (fun z => Rx k_X4_thing 0 [.inr (.inl (0, 0)), .inl t, .inl w] [] σ = some z) σ (thinB R t w) (thinA R t w) := by
  have hb := h.1.1
  unfold Iv0 at hb
  unfold thinB
  by_cases h1 : isT R t
  · have start : Rx k_X4_thing 0 [.inr (.inl (0, 0)), .inl t, .inl w] [] σ = Rx k_X4_thing 17 [.inr (.inl (0, 0)), .inl t, .inl w] [] σ := by
      rw [b_X4_thing_0, K_isThing h.2 h.1.1, if_pos h1]
      simp only [Option.bind_some, Option.toList_some, Option.toList_none, List.cons_append, List.nil_append, List.append_nil]
      rw [b_X4_thing_8, if_neg (by decide)]
    obtain ⟨a1, a2, a3⟩ := h.2.2.2.1 t h1.1 (by have := h1.2; omega)
    have hT := h.1.2.2.1 t h1.1 (by have := h1.2; omega)
    have g0 : 0 ≤ t := h1.1
    have g1 : t < 10 := by have := h1.2; omega
    rw [if_pos h1]
    by_cases h2 : 0 ≤ w ∧ w ≤ 3
    · rw [if_pos h2]
      refine XQ_ok (XS.refl σ) ?_
      rw [start, b_X4_thing_17]
      unfold thinA
      by_cases e0 : w = 0
      · rw [if_pos e0, if_pos e0, (b_X4_thing_48 (h0 := by omega) (h1 := by omega)), a1]
      rw [if_neg e0, if_neg e0]
      by_cases e1 : w = 1
      · rw [if_pos e1, if_pos e1, (b_X4_thing_58 (h0 := by omega) (h1 := by omega)), a2]
      rw [if_neg e1, if_neg e1]
      by_cases e2 : w = 2
      · rw [if_pos e2, if_pos e2, (b_X4_thing_68 (h0 := by omega) (h1 := by omega)), a3]
      rw [if_neg e2, if_neg e2, if_pos (show w = 3 by omega), b_X4_thing_78, K_isUp h.2 h.1.1]
      simp only [Option.bind_some, Option.toList_some, Option.toList_none, List.cons_append, List.nil_append, List.append_nil]
      rw [b_X4_thing_86]
      by_cases e3 : uq R t = 1
      · rw [if_pos (show isT R t ∧ uq R t = 1 from ⟨h1, e3⟩), if_neg (by decide), b_X4_thing_89, e3]
      · rw [if_neg (show ¬ (isT R t ∧ uq R t = 1) from fun z => e3 z.2), if_pos rfl, b_X4_thing_93, show uq R t = 0 by omega]
    · rw [if_neg h2]
      refine XQ_no (by decide) ?_
      rw [start, b_X4_thing_17, if_neg (show ¬ w = 0 by omega), if_neg (show ¬ w = 1 by omega), if_neg (show ¬ w = 2 by omega), if_neg (show ¬ w = 3 by omega), b_X4_thing_95, K_refuse hx (by decide) (by decide)]
      simp only [Option.bind_some, Option.toList_some, Option.toList_none, List.cons_append, List.nil_append, List.append_nil]
      rw [b_X4_thing_100]
  · rw [if_neg h1]
    refine XQ_no (by decide) ?_
    rw [b_X4_thing_0, K_isThing h.2 h.1.1, if_neg h1]
    simp only [Option.bind_some, Option.toList_some, Option.toList_none, List.cons_append, List.nil_append, List.append_nil]
    rw [b_X4_thing_8, if_pos rfl, b_X4_thing_11, K_refuse hx (by decide) (by decide)]
    simp only [Option.bind_some, Option.toList_some, Option.toList_none, List.cons_append, List.nil_append, List.append_nil]
    rw [b_X4_thing_16]
theorem N_falls (t : Int) (σ : St) (R : Rw) (h : RK σ 0 R) (hd : Dk R) (hx : Xok σ) : XQ (fun z => Rx k_X4_falls 0 [.inr (.inl (0, 0)), .inl t] [] σ = some z) σ (tB R t) (downF R (2 ^ t.toNat) 1) := by
  unfold tB
  by_cases h1 : isT R t
  · rw [if_pos h1]
    obtain ⟨σ1, s1, f1⟩ := K_downBehind h hd h1
    refine XQ_ok f1.xs ?_
    rw [b_X4_falls_0, K_isThing h.2 h.1.1, if_pos h1]
    simp only [Option.bind_some, Option.toList_some, Option.toList_none, List.cons_append, List.nil_append, List.append_nil]
    rw [b_X4_falls_8, if_neg (by decide), b_X4_falls_11, s1]
    simp only [Option.bind_some, Option.toList_some, Option.toList_none, List.cons_append, List.nil_append, List.append_nil]
    rw [b_X4_falls_19]
  · rw [if_neg h1]
    refine XQ_no (by decide) ?_
    rw [b_X4_falls_0, K_isThing h.2 h.1.1, if_neg h1]
    simp only [Option.bind_some, Option.toList_some, Option.toList_none, List.cons_append, List.nil_append, List.append_nil]
    rw [b_X4_falls_8, if_pos rfl, b_X4_falls_22, K_refuse hx (by decide) (by decide)]
    simp only [Option.bind_some, Option.toList_some, Option.toList_none, List.cons_append, List.nil_append, List.append_nil]
    rw [b_X4_falls_27]
theorem N_robbed (σ : St) (R : Rw) (h : RK σ 0 R) (hd : Dk R) : XQ (fun z => Rx k_X4_robbed 0 [.inr (.inl (0, 0))] [] σ = some z) σ 0 (robA R) := by
  obtain ⟨σ1, s1, f1⟩ := K_norob h hd uns uns
  refine XQ_ok f1.xs ?_
  rw [b_X4_robbed_0, s1]
  simp only [Option.bind_some, Option.toList_some, Option.toList_none, List.cons_append, List.nil_append, List.append_nil]
  rw [b_X4_robbed_7]
