/-! the reference: the best leans of three -/
theorem tri_bd {P k : Int} (h0 : 0 ≤ P) (h1 : P ≤ 5) (hk0 : 0 ≤ k) (hk : k < P * P * P) : P ≠ 0 ∧ P * P ≠ 0 ∧ 0 ≤ k.tdiv (P * P) ∧ k.tdiv (P * P) < P ∧ 0 ≤ (k.tdiv P).tmod P ∧ (k.tdiv P).tmod P < P ∧ 0 ≤ k.tmod P ∧ k.tmod P < P ∧ 0 ≤ k.tdiv P ∧ k.tdiv P ≤ 200 := by
  have hP : P = 0 ∨ P = 1 ∨ P = 2 ∨ P = 3 ∨ P = 4 ∨ P = 5 := by omega
  rcases hP with rfl | rfl | rfl | rfl | rfl | rfl
  · omega
  all_goals
    have e1 := Int.tdiv_eq_ediv_of_nonneg (b := 1) hk0
    have e2 := Int.tdiv_eq_ediv_of_nonneg (b := 2) hk0
    have e3 := Int.tdiv_eq_ediv_of_nonneg (b := 3) hk0
    have e4 := Int.tdiv_eq_ediv_of_nonneg (b := 4) hk0
    have e5 := Int.tdiv_eq_ediv_of_nonneg (b := 5) hk0
    have e9 := Int.tdiv_eq_ediv_of_nonneg (b := 9) hk0
    have e16 := Int.tdiv_eq_ediv_of_nonneg (b := 16) hk0
    have e25 := Int.tdiv_eq_ediv_of_nonneg (b := 25) hk0
    simp only [Int.reduceMul] at hk ⊢
    rw [Int.tmod_eq_emod_of_nonneg hk0, Int.tmod_eq_emod_of_nonneg (Int.tdiv_nonneg hk0 (by decide))]
    omega
theorem sq_bd {P : Int} (h0 : 0 ≤ P) (h1 : P ≤ 5) : 0 ≤ P * P ∧ P * P ≤ 25 ∧ 0 ≤ P * P * P ∧ P * P * P ≤ 125 := by
  have hP : P = 0 ∨ P = 1 ∨ P = 2 ∨ P = 3 ∨ P = 4 ∨ P = 5 := by omega
  rcases hP with rfl | rfl | rfl | rfl | rfl | rfl <;> decide
def blaR (R : Rw) (t s v a b c : Int) : Rw := wrt (wrt (wrt R (18 + 4 * t + 2).toNat a) (18 + 4 * s + 2).toNat b) (18 + 4 * v + 2).toNat c
def blaU (R : Rw) (t s v d k : Int) : Int := updF (blaR R t s v (k.tdiv (R 0 * R 0)) ((k.tdiv (R 0)).tmod (R 0)) (k.tmod (R 0))) d
def blaG (R : Rw) (t s v d : Int) : Nat → Int → Int → Int → Int × Int
  | 0, _, f, x => (f, x)
  | n + 1, k, f, x => if x < blaU R t s v d k then blaG R t s v d n (k + 1) (100 * k.tdiv (R 0 * R 0) + 10 * (k.tdiv (R 0)).tmod (R 0) + k.tmod (R 0)) (blaU R t s v d k) else blaG R t s v d n (k + 1) f x
theorem blaG_s (R : Rw) (t s v d : Int) (n : Nat) (k f x : Int) : blaG R t s v d (n + 1) k f x = if x < blaU R t s v d k then blaG R t s v d n (k + 1) (100 * k.tdiv (R 0 * R 0) + 10 * (k.tdiv (R 0)).tmod (R 0) + k.tmod (R 0)) (blaU R t s v d k) else blaG R t s v d n (k + 1) f x := rfl
def blaA (R : Rw) (t s v d w : Int) : Int := pk w (blaG R t s v d (R 0 * R 0 * R 0).toNat 0 (-9) (-1))
theorem blaR_ok {R : Rw} (h : Iv R) {t s v a b c : Int} (ht : isT R t) (hs : isT R s) (hv : isT R v) (ha : 0 ≤ a ∧ a < R 0) (hb : 0 ≤ b ∧ b < R 0) (hc : 0 ≤ c ∧ c < R 0) : Iv (blaR R t s v a b c) ∧ blaR R t s v a b c 2 = R 2 ∧ (∀ k : Nat, 58 ≤ k → blaR R t s v a b c k = R k) := by
  have hb0 := h.1
  unfold Iv0 at hb0
  have i1 := h.onw ht.1 ha
  obtain ⟨a0, a1, a2, a3, a4⟩ := tw (R := R) (v := a) 2 ht.1 (by omega)
  have i2 := i1.onw hs.1 (p := b) (by rw [a0]; exact hb)
  obtain ⟨b0, b1, b2, b3, b4⟩ := tw (R := wrt R (18 + 4 * t + 2).toNat a) (v := b) 2 hs.1 (by omega)
  have i3 := i2.onw hv.1 (p := c) (by rw [b0, a0]; exact hc)
  obtain ⟨c0, c1, c2, c3, c4⟩ := tw (R := wrt (wrt R (18 + 4 * t + 2).toNat a) (18 + 4 * s + 2).toNat b) (v := c) 2 hv.1 (by omega)
  refine ⟨i3, ?_, fun k hk => ?_⟩
  · unfold blaR; rw [c2, b2, a2]
  · unfold blaR; rw [c3 k hk (by omega), b3 k hk (by omega), a3 k hk (by omega)]
theorem L_bestLeans (σ : St) (h : Mok σ) (t s v d w x6 : Int) (ht : isT (σ 17 0) t) (hs : isT (σ 17 0) s) (hv : isT (σ 17 0) v) (hd0 : 0 ≤ d) (hd1 : d ≤ 99) : ∀ (n : Nat) (k f x : Int) (u10 u11 u12 u13 : AV) (σ1 : St), 0 ≤ k → k + n = σ 17 0 0 * σ 17 0 0 * σ 17 0 0 → MS σ σ1 → ∃ σ', MS σ σ' ∧ Rx k_X5_bestLeans 93 [.inr (.inl (16, 0)), .inl t, .inl s, .inl v, .inl d, .inl w, .inl x6, .inl f, .inl x, .inl k, u10, u11, u12, u13] [] σ1 = some (some (.inl (pk w (blaG (σ 17 0) t s v d n k f x))), σ') := by
  have hb := h.ct
  have hq := sq_bd hb.1 hb.2.1
  have hd := h.2.1
  have hd2 := h.2.2.1
  intro n
  induction n with
  | zero =>
    intro k f x u10 u11 u12 u13 σ1 h0 h1 hk
    have e0 : σ1 17 0 = σ 17 0 := hk.row (by decide)
    refine ⟨σ1, hk, ?_⟩
    rw [b_X5_bestLeans_93 (g0a := by rw [e0]; omega) (g0b := by rw [e0]; omega) (g1a := by rw [e0]; omega) (g1b := by rw [e0]; omega), e0, if_neg (by omega), b_X5_bestLeans_259, show blaG (σ 17 0) t s v d 0 k f x = (f, x) from rfl]
    unfold pk
    by_cases h2 : f < 0
    · rw [if_pos h2, b_X5_bestLeans_269, if_pos (Or.inl h2)]
    · rw [if_neg h2, b_X5_bestLeans_264]
      by_cases h3 : w = 0
      · rw [if_pos h3, b_X5_bestLeans_269, if_pos (Or.inr h3)]
      · rw [if_neg h3, b_X5_bestLeans_274, if_neg (fun z => by rcases z with z | z; exact h2 z; exact h3 z)]
  | succ n ih =>
    intro k f x u10 u11 u12 u13 σ1 h0 h1 hk
    have m1 := h.ms hk
    have e0 : σ1 17 0 = σ 17 0 := hk.row (by decide)
    obtain ⟨q1, q2, q3, q4, q5, q6, q7, q8, q9, q10⟩ := tri_bd hb.1 hb.2.1 h0 (show k < σ 17 0 0 * σ 17 0 0 * σ 17 0 0 by omega)
    have cp := m1.cp uns
    rw [e0] at cp
    obtain ⟨i1, i2, i3⟩ := blaR_ok h.1 (a := k.tdiv (σ 17 0 0 * σ 17 0 0)) (b := (k.tdiv (σ 17 0 0)).tmod (σ 17 0 0)) (c := k.tmod (σ 17 0 0)) ht hs hv ⟨q3, q4⟩ ⟨q5, q6⟩ ⟨q7, q8⟩
    obtain ⟨g, hg⟩ := C_upIn d (setR σ1 1 (blaR (σ 17 0) t s v (k.tdiv (σ 17 0 0 * σ 17 0 0)) ((k.tdiv (σ 17 0 0)).tmod (σ 17 0 0)) (k.tmod (σ 17 0 0)))) (by rw [setR_at]; exact i1) hd0 (by rw [setR_at, i2]; omega) (by rw [setR_at, i2]; omega)
    rw [setR_at, sR_setR] at hg
    obtain ⟨o1, o2, o3, o4, o5⟩ := daysF_ok d.toNat i1
    have k3 : MS σ (sR σ1 1 (daysF d.toNat (blaR (σ 17 0) t s v (k.tdiv (σ 17 0 0 * σ 17 0 0)) ((k.tdiv (σ 17 0 0)).tmod (σ 17 0 0)) (k.tmod (σ 17 0 0)))) g) := hk.trans (MS.ofR (fun j hj => by rw [o5 j hj, i3 j hj, m1.z j hj, e0]))
    have eu : ((pc10 (upF (daysF d.toNat (blaR (σ 17 0) t s v (k.tdiv (σ 17 0 0 * σ 17 0 0)) ((k.tdiv (σ 17 0 0)).tmod (σ 17 0 0)) (k.tmod (σ 17 0 0))))) : Nat) : Int) = blaU (σ 17 0) t s v d k := rfl
    rw [eu] at hg
    rw [b_X5_bestLeans_93 (g0a := by rw [e0]; omega) (g0b := by rw [e0]; omega) (g1a := by rw [e0]; omega) (g1b := by rw [e0]; omega), e0, if_pos (by omega)]
    rw [b_X5_bestLeans_118 (h0 := by rw [e0]; exact q2) (h1 := by rw [e0]; exact q1) (g0a := by rw [e0]; omega) (g0b := by rw [e0]; omega) (g1a := by rw [e0]; omega) (g1b := by rw [e0]; omega) (g2a := by rw [e0]; omega) (g2b := by rw [e0]; omega), e0, cp]
    simp only [Option.bind_some, Option.toList_some, Option.toList_none, List.cons_append, List.nil_append, List.append_nil]
    rw [b_X5_bestLeans_176, C_ofT _ _ (by omega) (by omega)]
    simp only [Option.bind_some, Option.toList_some, Option.toList_none, List.cons_append, List.nil_append, List.append_nil]
    rw [b_X5_bestLeans_184 (h0 := by omega) (h1 := by omega) (g0a := by omega) (g0b := by omega), up17s, C_ofT _ _ (by omega) (by omega)]
    simp only [Option.bind_some, Option.toList_some, Option.toList_none, List.cons_append, List.nil_append, List.append_nil]
    rw [b_X5_bestLeans_197 (h0 := by omega) (h1 := by omega) (g0a := by omega) (g0b := by omega), up17s, C_ofT _ _ (by omega) (by omega)]
    simp only [Option.bind_some, Option.toList_some, Option.toList_none, List.cons_append, List.nil_append, List.append_nil]
    rw [b_X5_bestLeans_210 (h0 := by omega) (h1 := by omega) (g0a := by omega) (g0b := by omega), up17s]
    unfold blaR at hg
    rw [hg]
    simp only [Option.bind_some, Option.toList_some, Option.toList_none, List.cons_append, List.nil_append, List.append_nil]
    rw [b_X5_bestLeans_221, blaG_s]
    by_cases h4 : x < blaU (σ 17 0) t s v d k
    · rw [if_pos h4, if_pos h4, b_X5_bestLeans_233 (g0a := by omega) (g0b := by omega) (g1a := by omega) (g1b := by omega) (g2a := by omega) (g2b := by omega) (g3a := by omega) (g3b := by omega) (g4a := by omega) (g4b := by omega)]
      exact ih (k + 1) _ _ _ _ _ _ _ (by omega) (by omega) k3
    · rw [if_neg h4, if_neg h4, b_X5_bestLeans_230 (g0a := by omega) (g0b := by omega)]
      exact ih (k + 1) _ _ _ _ _ _ _ (by omega) (by omega) k3
