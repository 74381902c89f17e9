/-! a rack told: the reference, both passes -/
theorem L_rk1 {W : Nat → Int} {M : Nat} (u3 u4 u5 : AV) : ∀ (m j : Nat) (n : Int) (σ : St), At σ W M j → j < M → M < m + j → 0 ≤ n → n ≤ 1000 * j → ∃ σ' n', Rx k_X5_rack 10 [.inr (.inl (16, 0)), .inl n, .inl (-9), u3, u4, u5] [] σ = Rx k_X5_rack 46 [.inr (.inl (16, 0)), .inl n', .inl (if pgF W M m j = -9 then -9 else -1000 - pgF W M m j), u3, u4, u5] [] σ' ∧ PS σ σ' ∧ (pgF W M m j = -9 → n' = n + pcN W M m j) := by
  intro m
  induction m with
  | zero => intro j n σ _ h1 h2; omega
  | succ m ih =>
    intro j n σ hA hj hm hn hn2
    have hM := hA.2.2.1
    obtain ⟨σ1, s1, p1, a1, _⟩ := R_stm hA uns uns
    obtain ⟨o1, o2, o3⟩ := stm_ok (W := W) (Nat.le_of_lt hj)
    have hpl := a1.1
    have hmm := a1.2.1
    have start : Rx k_X5_rack 10 [.inr (.inl (16, 0)), .inl n, .inl (-9), u3, u4, u5] [] σ = if (if (stm W M j).2 = true then (1 : Int) else 0) = 0 then Rx k_X5_rack 17 [.inr (.inl (16, 0)), .inl n, .inl (-9), u3, u4, u5] [] σ1 else Rx k_X5_rack 26 [.inr (.inl (16, 0)), .inl n, .inl (-9), u3, u4, u5] [] σ1 := by
      rw [b_X5_rack_10, s1]
      simp only [Option.bind_some, Option.toList_some, Option.toList_none, List.cons_append, List.nil_append, List.append_nil]
      rw [b_X5_rack_14]
    rw [start, pgF_s, if_neg (show ¬ M ≤ j by omega), pcN_s, if_neg (show ¬ M ≤ j by omega)]
    by_cases e : (stm W M j).2 = true
    · obtain ⟨_, of, ol, og⟩ := o3 e
      rw [if_pos e, if_pos e, if_neg (show ¬ (1 : Int) = 0 by decide), b_X5_rack_26 (g0a := by omega) (g0b := by omega), if_pos (show (-9 : Int) = -9 from rfl), b_X5_rack_35, hpl, hmm]
      by_cases f : (stm W M j).1 < M
      · obtain ⟨σ2, n2, s2, p2, k2⟩ := ih (stm W M j).1 (n + 1) σ1 a1 f (by omega) (by omega) (by omega)
        rw [if_pos (show (((stm W M j).1 : Nat) : Int) < (M : Int) by omega)]
        exact ⟨σ2, n2, s2, p1.trans p2, fun z => by rw [k2 z]; omega⟩
      · obtain ⟨m', rfl⟩ : ∃ m', m = m' + 1 := ⟨m - 1, by omega⟩
        have z : pgF W M (m' + 1) (stm W M j).1 = -9 := by rw [pgF_s, if_pos (show M ≤ (stm W M j).1 by omega)]
        have y : pcN W M (m' + 1) (stm W M j).1 = 0 := by rw [pcN_s, if_pos (show M ≤ (stm W M j).1 by omega)]
        rw [if_neg (show ¬ (((stm W M j).1 : Nat) : Int) < (M : Int) by omega), z, y, if_pos (show (-9 : Int) = -9 from rfl)]
        exact ⟨σ1, n + 1, rfl, p1, fun _ => rfl⟩
    · rw [if_neg e, if_neg e, if_pos (show (0 : Int) = 0 from rfl), b_X5_rack_17 (g0a := by omega) (g0b := by omega) (g1a := by omega) (g1b := by omega), hpl, if_neg (show ¬ (-1000 : Int) - (((stm W M j).1 : Nat) : Int) = -9 by omega), if_neg (show ¬ (((stm W M j).1 : Nat) : Int) = -9 by omega)]
      exact ⟨σ1, n + 1, rfl, p1, fun z => absurd z (by omega)⟩
/-- what a rack told may change in the reference -/
def RF (σ σ' : St) : Prop := ∀ t r k, (t = 17 ∧ (r = 0 ∨ r = 3)) ∨ t = 18 ∨ t = 22 ∨ (t = 16 ∧ r = 0 ∧ (k = 9 ∨ k = 11)) ∨ σ' t r k = σ t r k
theorem RF.refl (σ : St) : RF σ σ := fun _ _ _ => Or.inr (Or.inr (Or.inr (Or.inr rfl)))
theorem RF.trans {a b c : St} (h : RF a b) (g : RF b c) : RF a c := by
  intro t r k
  rcases h t r k with x | x | x | x | x
  · exact Or.inl x
  · exact Or.inr (Or.inl x)
  · exact Or.inr (Or.inr (Or.inl x))
  · exact Or.inr (Or.inr (Or.inr (Or.inl x)))
  · rcases g t r k with y | y | y | y | y
    · exact Or.inl y
    · exact Or.inr (Or.inl y)
    · exact Or.inr (Or.inr (Or.inl y))
    · exact Or.inr (Or.inr (Or.inr (Or.inl y)))
    · exact Or.inr (Or.inr (Or.inr (Or.inr (y.trans x))))
theorem PS.rf {σ σ' : St} (h : PS σ σ') : RF σ σ' := fun t r k => by
  rcases h t r k with x | x | x
  · exact Or.inr (Or.inr (Or.inr (Or.inl ⟨x.1, x.2.1, Or.inr x.2.2⟩)))
  · exact Or.inr (Or.inr (Or.inl x))
  · exact Or.inr (Or.inr (Or.inr (Or.inr x)))
theorem DS.rf {σ σ' : St} (h : DS σ σ') : RF σ σ' := fun t r k => by
  rcases h t r k with x | x | x
  · exact Or.inl ⟨x.1, Or.inl x.2⟩
  · exact Or.inr (Or.inl x)
  · exact Or.inr (Or.inr (Or.inr (Or.inr x)))
theorem DS.tag {σ σ' : St} (h : DS σ σ') {t : Nat} (h1 : t ≠ 17) (h2 : t ≠ 18) : σ' t = σ t := by
  funext r k
  rcases h t r k with x | x | x
  · exact absurd x.1 h1
  · exact absurd x h2
  · exact x
theorem DS.row {σ σ' : St} (h : DS σ σ') {r : Nat} (hr : r ≠ 0) : σ' 17 r = σ 17 r := by
  funext k
  rcases h 17 r k with x | x | x
  · exact absurd x.2 hr
  · exact absurd x (by decide)
  · exact x
theorem RF.row (σ : St) (r : Nat) (hr : r = 0 ∨ r = 3) (R : Rw) : RF σ (setR σ r R) := fun t q k => by
  by_cases h : t = 17 ∧ q = r
  · exact Or.inl ⟨h.1, by omega⟩
  · right; right; right; right
    unfold setR
    rw [if_neg h]
theorem RF.c9 (σ : St) (v : Int) : RF σ (up σ 16 0 9 v) := fun t q k => by
  by_cases h : t = 16 ∧ q = 0 ∧ k = 9
  · exact Or.inr (Or.inr (Or.inr (Or.inl ⟨h.1, h.2.1, Or.inl h.2.2⟩)))
  · exact Or.inr (Or.inr (Or.inr (Or.inr (up_no h))))
theorem F_end {σ : St} (n f : Int) (u3 u4 u5 : AV) (x : Int) (hx : x = if f = -9 then n else f) : Rx k_X5_rack 128 [.inr (.inl (16, 0)), .inl n, .inl f, u3, u4, u5] [] σ = some (some (.inl x), up σ 16 0 9 0) := by
  rw [b_X5_rack_128, hx]
  by_cases e : f = -9
  · rw [if_pos e, b_X5_rack_139, if_pos e]
  · rw [if_neg e, b_X5_rack_143, if_neg e]
theorem L_rk2 {W : Nat → Int} {M : Nat} {S : Rw} (n' : Int) : ∀ (m i : Nat) (u3 u4 u5 : AV) (σ : St), At σ W M i → M < m + i → Iv (σ 17 0) → Dk (σ 17 0) → σ 17 3 = S → (∀ k : Nat, 58 ≤ k → σ 17 0 k = S k) → pgF W M m i = -9 → ∃ σ', Rx k_X5_rack 62 [.inr (.inl (16, 0)), .inl n', .inl (-9), u3, u4, u5] [] σ = some (some (.inl (if (rkG W M m i (σ 17 0)).1 = -9 then n' else (rkG W M m i (σ 17 0)).1)), σ') ∧ RF σ σ' ∧ σ' 17 0 = (if (rkG W M m i (σ 17 0)).1 = -9 then (rkG W M m i (σ 17 0)).2 else S) ∧ σ' 17 3 = S ∧ σ' 16 0 9 = 0 := by
  intro m
  induction m with
  | zero => intro i u3 u4 u5 σ hA hm; have := hA.2.2.2.2.2; omega
  | succ m ih =>
    intro i u3 u4 u5 σ hA hm hI hd hS hz hp
    have hM := hA.2.2.1
    have hi := hA.1
    have hmm := hA.2.1
    have hiM := hA.2.2.2.2.2
    rw [rkG_s]
    by_cases e : M ≤ i
    · rw [if_pos e, if_pos (show (-9 : Int) = -9 from rfl), if_pos (show (-9 : Int) = -9 from rfl), b_X5_rack_62, if_pos (show (-9 : Int) = -9 from rfl), b_X5_rack_68, hi, hmm, if_neg (by omega), F_end n' (-9) u3 u4 u5 n' (by rw [if_pos rfl])]
      exact ⟨_, rfl, RF.c9 σ 0, by rw [up_t (by decide)], by rw [up_t (by decide)]; exact hS, up_at _ _ _ _ _⟩
    · obtain ⟨q1, q2⟩ := pg_ok hp (by omega)
      obtain ⟨o1, o2, o3⟩ := stm_ok (W := W) hiM
      obtain ⟨_, of, ol, og⟩ := o3 q1
      obtain ⟨σ1, s1, p1, a1, n1⟩ := R_stm hA uns uns
      have e17 : σ1 17 = σ 17 := p1.tag (by decide) (by decide)
      obtain ⟨σ2, s2, d2, r2⟩ := R_isDone (σ := σ1) (by rw [e17]; exact hI) (by rw [e17]; exact hd) q1 (n1 q1) uns uns
      rw [e17] at s2 r2
      have h3 : σ2 17 3 = S := by rw [d2.row (by decide), e17]; exact hS
      have hw := (hA.2.2.2.2.1 i (by omega))
      have start : Rx k_X5_rack 62 [.inr (.inl (16, 0)), .inl n', .inl (-9), u3, u4, u5] [] σ = if (if stO (σ 17 0) W i = true then (1 : Int) else 0) = 0 then Rx k_X5_rack 108 [.inr (.inl (16, 0)), .inl n', .inl (-9), .inl (i : Int), .inl (W i), .inl 1] [] σ2 else Rx k_X5_rack 105 [.inr (.inl (16, 0)), .inl n', .inl (-9), .inl (i : Int), .inl (W i), .inl 1] [] σ2 := by
        rw [b_X5_rack_62, if_pos (show (-9 : Int) = -9 from rfl), b_X5_rack_68, hi, hmm, if_pos (by omega), b_X5_rack_79, R_here hA, if_pos (show i < M by omega), hi]
        simp only [Option.bind_some, Option.toList_some, Option.toList_none, List.cons_append, List.nil_append, List.append_nil]
        rw [b_X5_rack_88, s1, if_pos q1]
        simp only [Option.bind_some, Option.toList_some, Option.toList_none, List.cons_append, List.nil_append, List.append_nil]
        rw [b_X5_rack_94, s2]
        simp only [Option.bind_some, Option.toList_some, Option.toList_none, List.cons_append, List.nil_append, List.append_nil]
        rw [b_X5_rack_102]
      rw [if_neg e, start]
      by_cases z : stO (σ 17 0) W i = true
      · rw [if_pos z] at r2
        have so := st_ok hI hd q1 z
        have a2 : At σ2 W M (stm W M i).1 := by
          obtain ⟨b1, b2, b3, b4, b5, b6⟩ := a1
          have t16 := d2.tag (t := 16) (by decide) (by decide)
          have t19 := d2.tag (t := 19) (by decide) (by decide)
          exact ⟨by rw [t16]; exact b1, by rw [t16]; exact b2, b3, by rw [t19]; exact b4, b5, b6⟩
        obtain ⟨σ3, s3, f3, r3, r33, c3⟩ := ih (stm W M i).1 (.inl (i : Int)) (.inl (W i)) (.inl 1) σ2 a2 (by omega) (by rw [r2]; exact so.1) (by rw [r2]; exact so.2.1) h3 (fun k hk => by rw [r2, so.2.2 k hk]; exact hz k hk) q2
        rw [r2] at s3 r3
        rw [if_pos z, if_neg (show ¬ (1 : Int) = 0 by decide), if_pos z, b_X5_rack_105]
        exact ⟨σ3, s3, (p1.rf.trans d2.rf).trans f3, r3, r33, c3⟩
      · rw [if_neg z] at r2
        have hc := C_copies 3 0 σ2 (by decide) (fun k hk => by rw [r2, h3]; exact hz k hk) uns
        rw [h3] at hc
        rw [if_neg z, if_pos (show (0 : Int) = 0 from rfl), if_neg z, if_neg (show ¬ (-2000 - (i : Int)) = -9 by omega), if_neg (show ¬ (-2000 - (i : Int)) = -9 by omega), b_X5_rack_108 (g0a := by omega) (g0b := by omega), hc]
        simp only [Option.bind_some, Option.toList_some, Option.toList_none, List.cons_append, List.nil_append, List.append_nil]
        rw [b_X5_rack_125, b_X5_rack_62, if_neg (show ¬ (-2000 - (i : Int)) = -9 by omega), F_end n' (-2000 - (i : Int)) _ _ _ (-2000 - (i : Int)) (by rw [if_neg (by omega)])]
        exact ⟨_, rfl, ((p1.rf.trans d2.rf).trans (RF.row σ2 0 (Or.inl rfl) S)).trans (RF.c9 _ 0), by rw [up_t (by decide), setR_at], by rw [up_t (by decide), setR_in _ _ _ (by decide)]; exact h3, up_at _ _ _ _ _⟩
theorem M_rack {σ : St} {W : Nat → Int} {M : Nat} (h : Mok σ) (hM : σ 16 0 9 = M) (hM2 : M ≤ 96) (hW : σ 19 0 = W) (hb : ∀ k : Nat, k < M → 0 ≤ W k ∧ W k ≤ 255) (u1 u2 u3 u4 u5 : AV) : ∃ σ', Rx k_X5_rack 0 [.inr (.inl (16, 0)), u1, u2, u3, u4, u5] [] σ = some (some (.inl (rackA W M (σ 17 0)).1), σ') ∧ RF σ σ' ∧ σ' 17 0 = (rackA W M (σ 17 0)).2 ∧ σ' 17 3 = σ 17 0 ∧ σ' 16 0 9 = 0 := by
  have p0 := PS.pl σ 0
  have a0 : At (up σ 16 0 11 0) W M 0 := ⟨up_at _ _ _ _ _, by rw [upx_k (by decide)]; exact hM, hM2, by rw [up_t (by decide)]; exact hW, hb, Nat.zero_le M⟩
  -- behind the first pass
  have tail : ∀ (τ : St) (n' F : Int), PS σ τ → (F ≠ -9 → ∃ σ', Rx k_X5_rack 46 [.inr (.inl (16, 0)), .inl n', .inl F, u3, u4, u5] [] τ = some (some (.inl F), σ') ∧ RF σ σ' ∧ σ' 17 0 = σ 17 0 ∧ σ' 17 3 = σ 17 0 ∧ σ' 16 0 9 = 0) ∧ (F = -9 → pgF W M (M + 1) 0 = -9 → ∃ σ', Rx k_X5_rack 46 [.inr (.inl (16, 0)), .inl n', .inl F, u3, u4, u5] [] τ = some (some (.inl (if (rkG W M (M + 1) 0 (σ 17 0)).1 = -9 then n' else (rkG W M (M + 1) 0 (σ 17 0)).1)), σ') ∧ RF σ σ' ∧ σ' 17 0 = (if (rkG W M (M + 1) 0 (σ 17 0)).1 = -9 then (rkG W M (M + 1) 0 (σ 17 0)).2 else σ 17 0) ∧ σ' 17 3 = σ 17 0 ∧ σ' 16 0 9 = 0) := by
    intro τ n' F p
    have e17 : τ 17 = σ 17 := p.tag (by decide) (by decide)
    have hc := C_copies 0 3 τ (by decide) (fun k hk => by rw [e17, h.2.2.2.1 3 k (by decide) hk, h.2.2.2.1 0 k (by decide) hk]) uns
    rw [e17] at hc
    have p1 := PS.pl (setR τ 3 (σ 17 0)) 0
    have st : Rx k_X5_rack 46 [.inr (.inl (16, 0)), .inl n', .inl F, u3, u4, u5] [] τ = Rx k_X5_rack 62 [.inr (.inl (16, 0)), .inl n', .inl F, u3, u4, u5] [] (up (setR τ 3 (σ 17 0)) 16 0 11 0) := by
      rw [b_X5_rack_46, hc]
      simp only [Option.bind_some, Option.toList_some, Option.toList_none, List.cons_append, List.nil_append, List.append_nil]
      rw [b_X5_rack_57]
    have g0 : up (setR τ 3 (σ 17 0)) 16 0 11 0 17 0 = σ 17 0 := by rw [up_t (by decide), setR_in _ _ _ (by decide), e17]
    have g3 : up (setR τ 3 (σ 17 0)) 16 0 11 0 17 3 = σ 17 0 := by rw [up_t (by decide), setR_at]
    have fr := (p.rf.trans (RF.row τ 3 (Or.inr rfl) (σ 17 0))).trans p1.rf
    refine ⟨fun hF => ?_, fun hF hp => ?_⟩
    · rw [st, b_X5_rack_62, if_neg hF, F_end n' F _ _ _ F (by rw [if_neg hF])]
      exact ⟨_, rfl, fr.trans (RF.c9 _ 0), by rw [up_t (by decide)]; exact g0, by rw [up_t (by decide)]; exact g3, up_at _ _ _ _ _⟩
    · have a1 : At (up (setR τ 3 (σ 17 0)) 16 0 11 0) W M 0 := ⟨up_at _ _ _ _ _, by rw [upx_k (by decide), setR_tag _ _ _ (by decide), p.c16 (by decide)]; exact hM, hM2, by rw [up_t (by decide), setR_tag _ _ _ (by decide), p.tag (by decide) (by decide)]; exact hW, hb, Nat.zero_le M⟩
      obtain ⟨σ', s', f', r', r3', c'⟩ := L_rk2 (S := σ 17 0) n' (M + 1) 0 u3 u4 u5 _ a1 (by omega) (by rw [g0]; exact h.1) (by rw [g0]; exact ⟨h.2.1, h.2.2.1⟩) g3 (fun k _ => by rw [g0]) hp
      rw [g0] at s' r'
      refine ⟨σ', ?_, fr.trans f', r', r3', c'⟩
      rw [st, hF]
      exact s'
  unfold rackA
  rw [b_X5_rack_0]
  by_cases e : M = 0
  · obtain ⟨σ1, s1, p1, a1, _⟩ := R_stm a0 uns uns
    have es : stm W M 0 = (0, false) := by unfold stm; rw [if_neg (fun z => by omega)]
    rw [es] at s1 a1
    have hpl := a1.1
    obtain ⟨σ', t1, t2, t3, t4, t5⟩ := (tail σ1 (0 + 1) (-1000) (p0.trans p1)).1 (by decide)
    refine ⟨σ', ?_, t2, by rw [if_pos e]; exact t3, t4, t5⟩
    rw [if_pos e, b_X5_rack_10, s1]
    simp only [Option.bind_some, Option.toList_some, Option.toList_none, List.cons_append, List.nil_append, List.append_nil]
    rw [if_neg (show ¬ (false = true) by decide), b_X5_rack_14, if_pos rfl, b_X5_rack_17 (g0a := by omega) (g0b := by omega) (g1a := by omega) (g1b := by omega), hpl, if_neg (by decide)]
    exact t1
  · rw [if_neg e]
    obtain ⟨σ1, n1, s1, p1, k1⟩ := L_rk1 u3 u4 u5 (M + 1) 0 0 (up σ 16 0 11 0) a0 (by omega) (by omega) (Int.le_refl 0) (by omega)
    rw [s1]
    by_cases z : pgF W M (M + 1) 0 = -9
    · obtain ⟨σ', t1, t2, t3, t4, t5⟩ := (tail σ1 n1 (-9) (p0.trans p1)).2 rfl z
      rw [k1 z, Int.zero_add] at t1
      rw [if_pos z, if_pos z, k1 z, Int.zero_add]
      by_cases y : (rkG W M (M + 1) 0 (σ 17 0)).1 = -9
      · rw [if_pos y] at t1 t3
        rw [if_pos y]
        exact ⟨σ', t1, t2, t3, t4, t5⟩
      · rw [if_neg y] at t1 t3
        rw [if_neg y]
        exact ⟨σ', t1, t2, t3, t4, t5⟩
    · have pgb : ∀ n j : Nat, -9 ≤ pgF W M n j := by
        intro n
        induction n with
        | zero => intro j; exact Int.le_refl _
        | succ n ih =>
          intro j
          rw [pgF_s]
          split
          · exact Int.le_refl _
          · split
            · exact ih _
            · omega
      have b := pgb (M + 1) 0
      obtain ⟨σ', t1, t2, t3, t4, t5⟩ := (tail σ1 n1 (-1000 - pgF W M (M + 1) 0) (p0.trans p1)).1 (by omega)
      rw [if_neg z, if_neg z]
      exact ⟨σ', t1, t2, t3, t4, t5⟩
