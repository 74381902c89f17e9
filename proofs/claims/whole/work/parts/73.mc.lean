/-! the reference: what is worst, longest, judged, leaned, and the two -/
theorem fellM_n : ∀ (k : Nat) (R : Rw) (t w n : Int), n ≤ (fellM k R t w n).2 ∧ (fellM k R t w n).2 ≤ n + k := by
  intro k
  induction k with
  | zero => intro R t w n; exact ⟨Int.le_refl _, by show n ≤ n + ((0 : Nat) : Int); omega⟩
  | succ k ih =>
    intro R t w n
    unfold fellM
    split
    · exact ⟨Int.le_refl _, by show n ≤ _; omega⟩
    · split
      · split
        · exact ⟨Int.le_refl _, by show n ≤ _; omega⟩
        · have := ih (wrt R (18 + 4 * t + 3).toNat 0) (whoF (wrt R (18 + 4 * t + 3).toNat 0) (pl R t + 1)) (wt R t) (n + 1)
          omega
      · exact ⟨Int.le_refl _, by show n ≤ _; omega⟩
theorem fellF_n (R : Rw) (t : Int) : 0 ≤ (fellF R t).2 ∧ (fellF R t).2 ≤ 26 := by
  have := fellM_n 26 R t (wt R t) 0
  unfold fellF
  omega
theorem Mok.fel {σ : St} (h : Mok σ) {t : Int} (ht : isT (σ 17 0) t) : MS σ (setR σ 1 (fellF (σ 17 0) t).1) ∧ Rx k_X5_fells 0 [.inr (.inl (17, 1)), .inl t, uns, uns, uns] [] (setR σ 1 (σ 17 0)) = some (some (.inl (fellF (σ 17 0) t).2), setR σ 1 (fellF (σ 17 0) t).1) := by
  have d := fellF_dn h.1.to1 ht.1 (by omega)
  refine ⟨MS.set (fun k hk => by rw [d.2.2.2.2.2.2 k hk, h.z k hk]), ?_⟩
  rw [C_fells 1 t _ (by rw [setR_at]; exact h.1.to1) ht.1 (by rw [setR_at]; omega), setR_at, setR_set]
/-- worst -/
def worG (R : Rw) : Nat → Int → Int → Int → Int × Int
  | 0, _, f, x => (f, x)
  | n + 1, c, f, x => if 0 ≤ whoF R c ∧ uq R (whoF R c) = 1 ∧ x < (fellF R (whoF R c)).2 then worG R n (c + 1) (whoF R c) (fellF R (whoF R c)).2 else worG R n (c + 1) f x
theorem worG_s (R : Rw) (n : Nat) (c f x : Int) : worG R (n + 1) c f x = if 0 ≤ whoF R c ∧ uq R (whoF R c) = 1 ∧ x < (fellF R (whoF R c)).2 then worG R n (c + 1) (whoF R c) (fellF R (whoF R c)).2 else worG R n (c + 1) f x := rfl
def pk (w : Int) (z : Int × Int) : Int := if z.1 < 0 ∨ w = 0 then z.1 else z.2
def worA (R : Rw) (w : Int) : Int := pk w (worG R 20 0 (-9) 0)
theorem L_worst (σ : St) (h : Mok σ) (w : Int) : ∀ (n : Nat) (c f x : Int) (u5 u6 : AV) (σ1 : St), 0 ≤ c → c + n = 20 → MS σ σ1 → ∃ σ', MS σ σ' ∧ Rx k_X5_worst 24 [.inr (.inl (16, 0)), .inl w, .inl f, .inl x, .inl c, u5, u6] [] σ1 = some (some (.inl (pk w (worG (σ 17 0) n c f x))), σ') := by
  have hb := h.ct
  intro n
  induction n with
  | zero =>
    intro c f x u5 u6 σ1 h0 h1 hk
    refine ⟨σ1, hk, ?_⟩
    rw [b_X5_worst_24, if_neg (by omega), b_X5_worst_105, show worG (σ 17 0) 0 c f x = (f, x) from rfl]
    unfold pk
    by_cases h2 : f < 0
    · rw [if_pos h2, b_X5_worst_113, if_pos (Or.inl h2)]
    · rw [if_neg h2, b_X5_worst_109]
      by_cases h3 : w = 0
      · rw [if_pos h3, b_X5_worst_113, if_pos (Or.inr h3)]
      · rw [if_neg h3, b_X5_worst_117, if_neg (fun z => by rcases z with z | z; exact h2 z; exact h3 z)]
  | succ n ih =>
    intro c f x u5 u6 σ1 h0 h1 hk
    have m1 := h.ms hk
    have e0 : σ1 17 0 = σ 17 0 := hk.row (by decide)
    rw [b_X5_worst_24, if_pos (by omega), b_X5_worst_31, C_whoAt 0 c σ1 (by rw [e0]; omega) (by rw [e0]; omega), e0]
    simp only [Option.bind_some, Option.toList_some, Option.toList_none, List.cons_append, List.nil_append, List.append_nil]
    rw [b_X5_worst_40, worG_s]
    have hw := who_spec (R := σ 17 0) hb.2.2.1 c
    by_cases h2 : whoF (σ 17 0) c < 0
    · rw [if_pos h2, if_neg (fun z => by omega), b_X5_worst_99 _ _ _ _ _ _ _ (by omega) (by omega)]
      exact ih (c + 1) _ _ _ _ σ1 (by omega) (by omega) hk
    · have ht : isT (σ 17 0) (whoF (σ 17 0) c) := by constructor <;> omega
      rw [if_neg h2, b_X5_worst_47, C_isUp 0 _ σ1 ht.1 (by omega), e0]
      simp only [Option.bind_some, Option.toList_some, Option.toList_none, List.cons_append, List.nil_append, List.append_nil]
      rw [b_X5_worst_56]
      by_cases h3 : uq (σ 17 0) (whoF (σ 17 0) c) = 1
      · have k := m1.fel (t := whoF (σ 17 0) c) (by rw [e0]; exact ht)
        rw [e0] at k
        have cp := m1.cp uns
        rw [e0] at cp
        have k3 := hk.trans k.1
        rw [if_pos h3, if_neg (by decide), b_X5_worst_62, cp]
        simp only [Option.bind_some, Option.toList_some, Option.toList_none, List.cons_append, List.nil_append, List.append_nil]
        rw [b_X5_worst_73, k.2]
        simp only [Option.bind_some, Option.toList_some, Option.toList_none, List.cons_append, List.nil_append, List.append_nil]
        rw [b_X5_worst_82]
        by_cases h4 : x < (fellF (σ 17 0) (whoF (σ 17 0) c)).2
        · rw [if_pos h4, if_pos ⟨ht.1, h3, h4⟩, b_X5_worst_93 _ _ _ _ _ _ _ (by omega) (by omega)]
          exact ih (c + 1) _ _ _ _ _ (by omega) (by omega) k3
        · rw [if_neg h4, if_neg (fun z => h4 z.2.2), b_X5_worst_90 _ _ _ _ _ _ _ (by omega) (by omega)]
          exact ih (c + 1) _ _ _ _ _ (by omega) (by omega) k3
      · rw [if_neg h3, if_pos rfl, if_neg (fun z => h3 z.2.1), b_X5_worst_59 _ _ _ _ _ _ _ (by omega) (by omega)]
        exact ih (c + 1) _ _ _ _ σ1 (by omega) (by omega) hk
def w1B (w : Int) : Int := if 0 ≤ w ∧ w ≤ 1 then 0 else -2
theorem M_worst (w : Int) (σ : St) (u2 u3 u4 u5 u6 : AV) (h : Mok σ) : Q (fun z => Rx k_X5_worst 0 [.inr (.inl (16, 0)), .inl w, u2, u3, u4, u5, u6] [] σ = some z) σ (w1B w) (worA (σ 17 0) w) := by
  unfold w1B
  have hl : Rx k_X5_worst 0 [.inr (.inl (16, 0)), .inl w, u2, u3, u4, u5, u6] [] σ = if (if 0 ≤ w ∧ w ≤ 1 then (1 : Int) else 0) = 0 then Rx k_X5_worst 9 [.inr (.inl (16, 0)), .inl w, u2, u3, u4, u5, u6] [] σ else Rx k_X5_worst 16 [.inr (.inl (16, 0)), .inl w, u2, u3, u4, u5, u6] [] σ := by
    rw [b_X5_worst_0, C_isIn]
    simp only [Option.bind_some, Option.toList_some, Option.toList_none, List.cons_append, List.nil_append, List.append_nil]
    rw [b_X5_worst_6]
  rw [hl]
  by_cases h1 : 0 ≤ w ∧ w ≤ 1
  · obtain ⟨σ', k1, k2⟩ := L_worst σ h w 20 0 (-9) 0 u5 u6 σ (by decide) (by decide) (MS.refl σ)
    rw [if_pos h1, if_neg (by decide), if_pos h1]
    refine Q_ok k1 ?_
    rw [b_X5_worst_16, k2]
    rfl
  · rw [if_neg h1, if_pos rfl, if_neg h1]
    refine Q_no (by decide) ?_
    rw [b_X5_worst_9, h.no (by decide) (by decide)]
    simp only [Option.bind_some, Option.toList_some, Option.toList_none, List.cons_append, List.nil_append, List.append_nil]
    rw [b_X5_worst_15]
/-- longest -/
def lonG (R : Rw) : Nat → Int → Int → Int → Int → Int × Int
  | 0, _, s, b, _ => (s, b)
  | n + 1, c, s, b, r => if b < (if 0 ≤ whoF R c ∧ uq R (whoF R c) = 1 then r + 1 else 0) then lonG R n (c + 1) (c - (if 0 ≤ whoF R c ∧ uq R (whoF R c) = 1 then r + 1 else 0) + 1) (if 0 ≤ whoF R c ∧ uq R (whoF R c) = 1 then r + 1 else 0) (if 0 ≤ whoF R c ∧ uq R (whoF R c) = 1 then r + 1 else 0) else lonG R n (c + 1) s b (if 0 ≤ whoF R c ∧ uq R (whoF R c) = 1 then r + 1 else 0)
theorem lonG_s (R : Rw) (n : Nat) (c s b r r' : Int) (e : r' = if 0 ≤ whoF R c ∧ uq R (whoF R c) = 1 then r + 1 else 0) : lonG R (n + 1) c s b r = if b < r' then lonG R n (c + 1) (c - r' + 1) r' r' else lonG R n (c + 1) s b r' := by subst e; rfl
def lonA (R : Rw) (w : Int) : Int := if w = 0 then (lonG R 20 0 (-9) 0 0).2 else (lonG R 20 0 (-9) 0 0).1
theorem L_longest (σ : St) (h : Mok σ) (w : Int) : ∀ (n : Nat) (c s b r : Int) (u6 : AV), 0 ≤ c → c + n = 20 → 0 ≤ r → r ≤ c → Rx k_X5_longest 27 [.inr (.inl (16, 0)), .inl w, .inl s, .inl b, .inl r, .inl c, u6] [] σ = some (some (.inl (if w = 0 then (lonG (σ 17 0) n c s b r).2 else (lonG (σ 17 0) n c s b r).1)), σ) := by
  have hb := h.ct
  intro n
  induction n with
  | zero =>
    intro c s b r u6 h0 h1 h2 h3
    rw [b_X5_longest_27, if_neg (by omega), b_X5_longest_98]
    by_cases h4 : w = 0
    · rw [if_pos h4, if_pos h4, b_X5_longest_102]
      rfl
    · rw [if_neg h4, if_neg h4, b_X5_longest_106]
      rfl
  | succ n ih =>
    intro c s b r u6 h0 h1 h2 h3
    have hw := who_spec (R := σ 17 0) hb.2.2.1 c
    have fin : ∀ (r' x6 : Int), 0 ≤ r' → r' ≤ c + 1 → r' = (if 0 ≤ whoF (σ 17 0) c ∧ uq (σ 17 0) (whoF (σ 17 0) c) = 1 then r + 1 else 0) → (if b < r' then Rx k_X5_longest 81 [.inr (.inl (16, 0)), .inl w, .inl s, .inl b, .inl r', .inl c, .inl x6] [] σ else Rx k_X5_longest 78 [.inr (.inl (16, 0)), .inl w, .inl s, .inl b, .inl r', .inl c, .inl x6] [] σ) = some (some (.inl (if w = 0 then (lonG (σ 17 0) (n + 1) c s b r).2 else (lonG (σ 17 0) (n + 1) c s b r).1)), σ) := by
      intro r' x6 a1 a2 e
      rw [lonG_s _ _ _ _ _ _ r' e]
      by_cases h4 : b < r'
      · rw [if_pos h4, if_pos h4, b_X5_longest_81]
        · exact ih (c + 1) _ _ _ _ (by omega) (by omega) (by omega) (by omega)
        all_goals omega
      · rw [if_neg h4, if_neg h4, b_X5_longest_78]
        · exact ih (c + 1) _ _ _ _ (by omega) (by omega) (by omega) (by omega)
        all_goals omega
    rw [b_X5_longest_27, if_pos (by omega), b_X5_longest_34, C_whoAt _ _ _ hb.2.2.1 hb.2.2.2]
    simp only [Option.bind_some, Option.toList_some, Option.toList_none, List.cons_append, List.nil_append, List.append_nil]
    rw [b_X5_longest_43]
    by_cases h5 : whoF (σ 17 0) c < 0
    · rw [if_pos h5, b_X5_longest_69]
      exact fin 0 _ (by decide) (by omega) (by rw [if_neg (fun z => by omega)])
    · rw [if_neg h5, b_X5_longest_50, C_isUp _ _ _ (by omega) (by omega)]
      simp only [Option.bind_some, Option.toList_some, Option.toList_none, List.cons_append, List.nil_append, List.append_nil]
      rw [b_X5_longest_59]
      by_cases h6 : uq (σ 17 0) (whoF (σ 17 0) c) = 1
      · rw [if_pos h6, if_neg (by decide), b_X5_longest_62 _ _ _ _ _ _ _ (by omega) (by omega)]
        exact fin (r + 1) _ (by omega) (by omega) (by rw [if_pos ⟨by omega, h6⟩])
      · rw [if_neg h6, if_pos rfl, b_X5_longest_69]
        exact fin 0 _ (by decide) (by omega) (by rw [if_neg (fun z => h6 z.2)])
theorem M_longest (w : Int) (σ : St) (u2 u3 u4 u5 u6 : AV) (h : Mok σ) : Q (fun z => Rx k_X5_longest 0 [.inr (.inl (16, 0)), .inl w, u2, u3, u4, u5, u6] [] σ = some z) σ (w1B w) (lonA (σ 17 0) w) := by
  unfold w1B
  have hl : Rx k_X5_longest 0 [.inr (.inl (16, 0)), .inl w, u2, u3, u4, u5, u6] [] σ = if (if 0 ≤ w ∧ w ≤ 1 then (1 : Int) else 0) = 0 then Rx k_X5_longest 9 [.inr (.inl (16, 0)), .inl w, u2, u3, u4, u5, u6] [] σ else Rx k_X5_longest 16 [.inr (.inl (16, 0)), .inl w, u2, u3, u4, u5, u6] [] σ := by
    rw [b_X5_longest_0, C_isIn]
    simp only [Option.bind_some, Option.toList_some, Option.toList_none, List.cons_append, List.nil_append, List.append_nil]
    rw [b_X5_longest_6]
  rw [hl]
  by_cases h1 : 0 ≤ w ∧ w ≤ 1
  · rw [if_pos h1, if_neg (by decide), if_pos h1]
    refine Q_ok (MS.refl σ) ?_
    rw [b_X5_longest_16, L_longest σ h w 20 0 (-9) 0 0 u6 (by decide) (by decide) (by decide) (by decide)]
    rfl
  · rw [if_neg h1, if_pos rfl, if_neg h1]
    refine Q_no (by decide) ?_
    rw [b_X5_longest_9, h.no (by decide) (by decide)]
    simp only [Option.bind_some, Option.toList_some, Option.toList_none, List.cons_append, List.nil_append, List.append_nil]
    rw [b_X5_longest_15]
