/-! sums, and what would stand -/
/-- the weight of a mask of things -/
def wofG (R : Rw) (x : Nat) : Nat → Int
  | 0 => 0
  | n + 1 => wofG R x n + (if x.testBit n = true then wt R n else 0)
def wofF (R : Rw) (x : Nat) : Int := wofG R x (R 1).toNat
theorem wofG_s (R : Rw) (x n : Nat) : wofG R x (n + 1) = wofG R x n + (if x.testBit n = true then wt R n else 0) := rfl
theorem wofG_bd {R : Rw} (x : Nat) (h : ∀ t, 0 ≤ t → t < R 1 → 0 ≤ wt R t ∧ wt R t ≤ 9) : ∀ n : Nat, (n : Int) ≤ R 1 → 0 ≤ wofG R x n ∧ wofG R x n ≤ 9 * n := by
  intro n
  induction n with
  | zero => intro _; exact ⟨by simp [wofG], by simp [wofG]⟩
  | succ n ih =>
    intro hn
    have h1 := ih (by omega)
    have h2 := h n (by omega) (by omega)
    rw [wofG_s]
    split <;> omega
theorem L_weightOf (x : Nat) (hx : x < 2147483648) (σ : St) (hR : Iv1 (σ 17 0)) : ∀ (n m : Nat), (m : Int) + n = σ 17 0 1 → Rx k_X5_weightOf 4 [.inr (.inl (16, 0)), .inl (x : Int), .inl (wofG (σ 17 0) x m), .inl m] [] σ = some (some (.inl (wofG (σ 17 0) x (m + n))), σ) := by
  have hb := hR.1
  unfold Iv0 at hb
  intro n
  induction n with
  | zero =>
    intro m h1
    rw [b_X5_weightOf_4, if_neg (by omega), b_X5_weightOf_47]
    rfl
  | succ n ih =>
    intro m h1
    have k := ih (m + 1) (by omega)
    have hw := wofG_bd (R := σ 17 0) x (fun t h0 h2 => by have := hR.2 t h0 h2; omega) m (by omega)
    have hm := hR.2 m (by omega) (by omega)
    rw [show m + (n + 1) = m + 1 + n by omega, ← k, wofG_s]
    rw [b_X5_weightOf_4, if_pos (by omega), b_X5_weightOf_14, bitS hx (by omega)]
    by_cases h2 : x.testBit m = true
    · rw [if_pos h2, if_pos rfl, if_pos h2, b_X5_weightOf_24, C_ofT _ _ (by omega) (by omega)]
      simp only [Option.bind_some, Option.toList_some, Option.toList_none, List.cons_append, List.nil_append, List.append_nil]
      unfold wt at hm ⊢
      rw [b_X5_weightOf_32 _ _ _ _ _ _ (by omega) (by omega) (by omega) (by omega) (by omega) (by omega) (by omega) (by omega)]
      rfl
    · rw [if_neg h2, if_neg (by decide), if_neg h2, b_X5_weightOf_38 _ _ _ _ _ (by omega) (by omega) (by omega) (by omega)]
      rfl
theorem C_weightOf (x : Nat) (hx : x < 2147483648) (σ : St) (hR : Iv1 (σ 17 0)) (u v : AV) : Rx k_X5_weightOf 0 [.inr (.inl (16, 0)), .inl (x : Int), u, v] [] σ = some (some (.inl (wofF (σ 17 0) x)), σ) := by
  have hb := hR.1
  unfold Iv0 at hb
  rw [b_X5_weightOf_0]
  have k := L_weightOf x hx σ hR (σ 17 0 1).toNat 0 (by omega)
  rw [Nat.zero_add] at k
  exact k
def strG (R : Rw) : Nat → Int
  | 0 => 0
  | n + 1 => strG R n + sg R n
def strF (R : Rw) : Int := strG R (R 0).toNat
theorem strG_s (R : Rw) (n : Nat) : strG R (n + 1) = strG R n + sg R n := rfl
theorem strG_bd {R : Rw} (h : IvP R) : ∀ n : Nat, (n : Int) ≤ R 0 → 0 ≤ strG R n ∧ strG R n ≤ 99 * n := by
  intro n
  induction n with
  | zero => intro _; exact ⟨by simp [strG], by simp [strG]⟩
  | succ n ih =>
    intro hn
    have h1 := ih (by omega)
    have h2 := h n (by omega) (by omega)
    rw [strG_s]
    omega
theorem L_strengthAll (q : Nat) (σ : St) (hR : Iv (σ 17 q)) : ∀ (n m : Nat), (m : Int) + n = σ 17 q 0 → Rx k_X5_strengthAll 4 [.inr (.inl (17, q)), .inl (strG (σ 17 q) m), .inl m] [] σ = some (some (.inl (strG (σ 17 q) (m + n))), σ) := by
  have hb := hR.1
  unfold Iv0 at hb
  intro n
  induction n with
  | zero =>
    intro m h1
    rw [b_X5_strengthAll_4, if_neg (by omega), b_X5_strengthAll_28]
    rfl
  | succ n ih =>
    intro m h1
    have k := ih (m + 1) (by omega)
    have hw := strG_bd hR.2.1 m (by omega)
    have hm := hR.2.1 m (by omega) (by omega)
    rw [show m + (n + 1) = m + 1 + n by omega, ← k, strG_s]
    rw [b_X5_strengthAll_4, if_pos (by omega), b_X5_strengthAll_11, C_ofP _ _ (by omega) (by omega)]
    simp only [Option.bind_some, Option.toList_some, Option.toList_none, List.cons_append, List.nil_append, List.append_nil]
    unfold sg at hm ⊢
    rw [b_X5_strengthAll_17 _ _ _ _ _ _ _ (by omega) (by omega) (by omega) (by omega) (by omega) (by omega) (by omega) (by omega)]
    rfl
theorem C_strengthAll (q : Nat) (σ : St) (hR : Iv (σ 17 q)) (u v : AV) : Rx k_X5_strengthAll 0 [.inr (.inl (17, q)), u, v] [] σ = some (some (.inl (strF (σ 17 q))), σ) := by
  have hb := hR.1
  unfold Iv0 at hb
  rw [b_X5_strengthAll_0]
  have k := L_strengthAll q σ hR (σ 17 q 0).toNat 0 (by omega)
  rw [Nat.zero_add] at k
  exact k
/-- the row with another strength -/
theorem Iv.st {R : Rw} (h : Iv R) {p v : Int} (h0 : 0 ≤ p) (h1 : p < 5) (hv : 0 ≤ v ∧ v ≤ 99) : Iv (wrt R (3 + 3 * p + 2).toNat v) := by
  obtain ⟨i0, iP, iT, iD⟩ := h
  have w0 : wrt R (3 + 3 * p + 2).toNat v 0 = R 0 := wrt_ne (by omega)
  have w1 : wrt R (3 + 3 * p + 2).toNat v 1 = R 1 := wrt_ne (by omega)
  have ew : ∀ t, 0 ≤ t → wt (wrt R (3 + 3 * p + 2).toNat v) t = wt R t ∧ pl (wrt R (3 + 3 * p + 2).toNat v) t = pl R t ∧ on (wrt R (3 + 3 * p + 2).toNat v) t = on R t ∧ uq (wrt R (3 + 3 * p + 2).toNat v) t = uq R t := by
    intro t ht
    exact ⟨wrt_ne (by omega), wrt_ne (by omega), wrt_ne (by omega), wrt_ne (by omega)⟩
  have hb := i0
  unfold Iv0 at hb
  refine ⟨by unfold Iv0; rw [w0, w1]; exact i0, ?_, ?_, ?_⟩
  · intro s a b
    rw [w0] at b
    have e1 : kd (wrt R (3 + 3 * p + 2).toNat v) s = kd R s := wrt_ne (by omega)
    have e2 : fg (wrt R (3 + 3 * p + 2).toNat v) s = fg R s := wrt_ne (by omega)
    have k := iP s a b
    rw [e1, e2]
    by_cases hs : s = p
    · have e3 : sg (wrt R (3 + 3 * p + 2).toNat v) s = v := wrt_eq (by rw [hs])
      rw [e3]; omega
    · have e3 : sg (wrt R (3 + 3 * p + 2).toNat v) s = sg R s := wrt_ne (by omega)
      rw [e3]; omega
  · intro t a b
    rw [w1] at b
    obtain ⟨e1, e2, e3, e4⟩ := ew t a
    rw [e1, e2, e3, e4, w0]
    exact iT t a b
  · intro t t' a b a' b' e
    rw [w1] at b b'
    rw [(ew t a).2.1, (ew t' a').2.1] at e
    exact iD t t' a b a' b' e
theorem C_upWith (p v d : Int) (σ : St) (hR : Iv (σ 17 0)) (hz : ∀ k : Nat, 58 ≤ k → σ 17 1 k = σ 17 0 k) (h0 : 0 ≤ p) (h1 : p < 5) (hv : 0 ≤ v ∧ v ≤ 99) (hd : 0 ≤ d) (h2 : 0 ≤ σ 17 0 2) (h3 : σ 17 0 2 + d ≤ 10000) : ∃ σ', MS σ σ' ∧ Rx k_X5_upWith 0 [.inr (.inl (16, 0)), .inl p, .inl v, .inl d] [] σ = some (some (.inl (pc10 (upF (daysF d.toNat (wrt (σ 17 0) (3 + 3 * p + 2).toNat v))) : Nat)), σ') := by
  have iw := hR.st h0 h1 hv
  have w2 : wrt (σ 17 0) (3 + 3 * p + 2).toNat v 2 = σ 17 0 2 := wrt_ne (by omega)
  obtain ⟨g, hg⟩ := C_upIn d (setR σ 1 (wrt (σ 17 0) (3 + 3 * p + 2).toNat v)) (by rw [setR_at]; exact iw) hd (by rw [setR_at, w2]; exact h2) (by rw [setR_at, w2]; exact h3)
  rw [setR_at, sR_setR] at hg
  obtain ⟨o1, o2, o3, o4, o5⟩ := daysF_ok d.toNat iw
  refine ⟨sR σ 1 (daysF d.toNat (wrt (σ 17 0) (3 + 3 * p + 2).toNat v)) g, MS.ofR (fun k hk => ?_), ?_⟩
  · rw [o5 k hk, hz k hk]; exact wrt_ne (by omega)
  · rw [b_X5_upWith_0, C_copies _ _ _ (by decide) hz]
    simp only [Option.bind_some, Option.toList_some, Option.toList_none, List.cons_append, List.nil_append, List.append_nil]
    rw [b_X5_upWith_11, C_ofP _ _ (by omega) (by omega)]
    simp only [Option.bind_some, Option.toList_some, Option.toList_none, List.cons_append, List.nil_append, List.append_nil]
    rw [b_X5_upWith_19 _ _ _ _ _ (by omega) (by omega) (by omega) (by omega), up17s, hg]
    simp only [Option.bind_some, Option.toList_some, Option.toList_none, List.cons_append, List.nil_append, List.append_nil]
    rw [b_X5_upWith_28]
/-- one push of a thing that must be up -/
def psF (R : Rw) (t c : Int) : Rw := if c = 1 ∧ uq R t = 1 then (fellF R t).1 else R
theorem psF_dn {R : Rw} (h : Iv R) {t : Int} (c : Int) (h0 : 0 ≤ t) (h1 : t < R 1) : Dn R (psF R t c) := by
  unfold psF
  split
  · exact fellF_dn h.to1 h0 h1
  · exact Dn.rf R
theorem L_push (t c : Int) (σ : St) (hR : Iv (σ 17 1)) (h0 : 0 ≤ t) (h1 : t < σ 17 1 1) : MS σ (setR σ 1 (psF (σ 17 1) t c)) := MS.set (fun k hk => (psF_dn hR c h0 h1).2.2.2.2.2.2 k hk)
theorem C_upPushed (t c t' c' d : Int) (σ : St) (u v : AV) (hR : Iv (σ 17 0)) (hz : ∀ k : Nat, 58 ≤ k → σ 17 1 k = σ 17 0 k) (h0 : 0 ≤ t) (h1 : t < σ 17 0 1) (h0' : 0 ≤ t') (h1' : t' < σ 17 0 1) (hd : 0 ≤ d) (h2 : 0 ≤ σ 17 0 2) (h3 : σ 17 0 2 + d ≤ 10000) : ∃ σ', MS σ σ' ∧ Rx k_X5_upPushed 0 [.inr (.inl (16, 0)), .inl t, .inl c, .inl t', .inl c', .inl d, u, v] [] σ = some (some (.inl (pc10 (upF (daysF d.toNat (psF (psF (σ 17 0) t c) t' c'))) : Nat)), σ') := by
  have hb := hR.1
  unfold Iv0 at hb
  have d1 := psF_dn hR c h0 h1
  have i1 := hR.dn d1
  have e1 : psF (σ 17 0) t c 1 = σ 17 0 1 := d1.2.1
  have d2 := psF_dn i1 c' h0' (by rw [e1]; exact h1')
  have i2 := i1.dn d2
  have e2 : psF (psF (σ 17 0) t c) t' c' 2 = σ 17 0 2 := d2.2.2.1.trans d1.2.2.1
  obtain ⟨o1, o2, o3, o4, o5⟩ := daysF_ok d.toNat i2
  obtain ⟨g, hg⟩ := C_upIn d (setR σ 1 (psF (psF (σ 17 0) t c) t' c')) (by rw [setR_at]; exact i2) hd (by rw [setR_at, e2]; exact h2) (by rw [setR_at, e2]; exact h3)
  rw [setR_at, sR_setR] at hg
  refine ⟨sR σ 1 (daysF d.toNat (psF (psF (σ 17 0) t c) t' c')) g, MS.ofR (fun k hk => ?_), ?_⟩
  · rw [o5 k hk, d2.2.2.2.2.2.2 k hk, d1.2.2.2.2.2.2 k hk, hz k hk]
  · have step2 : ∀ x6 : Int, (if c' = 1 then Rx k_X5_upPushed 47 [.inr (.inl (16, 0)), .inl t, .inl c, .inl t', .inl c', .inl d, .inl x6, v] [] (setR σ 1 (psF (σ 17 0) t c)) else Rx k_X5_upPushed 69 [.inr (.inl (16, 0)), .inl t, .inl c, .inl t', .inl c', .inl d, .inl x6, v] [] (setR σ 1 (psF (σ 17 0) t c))) = some (some (.inl (pc10 (upF (daysF d.toNat (psF (psF (σ 17 0) t c) t' c'))) : Nat)), sR σ 1 (daysF d.toNat (psF (psF (σ 17 0) t c) t' c')) g) := by
      intro x6
      have fin69 : ¬ (c' = 1 ∧ uq (psF (σ 17 0) t c) t' = 1) → Rx k_X5_upPushed 69 [.inr (.inl (16, 0)), .inl t, .inl c, .inl t', .inl c', .inl d, .inl x6, v] [] (setR σ 1 (psF (σ 17 0) t c)) = some (some (.inl (pc10 (upF (daysF d.toNat (psF (psF (σ 17 0) t c) t' c'))) : Nat)), sR σ 1 (daysF d.toNat (psF (psF (σ 17 0) t c) t' c')) g) := by
        intro z
        have e : psF (psF (σ 17 0) t c) t' c' = psF (σ 17 0) t c := if_neg z
        rw [e] at hg ⊢
        rw [b_X5_upPushed_69, hg]
        simp only [Option.bind_some, Option.toList_some, Option.toList_none, List.cons_append, List.nil_append, List.append_nil]
        rw [b_X5_upPushed_78]
      by_cases hc : c' = 1
      · rw [if_pos hc, b_X5_upPushed_47, C_isUp 1 _ _ h0' (by omega), setR_at]
        simp only [Option.bind_some, Option.toList_some, Option.toList_none, List.cons_append, List.nil_append, List.append_nil]
        rw [b_X5_upPushed_55]
        by_cases hu : uq (psF (σ 17 0) t c) t' = 1
        · have e : psF (psF (σ 17 0) t c) t' c' = (fellF (psF (σ 17 0) t c) t').1 := if_pos ⟨hc, hu⟩
          rw [if_pos hu, if_neg (by decide), b_X5_upPushed_58, C_fells 1 _ _ (by rw [setR_at]; exact i1.to1) h0' (by rw [setR_at, e1]; exact h1'), setR_at, setR_set]
          simp only [Option.bind_some, Option.toList_some, Option.toList_none, List.cons_append, List.nil_append, List.append_nil]
          rw [b_X5_upPushed_66, ← e, hg]
          simp only [Option.bind_some, Option.toList_some, Option.toList_none, List.cons_append, List.nil_append, List.append_nil]
          rw [b_X5_upPushed_78]
        · rw [if_neg hu, if_pos rfl]
          exact fin69 (fun z => hu z.2)
      · rw [if_neg hc]
        exact fin69 (fun z => hc z.1)
    have step1 : ¬ (c = 1 ∧ uq (σ 17 0) t = 1) → Rx k_X5_upPushed 38 [.inr (.inl (16, 0)), .inl t, .inl c, .inl t', .inl c', .inl d, u, v] [] (setR σ 1 (σ 17 0)) = some (some (.inl (pc10 (upF (daysF d.toNat (psF (psF (σ 17 0) t c) t' c'))) : Nat)), sR σ 1 (daysF d.toNat (psF (psF (σ 17 0) t c) t' c')) g) := by
      intro z
      have k := step2 0
      have e : psF (σ 17 0) t c = σ 17 0 := if_neg z
      rw [e] at k ⊢
      rw [b_X5_upPushed_38]
      exact k
    rw [b_X5_upPushed_0, C_copies _ _ _ (by decide) hz]
    simp only [Option.bind_some, Option.toList_some, Option.toList_none, List.cons_append, List.nil_append, List.append_nil]
    rw [b_X5_upPushed_11]
    by_cases hc : c = 1
    · rw [if_pos hc, b_X5_upPushed_16, C_isUp 1 _ _ h0 (by omega), setR_at]
      simp only [Option.bind_some, Option.toList_some, Option.toList_none, List.cons_append, List.nil_append, List.append_nil]
      rw [b_X5_upPushed_24]
      by_cases hu : uq (σ 17 0) t = 1
      · have e : psF (σ 17 0) t c = (fellF (σ 17 0) t).1 := if_pos ⟨hc, hu⟩
        rw [if_pos hu, if_neg (by decide), b_X5_upPushed_27, C_fells 1 _ _ (by rw [setR_at]; exact hR.to1) h0 (by rw [setR_at]; exact h1), setR_at, setR_set]
        simp only [Option.bind_some, Option.toList_some, Option.toList_none, List.cons_append, List.nil_append, List.append_nil]
        rw [b_X5_upPushed_35, ← e]
        exact step2 _
      · rw [if_neg hu, if_pos rfl]
        exact step1 (fun z => hu z.2)
    · rw [if_neg hc]
      exact step1 (fun z => hc z.1)
/-- the greatest common divisor, and a part of it -/
theorem C_gcd (a b : Nat) (σ : St) : ∀ (n m : Nat) (k : Nat) (u v : AV), m ≤ k → Rx k_X5_gcd 6 [.inr (.inr a), uns, .inr (.inr b), uns, .inr (.inr (n : Int)), uns, .inr (.inr (m : Int)), uns, u, v] [] σ = some (some (.inr (.inr (Nat.gcd n m : Nat))), σ) := by
  intro n m k
  induction k generalizing n m with
  | zero =>
    intro u v h
    have e : m = 0 := by omega
    subst e
    rw [b_X5_gcd_6, if_pos (by rfl), b_X5_gcd_31, Nat.gcd_zero_right]
  | succ k ih =>
    intro u v h
    by_cases e : m = 0
    · subst e
      rw [b_X5_gcd_6, if_pos (by rfl), b_X5_gcd_31, Nat.gcd_zero_right]
    · have hm : n % m < m := Nat.mod_lt _ (by omega)
      rw [b_X5_gcd_6, if_neg (by rw [if_pos (show (0 : Int) < m by omega)]; decide), b_X5_gcd_13 _ _ _ _ _ _ _ (by omega)]
      rw [show (n : Int).tmod (m : Int) = ((n % m : Nat) : Int) from rfl, ih m (n % m) _ _ (by omega), Nat.gcd_comm m, ← Nat.gcd_rec, Nat.gcd_comm]
def partF (a b : Nat) (x : Int) : Int := if a = 0 then x else (((if x = 0 then a else b) / Nat.gcd a b : Nat) : Int)
theorem C_partOf (a b : Nat) (x : Int) (σ : St) (ka : a < 9223372036854775808) (kb : b < 9223372036854775808) : Rx k_X5_partOf 0 [.inr (.inr (a : Int)), uns, .inr (.inr (b : Int)), uns, .inl x] [] σ = some (some (.inr (.inr (partF a b x))), σ) := by
  unfold partF
  by_cases ha : a = 0
  · subst ha
    rw [b_X5_partOf_0, if_pos (by rfl), b_X5_partOf_6, if_pos rfl]
  · have hg : (Nat.gcd a b : Nat) ≠ 0 := fun z => ha (Nat.eq_zero_of_gcd_eq_zero_left z)
    rw [b_X5_partOf_0, if_neg (by rw [if_pos (show (0 : Int) < a by omega)]; decide), b_X5_partOf_10, if_neg ha]
    have ea : (a : Int).tdiv (Nat.gcd a b : Nat) = ((a / Nat.gcd a b : Nat) : Int) := rfl
    have eb : (b : Int).tdiv (Nat.gcd a b : Nat) = ((b / Nat.gcd a b : Nat) : Int) := rfl
    have la := Nat.div_le_self a (Nat.gcd a b)
    have lb := Nat.div_le_self b (Nat.gcd a b)
    by_cases hx : x = 0
    · rw [if_pos hx, b_X5_partOf_15, b_X5_gcd_0, C_gcd a b σ a b b _ _ (Nat.le_refl _)]
      simp only [Option.bind_some, Option.toList_some, Option.toList_none, List.cons_append, List.nil_append, List.append_nil]
      rw [b_X5_partOf_25 _ _ _ _ _ _ (by omega) (by rw [ea]; exact Int.le_trans (by decide) (Int.natCast_nonneg _)) (by rw [ea]; exact Int.ofNat_lt.mpr (Nat.lt_of_le_of_lt la ka)), if_pos hx]
      rfl
    · rw [if_neg hx, b_X5_partOf_19, b_X5_gcd_0, C_gcd a b σ a b b _ _ (Nat.le_refl _)]
      simp only [Option.bind_some, Option.toList_some, Option.toList_none, List.cons_append, List.nil_append, List.append_nil]
      rw [b_X5_partOf_25 _ _ _ _ _ _ (by omega) (by rw [eb]; exact Int.le_trans (by decide) (Int.natCast_nonneg _)) (by rw [eb]; exact Int.ofNat_lt.mpr (Nat.lt_of_le_of_lt lb kb)), if_neg hx]
      rfl
