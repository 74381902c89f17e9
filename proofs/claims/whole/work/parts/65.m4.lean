/-! the reference's scratch, and its middle methods -/
/-- only scratch may differ: the second row, the tags 18 and 22 -/
def MS (σ σ' : St) : Prop := ∀ t r k, (t = 17 ∧ r = 1 ∧ k < 58) ∨ t = 18 ∨ t = 22 ∨ σ' t r k = σ t r k
theorem MS.refl (σ : St) : MS σ σ := fun _ _ _ => Or.inr (Or.inr (Or.inr rfl))
theorem MS.trans {a b c : St} (h : MS a b) (k : MS b c) : MS a c := by
  intro t r j
  rcases h t r j with x | x | x | x
  · exact Or.inl x
  · exact Or.inr (Or.inl x)
  · exact Or.inr (Or.inr (Or.inl x))
  · rcases k t r j with y | y | y | y
    · exact Or.inl y
    · exact Or.inr (Or.inl y)
    · exact Or.inr (Or.inr (Or.inl y))
    · exact Or.inr (Or.inr (Or.inr (y.trans x)))
theorem MS.ofR {σ : St} {R : Rw} {g : Nat → Int} (h : ∀ k : Nat, 58 ≤ k → R k = σ 17 1 k) : MS σ (sR σ 1 R g) := by
  intro t r k
  by_cases h1 : t = 18
  · exact Or.inr (Or.inl h1)
  · by_cases h2 : t = 17 ∧ r = 1
    · by_cases h3 : k < 58
      · exact Or.inl ⟨h2.1, h2.2, h3⟩
      · obtain ⟨rfl, rfl⟩ := h2
        exact Or.inr (Or.inr (Or.inr (by rw [sR_17]; exact h k (by omega))))
    · refine Or.inr (Or.inr (Or.inr ?_))
      show set18 (setR σ 1 R) g t r k = σ t r k
      rw [s18_t _ _ h1]
      unfold setR
      rw [if_neg h2]
theorem MS.set {σ : St} {R : Rw} (h : ∀ k : Nat, 58 ≤ k → R k = σ 17 1 k) : MS σ (setR σ 1 R) := by
  have k := MS.ofR (σ := σ) (R := R) (g := σ 18 0) h
  rwa [show sR σ 1 R (σ 18 0) = setR σ 1 R by unfold sR; rw [← setR_18, s18_self]] at k
theorem MS.tag {σ σ' : St} (h : MS σ σ') {t : Nat} (h1 : t ≠ 17) (h2 : t ≠ 18) (h3 : t ≠ 22) : σ' t = σ t := by
  funext r k
  rcases h t r k with x | x | x | x
  · exact absurd x.1 h1
  · exact absurd x h2
  · exact absurd x h3
  · exact x
theorem MS.row {σ σ' : St} (h : MS σ σ') {r : Nat} (h1 : r ≠ 1) : σ' 17 r = σ 17 r := by
  funext k
  rcases h 17 r k with x | x | x | x
  · exact absurd x.2.1 h1
  · exact absurd x (by decide)
  · exact absurd x (by decide)
  · exact x
theorem MS.out {σ σ' : St} (h : MS σ σ') {k : Nat} (h1 : 58 ≤ k) : σ' 17 1 k = σ 17 1 k := by
  rcases h 17 1 k with x | x | x | x
  · omega
  · exact absurd x (by decide)
  · exact absurd x (by decide)
  · exact x
theorem sR_sR (σ : St) (q : Nat) (R R' : Rw) (g g' : Nat → Int) : sR (sR σ q R g) q R' g' = sR σ q R' g' := by
  unfold sR; rw [setR_18, s18_s, setR_set]
theorem sR_setR (σ : St) (q : Nat) (R R' : Rw) (g' : Nat → Int) : sR (setR σ q R) q R' g' = sR σ q R' g' := by
  unfold sR; rw [setR_set]
theorem setR_sR (σ : St) (q : Nat) (R R' : Rw) (g : Nat → Int) : setR (sR σ q R g) q R' = sR σ q R' g := sR_set _ _ _ _ _
theorem sR_self (σ : St) (q : Nat) : sR σ q (σ 17 q) (σ 18 0) = σ := by unfold sR; rw [← setR_18, s18_self, setR_self]
theorem sR_in (σ : St) (q : Nat) (R : Rw) (g : Nat → Int) {r : Nat} (h : r ≠ q) : sR σ q R g 17 r = σ 17 r := by unfold sR; rw [s18_t _ _ (by decide), setR_in _ _ _ h]
theorem L_copies (q r : Nat) (σ : St) (hq : q ≠ r) : ∀ (n m : Nat) (R : Rw), m + n = 58 → (∀ k : Nat, k < m ∨ 58 ≤ k → R k = σ 17 q k) → Rx k_X5_copies 2 [.inr (.inl (17, q)), .inr (.inl (17, r)), .inl m] [] (setR σ r R) = some (none, setR σ r (σ 17 q)) := by
  intro n
  induction n with
  | zero =>
    intro m R h1 hk
    rw [b_X5_copies_2, if_neg (by omega), b_X5_copies_20]
    rw [show R = σ 17 q from funext fun k => hk k (by omega)]
  | succ n ih =>
    intro m R h1 hk
    rw [b_X5_copies_2, if_pos (by omega), b_X5_copies_8 _ _ _ _ (by omega) (by omega) (by omega) (by omega), up17s, setR_in _ _ _ hq, Int.toNat_natCast]
    refine ih (m + 1) _ (by omega) ?_
    intro k h2
    by_cases h3 : k = m
    · rw [wrt_eq h3, h3]
    · rw [wrt_ne h3]; exact hk k (by omega)
theorem C_copies (q r : Nat) (σ : St) (hq : q ≠ r) (hz : ∀ k : Nat, 58 ≤ k → σ 17 r k = σ 17 q k) (u : AV) : Rx k_X5_copies 0 [.inr (.inl (17, q)), .inr (.inl (17, r)), u] [] σ = some (none, setR σ r (σ 17 q)) := by
  rw [b_X5_copies_0]
  have h := L_copies q r σ hq 58 0 (σ 17 r) rfl (fun k h2 => hz k (by omega))
  rwa [setR_self] at h
theorem L_daysOn (q : Nat) (N : Int) : ∀ (n m : Nat) (σ : St), (m : Int) + n = N → n ≤ 10000 → N ≤ 1000000 → Iv (σ 17 q) → 0 ≤ σ 17 q 2 → σ 17 q 2 + n ≤ 50000 → ∃ g : Nat → Int, Rx k_X5_daysOn 2 [.inr (.inl (16, 0)), .inr (.inl (17, q)), .inl N, .inl m] [] σ = some (none, sR σ q (daysF n (σ 17 q)) g) := by
  intro n
  induction n with
  | zero =>
    intro m σ h1 hm hN hR h2 h3
    refine ⟨σ 18 0, ?_⟩
    rw [b_X5_daysOn_2, if_neg (by omega), b_X5_daysOn_18]
    rw [show daysF 0 (σ 17 q) = σ 17 q from rfl, sR_self]
  | succ n ih =>
    intro m σ h1 hm hN hR h2 h3
    obtain ⟨g, hd⟩ := C_day q σ hR h2 (by omega)
    obtain ⟨o1, o2, o3, o4, o5⟩ := dayF_ok hR
    obtain ⟨g', hg⟩ := ih (m + 1) (sR σ q (dayF (σ 17 q)) g) (by omega) (by omega) hN (by rw [sR_17]; exact o1) (by rw [sR_17, o4]; omega) (by rw [sR_17, o4]; omega)
    refine ⟨g', ?_⟩
    rw [b_X5_daysOn_2, if_pos (by omega), b_X5_daysOn_7, hd]
    simp only [Option.bind_some, Option.toList_some, Option.toList_none, List.cons_append, List.nil_append, List.append_nil]
    rw [b_X5_daysOn_12 _ _ _ _ (by omega) (by omega)]
    rw [sR_17, sR_sR] at hg
    exact hg
theorem C_daysOn (q : Nat) (x : Int) (σ : St) (hR : Iv (σ 17 q)) (h0 : 0 ≤ x) (h2 : 0 ≤ σ 17 q 2) (h3 : σ 17 q 2 + x ≤ 10000) : ∃ g : Nat → Int, Rx k_X5_daysOn 0 [.inr (.inl (16, 0)), .inr (.inl (17, q)), .inl x, uns] [] σ = some (none, sR σ q (daysF x.toNat (σ 17 q)) g) := by
  rw [b_X5_daysOn_0]
  exact L_daysOn q x x.toNat 0 σ (by omega) (by omega) (by omega) hR h2 (by omega)
theorem upF_lt {R : Rw} (h : R 1 ≤ 10) : upF R < 2147483648 := Nat.lt_trans (upG_lt10 R (by omega)) (by decide)
theorem C_upBits (q : Nat) (σ : St) (hR : Iv1 (σ 17 q)) : (Rx k_X5_upSet 0 [.inr (.inl (17, q)), uns, uns] [] σ).bind (fun z => (Rx k_X5_bits 0 (z.1.toList ++ [uns, uns]) [] z.2)) = some (some (.inl (pc10 (upF (σ 17 q)) : Nat)), σ) := by
  have hb := hR.1
  unfold Iv0 at hb
  rw [C_upSet _ _ hR]
  simp only [Option.bind_some, Option.toList_some, Option.toList_none, List.cons_append, List.nil_append, List.append_nil]
  rw [C_bits _ (upF_lt hb.2.2.2)]
theorem C_upIn (x : Int) (σ : St) (hR : Iv (σ 17 1)) (h0 : 0 ≤ x) (h2 : 0 ≤ σ 17 1 2) (h3 : σ 17 1 2 + x ≤ 10000) : ∃ g : Nat → Int, Rx k_X5_upIn 0 [.inr (.inl (16, 0)), .inl x] [] σ = some (some (.inl (pc10 (upF (daysF x.toNat (σ 17 1))) : Nat)), sR σ 1 (daysF x.toNat (σ 17 1)) g) := by
  obtain ⟨g, hd⟩ := C_daysOn 1 x σ hR h0 h2 h3
  obtain ⟨o1, o2, o3, o4, o5⟩ := daysF_ok x.toNat hR
  have hb := o1.1
  unfold Iv0 at hb
  refine ⟨g, ?_⟩
  rw [b_X5_upIn_0, hd]
  simp only [Option.bind_some, Option.toList_some, Option.toList_none, List.cons_append, List.nil_append, List.append_nil]
  rw [b_X5_upIn_9, C_upSet 1 _ (by rw [sR_17]; exact o1.to1), sR_17]
  simp only [Option.bind_some, Option.toList_some, Option.toList_none, List.cons_append, List.nil_append, List.append_nil]
  rw [b_X5_upIn_16, C_bits _ (upF_lt hb.2.2.2)]
  simp only [Option.bind_some, Option.toList_some, Option.toList_none, List.cons_append, List.nil_append, List.append_nil]
  rw [b_X5_upIn_19]
theorem C_takesOn (x : Int) (σ : St) (hR : Iv (σ 17 0)) (hz : ∀ k : Nat, 58 ≤ k → σ 17 1 k = σ 17 0 k) (h0 : 0 ≤ x) (h2 : 0 ≤ σ 17 0 2) (h3 : σ 17 0 2 + x ≤ 10000) : ∃ g : Nat → Int, Rx k_X5_takesOn 0 [.inr (.inl (16, 0)), .inl x] [] σ = some (none, sR σ 1 (daysF x.toNat (σ 17 0)) g) := by
  obtain ⟨g, hd⟩ := C_daysOn 1 x (setR σ 1 (σ 17 0)) (by rw [setR_at]; exact hR) h0 (by rw [setR_at]; exact h2) (by rw [setR_at]; exact h3)
  refine ⟨g, ?_⟩
  rw [b_X5_takesOn_0, C_copies _ _ _ (by decide) hz]
  simp only [Option.bind_some, Option.toList_some, Option.toList_none, List.cons_append, List.nil_append, List.append_nil]
  rw [b_X5_takesOn_11, hd]
  simp only [Option.bind_some, Option.toList_some, Option.toList_none, List.cons_append, List.nil_append, List.append_nil]
  rw [b_X5_takesOn_20, setR_at, sR_setR]
theorem C_no (x : Int) (σ : St) (h0 : -6 ≤ x) (h1 : x ≤ 0) (h2 : 0 ≤ σ 21 0 (-x).toNat) (h3 : σ 21 0 (-x).toNat < 2147483600) : Rx k_X5_no 0 [.inr (.inl (16, 0)), .inl x] [] σ = some (some (.inl x), up σ 21 0 (-x).toNat (σ 21 0 (-x).toNat + 1)) := by
  rw [b_X5_no_0 _ _ (by omega) (by omega) (by omega) (by omega) (by omega) (by omega)]
theorem C_noFar (x : Int) (σ : St) (h0 : -6 ≤ x) (h1 : x ≤ 0) (h2 : 0 ≤ σ 21 0 (-x).toNat) (h3 : σ 21 0 (-x).toNat < 2147483600) : Rx k_X5_noFar 0 [.inr (.inl (16, 0)), .inl x] [] σ = some (some (.inl (1000000000 - x)), up σ 21 0 (-x).toNat (σ 21 0 (-x).toNat + 1)) := by
  rw [b_X5_noFar_0, C_no x σ h0 h1 h2 h3]
  simp only [Option.bind_some, Option.toList_some, Option.toList_none, List.cons_append, List.nil_append, List.append_nil]
  rw [b_X5_noFar_7 _ _ _ _ (by omega) (by omega)]
theorem C_noWide (x : Int) (σ : St) (h0 : -6 ≤ x) (h1 : x ≤ 0) (h2 : 0 ≤ σ 21 0 (-x).toNat) (h3 : σ 21 0 (-x).toNat < 2147483600) : Rx k_X5_noWide 0 [.inr (.inl (16, 0)), .inl x] [] σ = some (some (.inr (.inr (4000000000000000000 - x))), up σ 21 0 (-x).toNat (σ 21 0 (-x).toNat + 1)) := by
  rw [b_X5_noWide_0, C_no x σ h0 h1 h2 h3]
  simp only [Option.bind_some, Option.toList_some, Option.toList_none, List.cons_append, List.nil_append, List.append_nil]
  rw [b_X5_noWide_8 _ _ _ _ (by omega) (by omega)]
theorem rk01 (c : Prop) [Decidable c] : rkOK 2 (if c then 1 else 0) = true := by split <;> rfl
theorem C_isPurpose (x : Int) (σ : St) (h : Iv0 (σ 17 0)) : Rx k_X5_isPurpose 0 [.inr (.inl (16, 0)), .inl x] [] σ = some (some (.inl (if 0 ≤ x ∧ x ≤ σ 17 0 0 - 1 then 1 else 0)), σ) := by
  unfold Iv0 at h
  rw [b_X5_isPurpose_0 _ _ (by omega) (by omega), C_isIn]
  simp only [Option.bind_some, Option.toList_some, Option.toList_none, List.cons_append, List.nil_append, List.append_nil]
  rw [b_X5_isPurpose_13 _ _ _ (rk01 _)]
theorem C_isThing (x : Int) (σ : St) (h : Iv0 (σ 17 0)) : Rx k_X5_isThing 0 [.inr (.inl (16, 0)), .inl x] [] σ = some (some (.inl (if 0 ≤ x ∧ x ≤ σ 17 0 1 - 1 then 1 else 0)), σ) := by
  unfold Iv0 at h
  rw [b_X5_isThing_0 _ _ (by omega) (by omega), C_isIn]
  simp only [Option.bind_some, Option.toList_some, Option.toList_none, List.cons_append, List.nil_append, List.append_nil]
  rw [b_X5_isThing_13 _ _ _ (rk01 _)]
theorem C_isPlace (x : Int) (σ : St) : Rx k_X5_isPlace 0 [.inl x] [] σ = some (some (.inl (if 0 ≤ x ∧ x ≤ 19 then 1 else 0)), σ) := by
  rw [b_X5_isPlace_0, C_isIn]
  simp only [Option.bind_some, Option.toList_some, Option.toList_none, List.cons_append, List.nil_append, List.append_nil]
  rw [b_X5_isPlace_7 _ _ _ (rk01 _)]
/-- what a thing that must be up is refused with -/
def wupF (R : Rw) (t : Int) : Int := if 0 ≤ t ∧ t ≤ R 1 - 1 then (if uq R t = 1 then 0 else -3) else -1
def wbyF (v b : Int) : Int := if v < 0 then -4 else if b < v then -6 else 0
theorem C_wrongUp (x : Int) (σ : St) (h : Iv0 (σ 17 0)) : Rx k_X5_wrongUp 0 [.inr (.inl (16, 0)), .inl x] [] σ = some (some (.inl (wupF (σ 17 0) x)), σ) := by
  have hb := h
  unfold Iv0 at hb
  rw [b_X5_wrongUp_0, C_isThing _ _ h]
  simp only [Option.bind_some, Option.toList_some, Option.toList_none, List.cons_append, List.nil_append, List.append_nil]
  rw [b_X5_wrongUp_5]
  unfold wupF
  by_cases h1 : 0 ≤ x ∧ x ≤ σ 17 0 1 - 1
  · rw [if_pos h1, if_pos h1, if_neg (by decide), b_X5_wrongUp_12, C_isUp _ _ _ h1.1 (by omega)]
    simp only [Option.bind_some, Option.toList_some, Option.toList_none, List.cons_append, List.nil_append, List.append_nil]
    rw [b_X5_wrongUp_20]
    by_cases h2 : uq (σ 17 0) x = 1
    · rw [if_pos h2, if_pos h2, if_neg (by decide), b_X5_wrongUp_23]
    · rw [if_neg h2, if_neg h2, if_pos rfl, b_X5_wrongUp_27]
  · rw [if_neg h1, if_neg h1, if_pos rfl, b_X5_wrongUp_8]
theorem C_wrongBy (v b : Int) (σ : St) : Rx k_X5_wrongBy 0 [.inl v, .inl b] [] σ = some (some (.inl (wbyF v b)), σ) := by
  simp only [b_X5_wrongBy_0, b_X5_wrongBy_4, b_X5_wrongBy_9, b_X5_wrongBy_14, b_X5_wrongBy_19]
  unfold wbyF
  by_cases h1 : v < 0
  · rw [if_pos h1, if_pos h1]
  · rw [if_neg h1, if_neg h1]
    by_cases h2 : b < v
    · rw [if_pos h2, if_pos h2]
    · rw [if_neg h2, if_neg h2]
theorem C_pushedBy (x : Int) (σ : St) (u : AV) (h : Iv1 (σ 17 1)) (hs : Iv1 (σ 17 0)) (h0 : 0 ≤ x) (h1 : x < σ 17 1 1) : Rx k_X5_pushedBy 0 [.inr (.inl (16, 0)), .inl x, u] [] σ = some (some (.inl ((upF (σ 17 0) ^^^ (upF (σ 17 0) &&& upF (fellF (σ 17 1) x).1) : Nat))), setR σ 1 (fellF (σ 17 1) x).1) := by
  have d := fellF_dn h h0 h1
  have hb := hs.1
  unfold Iv0 at hb
  rw [b_X5_pushedBy_0, C_fells 1 x σ h h0 h1]
  simp only [Option.bind_some, Option.toList_some, Option.toList_none, List.cons_append, List.nil_append, List.append_nil]
  rw [b_X5_pushedBy_8, C_upSet 0 _ (by rw [setR_in _ _ _ (by decide)]; exact hs), setR_in _ _ _ (by decide)]
  simp only [Option.bind_some, Option.toList_some, Option.toList_none, List.cons_append, List.nil_append, List.append_nil]
  rw [b_X5_pushedBy_16, C_upSet 1 _ (by rw [setR_at]; exact h.dn d), setR_at]
  simp only [Option.bind_some, Option.toList_some, Option.toList_none, List.cons_append, List.nil_append, List.append_nil]
  rw [b_X5_pushedBy_23, bAndNot_nat (upF_lt hb.2.2.2)]
