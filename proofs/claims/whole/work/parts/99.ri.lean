/-! looking along a rack -/
def lpG (R : Rw) (x : Nat) : Nat → Int → Int
  | 0, _ => -9
  | n + 1, c => if 0 ≤ whoF R c ∧ x.testBit (whoF R c).toNat = true then whoF R c else lpG R x n (c + 1)
theorem lpG_s (R : Rw) (x n : Nat) (c : Int) : lpG R x (n + 1) c = if 0 ≤ whoF R c ∧ x.testBit (whoF R c).toNat = true then whoF R c else lpG R x n (c + 1) := rfl
theorem lpG_up {R : Rw} (h : Iv0 R) : ∀ (n : Nat) (c : Int), lpG R (upF R) n c = leastG R 1 n c := by
  unfold Iv0 at h
  intro n
  induction n with
  | zero => intro c; rfl
  | succ n ih =>
    intro c
    rw [lpG_s, leastG_s, ih]
    rcases who_spec (R := R) h.2.2.1 c with k | k
    · rw [if_neg (fun z => by have := z.1; omega), if_neg (fun z => by have := z.1; omega)]
    · have e := upF_bit (R := R) (t := whoF R c) ⟨k.1, by omega⟩
      by_cases hu : uq R (whoF R c) = 1
      · rw [if_pos ⟨k.1, by rw [e]; exact decide_eq_true hu⟩, if_pos ⟨k.1, hu, fun z => absurd z (by decide)⟩]
      · rw [if_neg (fun z => hu (of_decide_eq_true (e ▸ z.2))), if_neg (fun z => hu z.2.1)]
theorem L_leastPlaced {σ : St} {q : Nat} {R : Rw} {L : Int → Int} {U : Int} (h : RKp σ q R L U) (hb : Iv0 R) (x : Nat) (hx : x < 2147483648) : ∀ (n : Nat) (c : Int), 0 ≤ c → c + n = 20 → Rx k_X2_leastPlaced 2 [.inr (.inl (7, q)), .inl (x : Int), .inl c] [] σ = some (some (.inl (lpG R x n c)), σ) := by
  unfold Iv0 at hb
  intro n
  induction n with
  | zero =>
    intro c h0 h1
    rw [b_X2_leastPlaced_2, if_neg (show ¬ c < 20 by omega), b_X2_leastPlaced_34]
    rfl
  | succ n ih =>
    intro c h0 h1
    have hs := who_spec (R := R) hb.2.2.1 c
    rw [b_X2_leastPlaced_2, if_pos (show c < 20 by omega), (b_X2_leastPlaced_8 (h0 := by omega) (h1 := by omega)), h.2.2.2 c h0 (by omega), K_has hx _ (by omega), lpG_s]
    simp only [Option.bind_some, Option.toList_some, Option.toList_none, List.cons_append, List.nil_append, List.append_nil]
    rw [b_X2_leastPlaced_18]
    by_cases h2 : 0 ≤ whoF R c ∧ x.testBit (whoF R c).toNat = true
    · rw [if_pos h2, if_neg (by decide), (b_X2_leastPlaced_21 (h0 := by omega) (h1 := by omega)), h.2.2.2 c h0 (by omega), if_pos h2]
    · rw [if_neg h2, if_pos rfl, (b_X2_leastPlaced_28 (g0a := by omega) (g0b := by omega)), if_neg h2]
      exact ih (c + 1) (by omega) (by omega)
theorem K_leastPlaced {σ : St} {q : Nat} {R : Rw} {L : Int → Int} {U : Int} (h : RKp σ q R L U) (hb : Iv0 R) (x : Nat) (hx : x < 2147483648) (u : AV) : Rx k_X2_leastPlaced 0 [.inr (.inl (7, q)), .inl (x : Int), u] [] σ = some (some (.inl (lpG R x 20 0)), σ) := by
  rw [b_X2_leastPlaced_0]
  exact L_leastPlaced h hb x hx 20 0 (Int.le_refl 0) (by omega)
theorem L_leastWS {σ : St} {q : Nat} {R : Rw} (h : RK σ q R) : ∀ (n : Nat) (c : Int) (u : AV), 0 ≤ c → c + n = 20 → Rx k_X2_leastPlacedWithoutSpare 2 [.inr (.inl (7, q)), .inl c, u] [] σ = some (some (.inl (leastG R 0 n c)), σ) := by
  have hI := h.1
  have hi := hI.1
  have hb := hI.1
  unfold Iv0 at hb
  intro n
  induction n with
  | zero =>
    intro c u h0 h1
    rw [b_X2_leastPlacedWithoutSpare_2, if_neg (show ¬ c < 20 by omega), b_X2_leastPlacedWithoutSpare_44]
    rfl
  | succ n ih =>
    intro c u h0 h1
    rw [b_X2_leastPlacedWithoutSpare_2, if_pos (show c < 20 by omega), (b_X2_leastPlacedWithoutSpare_8 (h0 := by omega) (h1 := by omega)), h.2.2.2.2 c h0 (by omega), K_isUp h.2 hi, leastG_s]
    simp only [Option.bind_some, Option.toList_some, Option.toList_none, List.cons_append, List.nil_append, List.append_nil]
    rw [b_X2_leastPlacedWithoutSpare_20]
    by_cases h2 : isT R (whoF R c) ∧ uq R (whoF R c) = 1
    · have hT := hI.2.2.1 (whoF R c) h2.1.1 (by have := h2.1.2; omega)
      obtain ⟨a1, a2, a3⟩ := h.2.2.2.1 (whoF R c) h2.1.1 (by have := h2.1.2; omega)
      rw [if_pos h2, if_neg (by decide), (b_X2_leastPlacedWithoutSpare_23 (h0 := by omega) (h1 := by omega)), a3, K_spareOf h, if_pos (show isP R (on R (whoF R c)) by omega)]
      simp only [Option.bind_some, Option.toList_some, Option.toList_none, List.cons_append, List.nil_append, List.append_nil]
      rw [b_X2_leastPlacedWithoutSpare_33]
      by_cases h3 : 0 < spareF R (on R (whoF R c))
      · rw [if_pos h3, (b_X2_leastPlacedWithoutSpare_38 (g0a := by omega) (g0b := by omega)), ih (c + 1) _ (by omega) (by omega), if_neg (fun z => by have := z.2.2 trivial; omega)]
      · rw [if_neg h3, b_X2_leastPlacedWithoutSpare_36, if_pos ⟨h2.1.1, h2.2, fun _ => by omega⟩]
    · rw [if_neg h2, if_pos rfl, (b_X2_leastPlacedWithoutSpare_38 (g0a := by omega) (g0b := by omega)), ih (c + 1) _ (by omega) (by omega), if_neg (fun z => h2 ⟨by have := who_spec (R := R) hb.2.2.1 c; have := z.1; omega, z.2.1⟩)]
theorem K_leastWS {σ : St} {q : Nat} {R : Rw} (h : RK σ q R) (u v : AV) : Rx k_X2_leastPlacedWithoutSpare 0 [.inr (.inl (7, q)), u, v] [] σ = some (some (.inl (leastF R 0)), σ) := by
  rw [b_X2_leastPlacedWithoutSpare_0]
  exact L_leastWS h 20 0 v (Int.le_refl 0) (by omega)
/-! sums over a rack -/
theorem L_weightOfK {σ : St} {q : Nat} {R : Rw} {L : Int → Int} {U : Int} (h : RKp σ q R L U) (hI : Iv R) (x : Nat) (hx : x < 2147483648) : ∀ (n m : Nat), (m : Int) + n = R 1 → Rx k_X2_weightOf 4 [.inr (.inl (7, q)), .inl (x : Int), .inl (wofG R x m), .inl (m : Int)] [] σ = some (some (.inl (wofG R x (m + n))), σ) := by
  have hb := hI.1
  unfold Iv0 at hb
  intro n
  induction n with
  | zero =>
    intro m h1
    rw [b_X2_weightOf_4, h.1.2.1, if_neg (show ¬ (m : Int) < R 1 by omega), b_X2_weightOf_41]
    rfl
  | succ n ih =>
    intro m h1
    have hw := wofG_bd (R := R) x (fun t h0 h2 => by have := hI.2.2.1 t h0 h2; omega) m (by omega)
    have hm := hI.2.2.1 m (by omega) (by omega)
    obtain ⟨a1, a2, a3⟩ := h.2.2.1 m (by omega) (by omega)
    have k := ih (m + 1) (by omega)
    rw [wofG_s] at k
    rw [show m + (n + 1) = m + 1 + n by omega, ← k, b_X2_weightOf_4, h.1.2.1, if_pos (show (m : Int) < R 1 by omega), b_X2_weightOf_12, if_pos (show (m : Int) < 10 by omega), b_X2_weightOf_18, K_has hx m (by omega), Int.toNat_natCast]
    simp only [Option.bind_some, Option.toList_some, Option.toList_none, List.cons_append, List.nil_append, List.append_nil]
    rw [b_X2_weightOf_23]
    by_cases h2 : x.testBit m = true
    · rw [if_pos (show 0 ≤ (m : Int) ∧ x.testBit m = true from ⟨by omega, h2⟩), if_neg (by decide), if_pos h2, b_X2_weightOf_26 (h0 := by omega) (h1 := by omega) (g0a := by omega) (g0b := by omega) (g1a := by rw [a1]; omega) (g1b := by rw [a1]; omega), a1]
      rfl
    · rw [if_neg (show ¬ (0 ≤ (m : Int) ∧ x.testBit m = true) from fun z => h2 z.2), if_pos rfl, if_neg h2, (b_X2_weightOf_35 (g0a := by omega) (g0b := by omega)), Int.add_zero]
      rfl
theorem K_weightOf {σ : St} {q : Nat} {R : Rw} {L : Int → Int} {U : Int} (h : RKp σ q R L U) (hI : Iv R) (x : Nat) (hx : x < 2147483648) (u v : AV) : Rx k_X2_weightOf 0 [.inr (.inl (7, q)), .inl (x : Int), u, v] [] σ = some (some (.inl (wofF R x)), σ) := by
  have hb := hI.1
  unfold Iv0 at hb
  rw [b_X2_weightOf_0]
  have k := L_weightOfK h hI x hx (R 1).toNat 0 (by omega)
  rw [Nat.zero_add] at k
  exact k
theorem L_allStrength {σ : St} {q : Nat} {R : Rw} {L : Int → Int} {U : Int} (h : RKp σ q R L U) (hI : Iv R) : ∀ (n m : Nat), (m : Int) + n = R 0 → Rx k_X2_allStrength 4 [.inr (.inl (7, q)), .inl (strG R m), .inl (m : Int)] [] σ = some (some (.inl (strG R (m + n))), σ) := by
  have hb := hI.1
  unfold Iv0 at hb
  intro n
  induction n with
  | zero =>
    intro m h1
    rw [b_X2_allStrength_4, h.1.1, if_neg (show ¬ (m : Int) < R 0 by omega), b_X2_allStrength_32]
    rfl
  | succ n ih =>
    intro m h1
    have hw := strG_bd hI.2.1 m (by omega)
    have hm := hI.2.1 m (by omega) (by omega)
    obtain ⟨a1, a2, a3, a4⟩ := h.2.1 m (by omega) (by omega)
    have k := ih (m + 1) (by omega)
    rw [strG_s] at k
    rw [show m + (n + 1) = m + 1 + n by omega, ← k, b_X2_allStrength_4, h.1.1, if_pos (show (m : Int) < R 0 by omega), b_X2_allStrength_12, if_pos (show (m : Int) < 5 by omega), b_X2_allStrength_17 (h0 := by omega) (h1 := by omega) (g0a := by omega) (g0b := by omega) (g1a := by rw [a3]; omega) (g1b := by rw [a3]; omega), a3]
    rfl
theorem K_allStrength {σ : St} {q : Nat} {R : Rw} {L : Int → Int} {U : Int} (h : RKp σ q R L U) (hI : Iv R) (u v : AV) : Rx k_X2_allStrength 0 [.inr (.inl (7, q)), u, v] [] σ = some (some (.inl (strF R)), σ) := by
  have hb := hI.1
  unfold Iv0 at hb
  rw [b_X2_allStrength_0]
  have k := L_allStrength h hI (R 0).toNat 0 (by omega)
  rw [Nat.zero_add] at k
  exact k
theorem L_allLoad {σ : St} {q : Nat} {R : Rw} (h : RK σ q R) : ∀ (n m : Nat), (m : Int) + n = R 0 → Rx k_X2_allLoad 4 [.inr (.inl (7, q)), .inl (loaG R m), .inl (m : Int)] [] σ = some (some (.inl (loaG R (m + n))), σ) := by
  have hI := h.1
  have hb := hI.1
  unfold Iv0 at hb
  intro n
  induction n with
  | zero =>
    intro m h1
    rw [b_X2_allLoad_4, h.2.1.1, if_neg (show ¬ (m : Int) < R 0 by omega), b_X2_allLoad_32]
    rfl
  | succ n ih =>
    intro m h1
    have hw := loaG_bd hI m
    have hm := loadF_bd hI.to1 m
    obtain ⟨a1, a2, a3, a4⟩ := h.2.2.1 m (by omega) (by omega)
    have k := ih (m + 1) (by omega)
    rw [loaG_s] at k
    rw [show m + (n + 1) = m + 1 + n by omega, ← k, b_X2_allLoad_4, h.2.1.1, if_pos (show (m : Int) < R 0 by omega), b_X2_allLoad_12, if_pos (show (m : Int) < 5 by omega), b_X2_allLoad_17 (h0 := by omega) (h1 := by omega) (g0a := by omega) (g0b := by omega) (g1a := by rw [a4]; omega) (g1b := by rw [a4]; omega), a4]
    rfl
theorem K_allLoad {σ : St} {q : Nat} {R : Rw} (h : RK σ q R) (u v : AV) : Rx k_X2_allLoad 0 [.inr (.inl (7, q)), u, v] [] σ = some (some (.inl (loaF R)), σ) := by
  have hb := h.1.1
  unfold Iv0 at hb
  rw [b_X2_allLoad_0]
  have k := L_allLoad h (R 0).toNat 0 (by omega)
  rw [Nat.zero_add] at k
  exact k
/-! the most that a strength holds -/
theorem L_mostWithin {σ : St} {q : Nat} {R : Rw} {L : Int → Int} (h : RKp σ q R L (upF R : Nat)) (hI : Iv R) (p : Int) : ∀ (n x b : Nat), x + n = upF R + 1 → b < 1024 → Rx k_X2_mostWithin 7 [.inr (.inl (7, q)), .inl (sg R p), .inl (b : Int), .inl (pc10 b : Nat), .inl (x : Int)] [] σ = some (some (.inl (balG R p n x b : Nat)), σ) := by
  have hlt := upF_lt10 hI.1
  intro n
  induction n with
  | zero =>
    intro x b h1 h2
    rw [b_X2_mostWithin_7]
    have e15 : Rx k_X2_mostWithin 15 [.inr (.inl (7, q)), .inl (sg R p), .inl (b : Int), .inl (pc10 b : Nat), .inl (x : Int)] [] σ = Rx k_X2_mostWithin 70 [.inr (.inl (7, q)), .inl (sg R p), .inl (b : Int), .inl (pc10 b : Nat), .inl (x : Int)] [] σ := by
      rw [b_X2_mostWithin_15, h.1.2.2.2, if_pos (by omega)]
    rw [e15]
    have e70 : Rx k_X2_mostWithin 70 [.inr (.inl (7, q)), .inl (sg R p), .inl (b : Int), .inl (pc10 b : Nat), .inl (x : Int)] [] σ = some (some (.inl (b : Int)), σ) := by rw [b_X2_mostWithin_70]
    rw [e70]
    split <;> rfl
  | succ n ih =>
    intro x b h1 h2
    have go64 : balG R p (n + 1) x b = balG R p n (x + 1) b → Rx k_X2_mostWithin 64 [.inr (.inl (7, q)), .inl (sg R p), .inl (b : Int), .inl (pc10 b : Nat), .inl (x : Int)] [] σ = some (some (.inl (balG R p (n + 1) x b : Nat)), σ) := by
      intro z
      rw [z, (b_X2_mostWithin_64 (g0a := by omega) (g0b := by omega))]
      exact ih (x + 1) b (by omega) h2
    rw [b_X2_mostWithin_7, if_pos (show (x : Int) < 1024 by omega), b_X2_mostWithin_15, h.1.2.2.2, if_neg (by omega), b_X2_mostWithin_24, h.1.2.2.2, bAndNot_nat (by omega)]
    by_cases c1 : x ^^^ (x &&& upF R) = 0
    · rw [c1, if_pos (show ((0 : Nat) : Int) = 0 from rfl), b_X2_mostWithin_36, K_bitCount x (by omega)]
      simp only [Option.bind_some, Option.toList_some, Option.toList_none, List.cons_append, List.nil_append, List.append_nil]
      rw [b_X2_mostWithin_41]
      by_cases c2 : pc10 b < pc10 x
      · rw [if_pos (by omega), b_X2_mostWithin_45, K_weightOf h hI x (by omega)]
        simp only [Option.bind_some, Option.toList_some, Option.toList_none, List.cons_append, List.nil_append, List.append_nil]
        rw [b_X2_mostWithin_51]
        by_cases c3 : wofF R x ≤ sg R p
        · rw [if_neg (by omega), b_X2_mostWithin_55, K_bitCount x (by omega)]
          simp only [Option.bind_some, Option.toList_some, Option.toList_none, List.cons_append, List.nil_append, List.append_nil]
          rw [(b_X2_mostWithin_63 (g0a := by omega) (g0b := by omega)), balG_s, if_pos ⟨c1, c2, c3⟩]
          exact ih (x + 1) x (by omega) (by omega)
        · rw [if_pos (by omega)]
          exact go64 (by rw [balG_s, if_neg (fun z => c3 z.2.2)])
      · rw [if_neg (by omega)]
        exact go64 (by rw [balG_s, if_neg (fun z => c2 z.2.1)])
    · rw [if_neg (by omega)]
      exact go64 (by rw [balG_s, if_neg (fun z => c1 z.1)])
theorem K_mostWithin {σ : St} {q : Nat} {R : Rw} {L : Int → Int} (h : RKp σ q R L (upF R : Nat)) (hI : Iv R) (p : Int) (u v w : AV) : Rx k_X2_mostWithin 0 [.inr (.inl (7, q)), .inl (sg R p), u, v, w] [] σ = some (some (.inl (balG R p (upF R + 1) 0 0 : Nat)), σ) := by
  rw [b_X2_mostWithin_0]
  exact L_mostWithin h hI p (upF R + 1) 0 0 (Nat.zero_add _) (by decide)
