/-! the class's mind: two who push, settled; a draught -/
theorem par4 : ∀ m : Nat, m < 4 → bXor (m : Int) 2 = ((m ^^^ 2 : Nat) : Int) ∧ bXor (m : Int) 1 = ((m ^^^ 1 : Nat) : Int) ∧ ((m ^^^ 2 : Nat) : Int).tdiv 2 = 1 - (m : Int).tdiv 2 ∧ ((m ^^^ 2 : Nat) : Int).tmod 2 = (m : Int).tmod 2 ∧ ((m ^^^ 1 : Nat) : Int).tdiv 2 = (m : Int).tdiv 2 ∧ ((m ^^^ 1 : Nat) : Int).tmod 2 = 1 - (m : Int).tmod 2 ∧ m ^^^ 2 < 4 ∧ m ^^^ 1 < 4 ∧ 0 ≤ (m : Int).tdiv 2 ∧ (m : Int).tdiv 2 ≤ 2 ∧ 0 ≤ (m : Int).tmod 2 ∧ (m : Int).tmod 2 ≤ 2 := by decide +kernel
theorem L_settled2 {R : Rw} {a b d : Int} (σ : St) (hj : ∀ j : Nat, j < 4 → σ 2 0 j = ouF R a b d j) : ∀ (n m : Nat), m + n = 4 → Rx k_X1_settled 58 [.inr (.inl (1, 0)), .inl a, .inl b, .inl d, .inl (m : Int)] [] σ = some (some (.inl (twoG R a b d n m)), σ) := by
  intro n
  induction n with
  | zero =>
    intro m hm
    rw [b_X1_settled_58, if_neg (by omega), b_X1_settled_121]
    rfl
  | succ n ih =>
    intro m hm
    obtain ⟨p1, p2, p3, p4, p5, p6, p7, p8, p9, pa, pb, pc⟩ := par4 m (by omega)
    have e2 : σ 2 0 (bXor (m : Int) 2).toNat = uppF R a (1 - (m : Int).tdiv 2) b ((m : Int).tmod 2) d := by
      rw [p1, Int.toNat_natCast, hj _ p7]
      unfold ouF
      rw [p3, p4]
    have e1 : σ 2 0 (bXor (m : Int) 1).toNat = uppF R a ((m : Int).tdiv 2) b (1 - (m : Int).tmod 2) d := by
      rw [p2, Int.toNat_natCast, hj _ p8]
      unfold ouF
      rw [p5, p6]
    have e0 : σ 2 0 (m : Int).toNat = uppF R a ((m : Int).tdiv 2) b ((m : Int).tmod 2) d := by
      rw [Int.toNat_natCast, hj m (by omega)]
      rfl
    rw [b_X1_settled_58, if_pos (by omega), b_X1_settled_64 (h0 := by omega) (h1 := by omega) (h2 := by rw [p1]; omega) (h3 := by rw [p1]; omega), e0, e2, twoG_s]
    by_cases c1 : uppF R a ((m : Int).tdiv 2) b ((m : Int).tmod 2) d < uppF R a (1 - (m : Int).tdiv 2) b ((m : Int).tmod 2) d
    · rw [if_pos c1, (b_X1_settled_115 (g0a := by omega) (g0b := by omega)), if_neg (fun z => z.1 c1)]
      exact ih (m + 1) (by omega)
    · rw [if_neg c1, b_X1_settled_83 (h0 := by omega) (h1 := by omega) (h2 := by rw [p2]; omega) (h3 := by rw [p2]; omega), e0, e1]
      by_cases c2 : uppF R a ((m : Int).tdiv 2) b (1 - (m : Int).tmod 2) d < uppF R a ((m : Int).tdiv 2) b ((m : Int).tmod 2) d
      · rw [if_pos c2, (b_X1_settled_115 (g0a := by omega) (g0b := by omega)), if_neg (fun z => z.2 c2)]
        exact ih (m + 1) (by omega)
      · rw [if_neg c2, (b_X1_settled_102 (g0a := by omega) (g0b := by omega) (g1a := by omega) (g1b := by omega) (g2a := by omega) (g2b := by omega)), if_pos ⟨c1, c2⟩]
theorem K_settled {σ : St} {R : Rw} (h : RK σ 0 R) (hd : Dk R) {a b d : Int} (ha : isT R a) (hb : isT R b) (h0 : 0 ≤ d) (h1 : d ≤ 1000) (u : AV) : ∃ σ', Rx k_X1_settled 0 [.inr (.inl (1, 0)), .inl a, .inl b, .inl d, u] [] σ = some (some (.inl (twoA R a b d)), σ') ∧ XS σ σ' := by
  obtain ⟨σ1, s1, x1, k1⟩ := L_settled1 hd ha hb h0 h1 4 0 σ rfl h (fun j hj => absurd hj (Nat.not_lt_zero j))
  refine ⟨σ1, ?_, x1⟩
  rw [show ((0 : Nat) : Int) = 0 from rfl] at s1
  rw [b_X1_settled_0, s1, b_X1_settled_55]
  exact L_settled2 σ1 k1 4 0 rfl
/-! a draught -/
/-- the row behind one way the days may go -/
def daR (x : Nat) : Nat → Nat → Rw → Rw
  | 0, _, R => R
  | n + 1, j, R => if x.testBit j = true then daR x n (j + 1) (stF R 1) else daR x n (j + 1) (dayF R)
theorem daR_s (x n j : Nat) (R : Rw) : daR x (n + 1) j R = if x.testBit j = true then daR x n (j + 1) (stF R 1) else daR x n (j + 1) (dayF R) := rfl
theorem dra1 (N x : Nat) : ∀ (n j : Nat) (R : Rw) (a : Nat), (draG N x n j R a).1 = daR x n j R := by
  intro n
  induction n with
  | zero => intro j R a; rfl
  | succ n ih =>
    intro j R a
    rw [draG_s, daR_s]
    split
    · exact ih _ _ _
    · exact ih _ _ _
theorem pcG_up (x : Nat) : ∀ n j : Nat, pcG x j ≤ pcG x (j + n) ∧ pcG x (j + n) ≤ pcG x j + n := by
  intro n
  induction n with
  | zero => intro j; exact ⟨Nat.le_refl _, Nat.le_refl _⟩
  | succ n ih =>
    intro j
    have := ih j
    rw [show j + (n + 1) = (j + n) + 1 by omega, pcG_s]
    split <;> omega
theorem dra2 (N x : Nat) : ∀ (n j : Nat) (R : Rw) (a : Nat), (draG N x n j R a).2 = a * (N - 1) ^ (n - (pcG x (j + n) - pcG x j)) := by
  intro n
  induction n with
  | zero => intro j R a; show a = a * (N - 1) ^ (0 - _); rw [Nat.zero_sub, Nat.pow_zero, Nat.mul_one]
  | succ n ih =>
    intro j R a
    have k := pcG_up x n (j + 1)
    have k2 := pcG_s x j
    rw [draG_s, show j + (n + 1) = j + 1 + n by omega]
    by_cases e : x.testBit j = true
    · rw [if_pos e, ih]
      rw [if_pos e] at k2
      rw [show n + 1 - (pcG x (j + 1 + n) - pcG x j) = n - (pcG x (j + 1 + n) - pcG x (j + 1)) by omega]
    · rw [if_neg e, ih]
      rw [if_neg e] at k2
      rw [show n + 1 - (pcG x (j + 1 + n) - pcG x j) = (n - (pcG x (j + 1 + n) - pcG x (j + 1))) + 1 by omega, Nat.pow_succ, Nat.mul_assoc, Nat.mul_comm (N - 1)]
theorem pc_lt {x D : Nat} (h : x < 2 ^ D) (hD : D ≤ 10) : pc10 x = pcG x D := by
  unfold pc10
  have key : ∀ n : Nat, pcG x (D + n) = pcG x D := by
    intro n
    induction n with
    | zero => rfl
    | succ n ih =>
      have hlt : x < 2 ^ (D + n) := Nat.lt_of_lt_of_le h (Nat.pow_le_pow_right (by decide) (by omega))
      rw [show D + (n + 1) = (D + n) + 1 by omega, pcG_s, ih, Nat.testBit_lt_two_pow hlt, if_neg (by decide)]
      rfl
  have := key (10 - D)
  rw [show D + (10 - D) = 10 by omega] at this
  exact this
theorem L_draughted (D x : Nat) (hx : x < 1024) (hD : D ≤ 7) (t : Int) : ∀ (n j : Nat) (σ : St) (R : Rw), j + n = D → RK σ 1 R → isT R t → 0 ≤ R 2 → R 2 + n ≤ 20000 → ∃ σ', Rx k_X1_isUpDraughted 14 [.inr (.inl (1, 0)), .inl t, .inl (D : Int), .inl (x : Int), .inl (j : Int)] [] σ = some (some (.inl (if uq (daR x n j R) t = 1 then 1 else 0)), σ') ∧ FR 1 σ σ' := by
  intro n
  induction n with
  | zero =>
    intro j σ R h1 hK ht h2 h3
    refine ⟨σ, ?_, FR.refl 1 σ⟩
    have e : (if isT R t ∧ uq R t = 1 then (1 : Int) else 0) = if uq R t = 1 then 1 else 0 := by
      by_cases z : uq R t = 1
      · rw [if_pos ⟨ht, z⟩, if_pos z]
      · rw [if_neg (fun y => z y.2), if_neg z]
    rw [b_X1_isUpDraughted_14, if_neg (by omega), b_X1_isUpDraughted_64, K_isUp hK.2 hK.1.1, e]
    simp only [Option.bind_some, Option.toList_some, Option.toList_none, List.cons_append, List.nil_append, List.append_nil]
    rw [b_X1_isUpDraughted_72 (h0 := rk01 _)]
    rfl
  | succ n ih =>
    intro j σ R h1 hK ht h2 h3
    have hi := hK.1.1
    have hlt := upF_lt10 hi
    rw [b_X1_isUpDraughted_14, if_pos (by omega), b_X1_isUpDraughted_20, K_has (by omega) (j : Int) (by omega), Int.toNat_natCast, daR_s]
    simp only [Option.bind_some, Option.toList_some, Option.toList_none, List.cons_append, List.nil_append, List.append_nil]
    rw [b_X1_isUpDraughted_26]
    by_cases e : x.testBit j = true
    · have hs := stF_ok hK.1 1
      have el : lpG R (upF R) 20 0 = leastF R 1 := lpG_up hi 20 0
      obtain ⟨σ1, σ2, s1, s2, f2, g2⟩ := K_st hK h2 (by omega) (fl := 1) rfl
      obtain ⟨σ3, s3, f3⟩ := ih (j + 1) σ2 (stF R 1) (by omega) g2 ⟨ht.1, by rw [hs.2.2.1]; exact ht.2⟩ (by omega) (by omega)
      refine ⟨σ3, ?_, f2.trans f3⟩
      rw [if_pos (show 0 ≤ (j : Int) ∧ x.testBit j = true from ⟨by omega, e⟩), if_neg (by decide), b_X1_isUpDraughted_29, hK.2.1.2.2.2, K_leastPlaced hK.2 hi _ (by omega), el, if_pos e]
      simp only [Option.bind_some, Option.toList_some, Option.toList_none, List.cons_append, List.nil_append, List.append_nil]
      rw [b_X1_isUpDraughted_47, s1]
      simp only [Option.bind_some, Option.toList_some, Option.toList_none, List.cons_append, List.nil_append, List.append_nil]
      rw [b_X1_isUpDraughted_50, s2]
      simp only [Option.bind_some, Option.toList_some, Option.toList_none, List.cons_append, List.nil_append, List.append_nil]
      rw [(b_X1_isUpDraughted_58 (g0a := by omega) (g0b := by omega))]
      exact s3
    · have hs := dayF_ok hK.1
      obtain ⟨σ2, s2, f2, g2⟩ := K_passDay hK h2 (by omega) uns uns
      obtain ⟨σ3, s3, f3⟩ := ih (j + 1) σ2 (dayF R) (by omega) g2 ⟨ht.1, by rw [hs.2.2.1]; exact ht.2⟩ (by omega) (by omega)
      refine ⟨σ3, ?_, f2.trans f3⟩
      rw [if_neg (show ¬ (0 ≤ (j : Int) ∧ x.testBit j = true) from fun z => e z.2), if_pos rfl, b_X1_isUpDraughted_51, s2, if_neg e]
      simp only [Option.bind_some, Option.toList_some, Option.toList_none, List.cons_append, List.nil_append, List.append_nil]
      rw [(b_X1_isUpDraughted_58 (g0a := by omega) (g0b := by omega))]
      exact s3
theorem K_draughted {σ : St} {R : Rw} (h : RK σ 0 R) (hd : Dk R) {D x : Nat} (hx : x < 1024) (hD : D ≤ 7) {t : Int} (ht : isT R t) (u : AV) : ∃ σ', Rx k_X1_isUpDraughted 0 [.inr (.inl (1, 0)), .inl t, .inl (D : Int), .inl (x : Int), u] [] σ = some (some (.inl (if uq (daR x D 0 R) t = 1 then 1 else 0)), σ') ∧ FR 1 σ σ' := by
  have hd2 := hd.2
  obtain ⟨σ1, s1, f1, g1, _⟩ := h.bc
  obtain ⟨σ2, s2, f2⟩ := L_draughted D x hx hD t D 0 σ1 R (Nat.zero_add D) g1 ht hd.1 (by omega)
  refine ⟨σ2, ?_, f1.trans f2⟩
  rw [b_X1_isUpDraughted_0, s1]
  simp only [Option.bind_some, Option.toList_some, Option.toList_none, List.cons_append, List.nil_append, List.append_nil]
  rw [b_X1_isUpDraughted_11]
  exact s2
theorem L_power (B E : Nat) (hB : B ≤ 20) (hE : E ≤ 7) (σ : St) : ∀ (n j : Nat), j + n = E → Rx k_X4_power 5 [.inl (B : Int), .inl (E : Int), .inr (.inr ((B ^ j : Nat) : Int)), uns, .inl (j : Int)] [] σ = some (some (.inr (.inr ((B ^ E : Nat) : Int))), σ) := by
  intro n
  induction n with
  | zero =>
    intro j h
    have e : j = E := by omega
    subst e
    rw [b_X4_power_5, if_neg (by omega), b_X4_power_29]
  | succ n ih =>
    intro j h
    have em : ((B ^ j : Nat) : Int) * (B : Int) = ((B ^ (j + 1) : Nat) : Int) := by rw [Nat.pow_succ, Int.natCast_mul]
    have p1 : B ^ (j + 1) ≤ 20 ^ (j + 1) := Nat.pow_le_pow_left hB _
    have p2 : 20 ^ (j + 1) ≤ 20 ^ 7 := Nat.pow_le_pow_right (by decide) (by omega)
    have e7 : (20 : Nat) ^ 7 = 1280000000 := by decide
    have lt : (((B ^ (j + 1) : Nat)) : Int) < 9223372036854775808 := Int.ofNat_lt.mpr (show B ^ (j + 1) < 9223372036854775808 from Nat.lt_of_le_of_lt (Nat.le_trans p1 p2) (by decide))
    rw [b_X4_power_5, if_pos (by omega), b_X4_power_11, if_pos (by omega), b_X4_power_18 (g0a := by omega) (g0b := by omega) (g1a := by rw [em]; exact Int.le_trans (by decide) (Int.natCast_nonneg _)) (g1b := by rw [em]; exact lt), em]
    exact ih (j + 1) (by omega)
theorem K_power (B E : Nat) (hB : B ≤ 20) (hE : E ≤ 7) (σ : St) (u v w : AV) : Rx k_X4_power 0 [.inl (B : Int), .inl (E : Int), u, v, w] [] σ = some (some (.inr (.inr ((B ^ E : Nat) : Int))), σ) := by
  rw [b_X4_power_0]
  have k := L_power B E hB hE σ E 0 (Nat.zero_add E)
  rw [Nat.pow_zero] at k
  exact k
theorem L_waysUp {R : Rw} (hI : Iv R) (hd : Dk R) {t : Int} (ht : isT R t) (D N : Nat) (hD : D ≤ 7) (hN : 2 ≤ N ∧ N ≤ 20) : ∀ (n x b : Nat) (σ : St), x + n = 2 ^ D → b ≤ x * 1280000000 → RK σ 0 R → ∃ σ', Rx k_X1_waysUp 6 [.inr (.inl (1, 0)), .inl t, .inl (D : Int), .inl (N : Int), .inr (.inr (b : Int)), uns, .inl (x : Int)] [] σ = some (some (.inr (.inr (draO R D N t n x b : Int))), σ') ∧ FR 1 σ σ' := by
  have p7 : 2 ^ D ≤ 2 ^ 7 := Nat.pow_le_pow_right (by decide) hD
  have q7 : 20 ^ D ≤ 20 ^ 7 := Nat.pow_le_pow_right (by decide) hD
  have e7 : (2 : Nat) ^ 7 = 128 := by decide
  have f7 : (20 : Nat) ^ 7 = 1280000000 := by decide
  intro n
  induction n with
  | zero =>
    intro x b σ h1 h2 hK
    refine ⟨σ, ?_, FR.refl 1 σ⟩
    rw [b_X1_waysUp_6, shl1 (by omega), if_neg (by omega), b_X1_waysUp_49]
    rfl
  | succ n ih =>
    intro x b σ h1 h2 hK
    obtain ⟨σ1, s1, f1⟩ := K_draughted hK hd (x := x) (by omega) hD ht uns
    have hK1 := hK.fr f1 (by decide)
    have ex := pc_lt (show x < 2 ^ D by omega) (show D ≤ 10 by omega)
    have hle := pcG_le x D
    have e2 := dra2 N x D 0 R 1
    rw [Nat.one_mul, Nat.zero_add, show pcG x 0 = 0 from rfl, Nat.sub_zero] at e2
    have hdb := draG_bd N x hN.2 D 0 R 1
    rw [Nat.one_mul] at hdb
    rw [b_X1_waysUp_6, shl1 (by omega), if_pos (by omega), b_X1_waysUp_14, s1, draO_s, dra1]
    simp only [Option.bind_some, Option.toList_some, Option.toList_none, List.cons_append, List.nil_append, List.append_nil]
    rw [b_X1_waysUp_22]
    by_cases e : uq (daR x D 0 R) t = 1
    · obtain ⟨σ2, s2, f2⟩ := ih (x + 1) (b + (draG N x D 0 R 1).2) σ1 (by omega) (by omega) hK1
      refine ⟨σ2, ?_, f1.trans f2⟩
      have k1 : (N : Int) - 1 = ((N - 1 : Nat) : Int) := by omega
      have k2 : (D : Int) - ((pcG x D : Nat) : Int) = ((D - pcG x D : Nat) : Int) := by omega
      rw [if_pos e, if_neg (by decide), (b_X1_waysUp_25 (g0a := by omega) (g0b := by omega)), K_bitCount x (by omega), ex, if_pos e]
      simp only [Option.bind_some, Option.toList_some, Option.toList_none, List.cons_append, List.nil_append, List.append_nil]
      rw [(b_X1_waysUp_36 (g0a := by omega) (g0b := by omega)), k1, k2, K_power _ _ (by omega) (by omega), ← e2]
      simp only [Option.bind_some, Option.toList_some, Option.toList_none, List.cons_append, List.nil_append, List.append_nil]
      rw [(b_X1_waysUp_40 (g0a := by omega) (g0b := by omega) (g1a := by omega) (g1b := by omega))]
      exact s2
    · obtain ⟨σ2, s2, f2⟩ := ih (x + 1) b σ1 (by omega) (Nat.le_trans h2 (Nat.mul_le_mul_right _ (Nat.le_succ x))) hK1
      refine ⟨σ2, ?_, f1.trans f2⟩
      rw [if_neg e, if_pos rfl, (b_X1_waysUp_43 (g0a := by omega) (g0b := by omega)), if_neg e]
      exact s2
theorem K_waysUp {σ : St} {R : Rw} (h : RK σ 0 R) (hd : Dk R) {t : Int} (ht : isT R t) (D N : Nat) (hD : D ≤ 7) (hN : 2 ≤ N ∧ N ≤ 20) (u4 u5 u6 : AV) : ∃ σ', Rx k_X1_waysUp 0 [.inr (.inl (1, 0)), .inl t, .inl (D : Int), .inl (N : Int), u4, u5, u6] [] σ = some (some (.inr (.inr (draO R D N t (2 ^ D) 0 0 : Int))), σ') ∧ FR 1 σ σ' := by
  rw [b_X1_waysUp_0]
  exact L_waysUp h.1 hd ht D N hD hN (2 ^ D) 0 0 σ (Nat.zero_add _) (Nat.zero_le _) h
theorem L_comm (a b : Nat) (σ : St) : ∀ (k n m i : Nat) (u9 u10 : AV), m < 2 ^ k → i + 2 * k + 1 ≤ 200 → Rx k_X4_commonDivisor 9 [.inr (.inr (a : Int)), uns, .inr (.inr (b : Int)), uns, .inr (.inr (n : Int)), uns, .inr (.inr (m : Int)), uns, .inl (i : Int), u9, u10] [] σ = some (some (.inr (.inr (Nat.gcd n m : Nat))), σ) := by
  have zero : ∀ (n i : Nat) (u9 u10 : AV), i < 200 → Rx k_X4_commonDivisor 9 [.inr (.inr (a : Int)), uns, .inr (.inr (b : Int)), uns, .inr (.inr (n : Int)), uns, .inr (.inr ((0 : Nat) : Int)), uns, .inl (i : Int), u9, u10] [] σ = some (some (.inr (.inr (Nat.gcd n 0 : Nat))), σ) := by
    intro n i u9 u10 hi
    rw [b_X4_commonDivisor_9, if_pos (by omega), b_X4_commonDivisor_17, if_pos (by rfl), b_X4_commonDivisor_45, Nat.gcd_zero_right]
  have step : ∀ (n m i : Nat) (u9 u10 : AV), i < 200 → m ≠ 0 → ∃ v9 v10, Rx k_X4_commonDivisor 9 [.inr (.inr (a : Int)), uns, .inr (.inr (b : Int)), uns, .inr (.inr (n : Int)), uns, .inr (.inr (m : Int)), uns, .inl (i : Int), u9, u10] [] σ = Rx k_X4_commonDivisor 9 [.inr (.inr (a : Int)), uns, .inr (.inr (b : Int)), uns, .inr (.inr (m : Int)), uns, .inr (.inr ((n % m : Nat) : Int)), uns, .inl ((i + 1 : Nat) : Int), v9, v10] [] σ := by
    intro n m i u9 u10 hi hm
    refine ⟨.inr (.inr ((n % m : Nat) : Int)), uns, ?_⟩
    rw [b_X4_commonDivisor_9, if_pos (by omega), b_X4_commonDivisor_17, if_neg (by rw [if_pos (show (0 : Int) < m by omega)]; decide), (b_X4_commonDivisor_24 (h0 := by omega) (g0a := by omega) (g0b := by omega))]
    rfl
  intro k
  induction k with
  | zero =>
    intro n m i u9 u10 hm hi
    have e : m = 0 := by have : m < 1 := hm; omega
    subst e
    exact zero n i u9 u10 (by omega)
  | succ k ih =>
    intro n m i u9 u10 hm hi
    by_cases e : m = 0
    · subst e
      exact zero n i u9 u10 (by omega)
    · obtain ⟨v9, v10, s1⟩ := step n m i u9 u10 (by omega) e
      have g1 : Nat.gcd n m = Nat.gcd m (n % m) := by rw [Nat.gcd_comm n m, Nat.gcd_rec m n, Nat.gcd_comm]
      rw [s1, g1]
      by_cases e2 : n % m = 0
      · rw [e2]
        exact zero m (i + 1) v9 v10 (by omega)
      · obtain ⟨w9, w10, s2⟩ := step m (n % m) (i + 1) v9 v10 (by omega) e2
        have g2 : Nat.gcd m (n % m) = Nat.gcd (n % m) (m % (n % m)) := by rw [Nat.gcd_comm m (n % m), Nat.gcd_rec (n % m) m, Nat.gcd_comm]
        rw [s2, g2]
        refine ih _ _ _ _ _ ?_ (by omega)
        have l1 : n % m < m := Nat.mod_lt _ (by omega)
        have l2 : m % (n % m) < n % m := Nat.mod_lt _ (by omega)
        have l3 : m % (n % m) ≤ m - n % m := by
          have := Nat.mod_eq_sub_mod (a := m) (b := n % m) (by omega)
          rw [this]
          exact Nat.mod_le _ _
        rw [Nat.pow_succ] at hm
        omega
theorem K_comm (a b : Nat) (hb : b < 2 ^ 64) (σ : St) (u4 u5 u6 u7 u8 u9 u10 : AV) : Rx k_X4_commonDivisor 0 [.inr (.inr (a : Int)), uns, .inr (.inr (b : Int)), uns, u4, u5, u6, u7, u8, u9, u10] [] σ = some (some (.inr (.inr (Nat.gcd a b : Nat))), σ) := by
  rw [b_X4_commonDivisor_0]
  exact L_comm a b σ 64 a b 0 u9 u10 hb (by decide)
