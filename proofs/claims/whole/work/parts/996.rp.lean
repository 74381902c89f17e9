/-! the first that is down, told two ways -/
theorem downG_first (any : Int) (mask : Nat) : ∀ (n : Nat) (k : Int) (R : Rw), (downG any mask n k R = -9 ∧ ∀ i : Nat, i < n → ¬ (if any = 0 then upF (daysF i R) &&& mask ≠ mask else upF (daysF i R) &&& mask = 0)) ∨ (∃ i : Nat, i < n ∧ downG any mask n k R = k + i ∧ (if any = 0 then upF (daysF i R) &&& mask ≠ mask else upF (daysF i R) &&& mask = 0) ∧ ∀ j : Nat, j < i → ¬ (if any = 0 then upF (daysF j R) &&& mask ≠ mask else upF (daysF j R) &&& mask = 0)) := by
  intro n
  induction n with
  | zero => intro k R; exact Or.inl ⟨rfl, fun i hi => absurd hi (Nat.not_lt_zero i)⟩
  | succ n ih =>
    intro k R
    by_cases c : (if any = 0 then upF R &&& mask ≠ mask else upF R &&& mask = 0)
    · right
      refine ⟨0, Nat.succ_pos n, ?_, c, fun j hj => absurd hj (Nat.not_lt_zero j)⟩
      rw [downG_s, if_pos c]
      exact (Int.add_zero k).symm
    · rw [downG_s, if_neg c]
      rcases ih (k + 1) (dayF R) with ⟨h1, h2⟩ | ⟨i, h1, h2, h3, h4⟩
      · left
        refine ⟨h1, fun i hi => ?_⟩
        cases i with
        | zero => exact c
        | succ i => exact h2 i (by omega)
      · right
        refine ⟨i + 1, by omega, by omega, h3, fun j hj => ?_⟩
        cases j with
        | zero => exact c
        | succ j => exact h4 j (by omega)
theorem xor_bit (a b i : Nat) : (a ^^^ (a &&& b)).testBit i = true ↔ (a.testBit i = true ∧ ¬ b.testBit i = true) := by
  rw [Nat.testBit_xor, Nat.testBit_and]
  cases a.testBit i <;> cases b.testBit i <;> decide
theorem lpG_ne {R : Rw} {x : Nat} : ∀ (n : Nat) (c d : Int), c ≤ d → d < c + n → 0 ≤ whoF R d → x.testBit (whoF R d).toNat = true → 0 ≤ lpG R x n c := by
  intro n
  induction n with
  | zero => intro c d h1 h2 _ _; omega
  | succ n ih =>
    intro c d h1 h2 h3 h4
    rw [lpG_s]
    by_cases e : 0 ≤ whoF R c ∧ x.testBit (whoF R c).toNat = true
    · rw [if_pos e]; exact e.1
    · rw [if_neg e]
      refine ih (c + 1) d ?_ (by omega) h3 h4
      by_cases z : c = d
      · rw [z] at e; exact absurd ⟨h3, h4⟩ e
      · omega
/-- the first of all days on which one is down: of all that are up, none earlier -/
theorem fir_eq {R : Rw} (hI : Iv R) : (downF R (upF R) 0 = -9 → firG R 20 0 (-9) 1000000000 = (-9, 1000000000)) ∧ (downF R (upF R) 0 ≠ -9 → 0 ≤ downF R (upF R) 0 ∧ downF R (upF R) 0 < 100 ∧ 0 ≤ lpG R (upF R ^^^ (upF R &&& upF (daysF (downF R (upF R) 0).toNat R))) 20 0 ∧ firG R 20 0 (-9) 1000000000 = (lpG R (upF R ^^^ (upF R &&& upF (daysF (downF R (upF R) 0).toNat R))) 20 0, downF R (upF R) 0)) := by
  have hb := hI.1
  unfold Iv0 at hb
  have sub : ∀ i, upF (daysF i R) &&& upF R = upF (daysF i R) := fun i => (sbU.days i hI).and
  have fall := fun t : Int => downG_first 1 (2 ^ t.toNat) 100 0 R
  have stay := downG_first 0 (upF R) 100 0 R
  have cc : ∀ (t : Int) (i : Nat), (if (1 : Int) = 0 then upF (daysF i R) &&& 2 ^ t.toNat ≠ 2 ^ t.toNat else upF (daysF i R) &&& 2 ^ t.toNat = 0) ↔ ¬ (upF (daysF i R)).testBit t.toNat = true := fun t i => by
    rw [if_neg (by decide)]; exact and_bit0 _ _
  have c0 : ∀ i : Nat, (if (0 : Int) = 0 then upF (daysF i R) &&& upF R ≠ upF R else upF (daysF i R) &&& upF R = 0) ↔ upF (daysF i R) ≠ upF R := fun i => by
    rw [if_pos rfl, sub i]
  refine ⟨fun h => ?_, fun h => ?_⟩
  · have h2 : ∀ i : Nat, i < 100 → upF (daysF i R) = upF R := by
      rcases stay with ⟨_, s2⟩ | ⟨i, s1, s2, _, _⟩
      · intro i hi
        have := s2 i hi
        rw [c0 i] at this
        exact Classical.not_not.1 this
      · unfold downF at h
        omega
    have h3 : ∀ c : Int, 0 ≤ whoF R c → uq R (whoF R c) = 1 → firD R c = -9 := by
      intro c a b
      unfold firD downF
      rcases fall (whoF R c) with ⟨s1, _⟩ | ⟨i, s1, s2, s3, _⟩
      · exact s1
      · rw [cc, h2 i s1, upF_bit (by have := who_spec (R := R) hb.2.2.1 c; exact ⟨a, by omega⟩)] at s3
        exact absurd (decide_eq_true b) s3
    have key : ∀ (n : Nat) (c f x : Int), firG R n c f x = (f, x) := by
      intro n
      induction n with
      | zero => intro c f x; rfl
      | succ n ih =>
        intro c f x
        rw [firG_s, if_neg, ih]
        intro z
        have := h3 c z.1 z.2.1
        omega
    exact key 20 0 (-9) 1000000000
  · obtain ⟨D, hD, e, s3, s4⟩ : ∃ D : Nat, D < 100 ∧ downF R (upF R) 0 = D ∧ upF (daysF D R) ≠ upF R ∧ ∀ j : Nat, j < D → upF (daysF j R) = upF R := by
      rcases stay with ⟨s1, _⟩ | ⟨i, s1, s2, s3, s4⟩
      · exact absurd s1 h
      · refine ⟨i, s1, ?_, (c0 i).1 s3, fun j hj => ?_⟩
        · unfold downF; rw [s2]; exact Int.zero_add _
        · have := s4 j hj
          rw [c0 j] at this
          exact Classical.not_not.1 this
    rw [e, Int.toNat_natCast]
    generalize hX : upF R ^^^ (upF R &&& upF (daysF D R)) = X
    have hbit : ∀ c : Int, 0 ≤ whoF R c → (X.testBit (whoF R c).toNat = true ↔ (uq R (whoF R c) = 1 ∧ ¬ (upF (daysF D R)).testBit (whoF R c).toNat = true)) := by
      intro c a
      have ht : isT R (whoF R c) := by have := who_spec (R := R) hb.2.2.1 c; exact ⟨a, by omega⟩
      rw [← hX, xor_bit, upF_bit ht, decide_eq_true_eq]
    have hf : ∀ c : Int, 0 ≤ whoF R c → uq R (whoF R c) = 1 → (firD R c = -9 ∨ (D : Int) ≤ firD R c) ∧ (firD R c = D ↔ X.testBit (whoF R c).toNat = true) := by
      intro c a b
      have ht : isT R (whoF R c) := by have := who_spec (R := R) hb.2.2.1 c; exact ⟨a, by omega⟩
      have early : ∀ j : Nat, j < D → (upF (daysF j R)).testBit (whoF R c).toNat = true := fun j hj => by
        rw [s4 j hj, upF_bit ht]; exact decide_eq_true b
      rw [hbit c a]
      unfold firD downF
      rcases fall (whoF R c) with ⟨s1, s2⟩ | ⟨i, s1, s2, s5, s6⟩
      · rw [s1]
        refine ⟨Or.inl rfl, fun z => by omega, fun z => ?_⟩
        have := s2 D hD
        rw [cc] at this
        exact absurd z.2 this
      · rw [cc] at s5
        have hi : D ≤ i := by
          by_cases z : i < D
          · exact absurd (early i z) s5
          · omega
        rw [s2]
        refine ⟨Or.inr (by omega), fun z => ⟨b, ?_⟩, fun z => ?_⟩
        · have : i = D := by omega
          rw [← this]; exact s5
        · by_cases y : D < i
          · have := s6 D y
            rw [cc] at this
            exact absurd z.2 this
          · omega
    have keep : ∀ (n : Nat) (c f : Int), firG R n c f D = (f, (D : Int)) := by
      intro n
      induction n with
      | zero => intro c f; rfl
      | succ n ih =>
        intro c f
        rw [firG_s, if_neg, ih]
        intro z
        have := (hf c z.1 z.2.1).1
        omega
    have key : ∀ (n : Nat) (c f x : Int), (D : Int) < x → 0 ≤ lpG R X n c → firG R n c f x = (lpG R X n c, (D : Int)) := by
      intro n
      induction n with
      | zero => intro c f x _ h2; exact absurd (show (0 : Int) ≤ -9 from h2) (by decide)
      | succ n ih =>
        intro c f x h1 h2
        rw [lpG_s] at h2 ⊢
        rw [firG_s]
        by_cases u : 0 ≤ whoF R c ∧ uq R (whoF R c) = 1
        · obtain ⟨k1, k2⟩ := hf c u.1 u.2
          by_cases v : X.testBit (whoF R c).toNat = true
          · have e2 := k2.2 v
            rw [if_pos ⟨u.1, u.2, by omega, by omega⟩, if_pos ⟨u.1, v⟩, e2, keep]
          · have ne : firD R c ≠ D := fun z => v (k2.1 z)
            rw [if_neg (show ¬ (0 ≤ whoF R c ∧ X.testBit (whoF R c).toNat = true) from fun z => v z.2)] at h2 ⊢
            by_cases w : 0 ≤ firD R c ∧ firD R c < x
            · rw [if_pos ⟨u.1, u.2, w.1, w.2⟩]
              exact ih _ _ _ (by omega) h2
            · rw [if_neg (fun z => w ⟨z.2.2.1, z.2.2.2⟩)]
              exact ih _ _ _ h1 h2
        · have v : ¬ (0 ≤ whoF R c ∧ X.testBit (whoF R c).toNat = true) := fun z => u ⟨z.1, ((hbit c z.1).1 z.2).1⟩
          rw [if_neg v] at h2 ⊢
          rw [if_neg (fun z => u ⟨z.1, z.2.1⟩)]
          exact ih _ _ _ h1 h2
    have ex : 0 ≤ lpG R X 20 0 := by
      obtain ⟨i, hi⟩ : ∃ i : Nat, (upF R).testBit i = true ∧ ¬ (upF (daysF D R)).testBit i = true := by
        apply Classical.byContradiction
        intro z
        apply s3
        apply Nat.eq_of_testBit_eq
        intro i
        cases a : (upF R).testBit i
        · cases b : (upF (daysF D R)).testBit i
          · rfl
          · have := sub D
            rw [← this, Nat.testBit_and, a, Bool.and_false] at b
            cases b
        · cases b : (upF (daysF D R)).testBit i
          · exact absurd ⟨i, a, by rw [b]; decide⟩ z
          · rfl
      have ui := upF_b2.1 hi.1
      have ht : isT R (i : Int) := ⟨by omega, by omega⟩
      have hT := hI.2.2.1 (i : Int) ht.1 (by omega)
      have hw := who_un hI ht rfl
      refine lpG_ne 20 0 (pl R i) (by omega) (by omega) (by rw [hw]; omega) ?_
      rw [hbit _ (by rw [hw]; omega), hw]
      exact ⟨ui.2, by rw [Int.toNat_natCast]; exact hi.2⟩
    exact ⟨by omega, by omega, ex, key 20 0 (-9) 1000000000 (by omega) ex⟩
