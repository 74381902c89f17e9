/-! statements: what they say -/
theorem smG_bits {W : Nat → Int} {M q : Nat} : ∀ (n s i : Nat), (smG W M q n s i).2 = true → ∀ k, k < n → i + k < M ∧ ftB (sbyt q (s + k)) (W (i + k)) = true := by
  intro n
  induction n with
  | zero => intro s i _ k hk; omega
  | succ n ih =>
    intro s i h k hk
    by_cases e : i < M ∧ ftB (sbyt q s) (W i) = true
    · rw [smG_s, if_pos e] at h
      cases k with
      | zero => exact e
      | succ k =>
        have := ih (s + 1) (i + 1) h k (by omega)
        rw [show s + 1 + k = s + (k + 1) by omega, show i + 1 + k = i + (k + 1) by omega] at this
        exact this
    · rw [smG_s, if_neg e] at h
      cases h
theorem ft57 {x : Int} (h : ftB 57 x = true) : 48 ≤ x ∧ x ≤ 57 := by
  unfold ftB at h
  rw [if_pos rfl, decide_eq_true_eq] at h
  exact h
theorem ft75 {x : Int} (h : ftB 75 x = true) : kbF x ≠ -9 := by
  unfold ftB at h
  rw [if_neg (by decide), if_pos rfl, decide_eq_true_eq] at h
  exact h
theorem kb_c (x : Int) : kbF x = -9 ∨ (0 ≤ kbF x ∧ kbF x ≤ 5) := by
  unfold kbF
  repeat' split
  all_goals omega
/-- a statement that fits: its letters -/
theorem stm_b {W : Nat → Int} {M i : Nat} (h : (stm W M i).2 = true) : fmI (W i) < 6 ∧ ∀ k, k < slen (fmI (W i)) → i + k < M ∧ ftB (sbyt (fmI (W i)) k) (W (i + k)) = true := by
  unfold stm at h
  by_cases e : i < M ∧ fmI (W i) ≠ 6
  · rw [if_pos e] at h
    have k := fmI_le (W i)
    refine ⟨by omega, fun j hj => ?_⟩
    have := smG_bits (slen (fmI (W i))) 0 i h j hj
    rw [Nat.zero_add] at this
    exact this
  · rw [if_neg e] at h
    cases h
theorem fm_c {x : Int} (h : fmI x < 6) : x = 112 ∨ x = 116 ∨ x = 108 ∨ x = 117 ∨ x = 115 ∨ x = 100 := by
  unfold fmI at h
  by_cases e1 : x = 100
  · omega
  rw [if_neg e1] at h
  by_cases e2 : x = 108
  · omega
  rw [if_neg e2] at h
  by_cases e3 : x = 112
  · omega
  rw [if_neg e3] at h
  by_cases e4 : x = 115
  · omega
  rw [if_neg e4] at h
  by_cases e5 : x = 116
  · omega
  rw [if_neg e5] at h
  by_cases e6 : x = 117
  · omega
  rw [if_neg e6] at h
  omega
theorem fm_p : fmI 112 = 0 := rfl
theorem fm_t : fmI 116 = 1 := rfl
theorem fm_l : fmI 108 = 2 := rfl
theorem fm_u : fmI 117 = 3 := rfl
theorem fm_s : fmI 115 = 4 := rfl
theorem fm_d : fmI 100 = 5 := rfl
/-- the digit at a place -/
def dg (W : Nat → Int) (i : Nat) : Int := W i - 48
/-- the numbers of a statement -/
def nF0 (W : Nat → Int) (i : Nat) : Int := if W i = 112 then kbF (W (i + 1)) else if W i = 100 then 10 * dg W (i + 1) + dg W (i + 2) else dg W (i + 1)
def nF1 (W : Nat → Int) (i : Nat) : Int := if W i = 112 ∨ W i = 108 then dg W (i + 2) else 10 * dg W (i + 2) + dg W (i + 3)
def nF2 (W : Nat → Int) (i : Nat) : Int := if W i = 112 then 10 * dg W (i + 3) + dg W (i + 4) else dg W (i + 4)
abbrev Dg (W : Nat → Int) (M i : Nat) : Prop := i < M ∧ 0 ≤ dg W i ∧ dg W i ≤ 9
theorem st_bits {W : Nat → Int} {M i : Nat} (h : (stm W M i).2 = true) : (W i = 112 → (i + 1 < M ∧ 0 ≤ kbF (W (i + 1)) ∧ kbF (W (i + 1)) ≤ 5) ∧ Dg W M (i + 2) ∧ Dg W M (i + 3) ∧ Dg W M (i + 4)) ∧ (W i = 116 → Dg W M (i + 1) ∧ Dg W M (i + 2) ∧ Dg W M (i + 3) ∧ Dg W M (i + 4)) ∧ (W i = 108 → Dg W M (i + 1) ∧ Dg W M (i + 2)) ∧ (W i = 117 → Dg W M (i + 1)) ∧ (W i = 115 → Dg W M (i + 1) ∧ Dg W M (i + 2) ∧ Dg W M (i + 3)) ∧ (W i = 100 → Dg W M (i + 1) ∧ Dg W M (i + 2)) := by
  obtain ⟨_, hb⟩ := stm_b h
  have d : ∀ (q k : Nat), fmI (W i) = q → k < slen q → sbyt q k = 57 → Dg W M (i + k) := by
    intro q k e hk hs
    obtain ⟨a, b⟩ := hb k (by rw [e]; exact hk)
    rw [e, hs] at b
    have c := ft57 b
    unfold Dg dg
    exact ⟨a, by omega, by omega⟩
  refine ⟨fun z => ⟨?_, d 0 2 (by rw [z]; rfl) (by decide) rfl, d 0 3 (by rw [z]; rfl) (by decide) rfl, d 0 4 (by rw [z]; rfl) (by decide) rfl⟩, fun z => ⟨d 1 1 (by rw [z]; rfl) (by decide) rfl, d 1 2 (by rw [z]; rfl) (by decide) rfl, d 1 3 (by rw [z]; rfl) (by decide) rfl, d 1 4 (by rw [z]; rfl) (by decide) rfl⟩, fun z => ⟨d 2 1 (by rw [z]; rfl) (by decide) rfl, d 2 2 (by rw [z]; rfl) (by decide) rfl⟩, fun z => d 3 1 (by rw [z]; rfl) (by decide) rfl, fun z => ⟨d 4 1 (by rw [z]; rfl) (by decide) rfl, d 4 2 (by rw [z]; rfl) (by decide) rfl, d 4 3 (by rw [z]; rfl) (by decide) rfl⟩, fun z => ⟨d 5 1 (by rw [z]; rfl) (by decide) rfl, d 5 2 (by rw [z]; rfl) (by decide) rfl⟩⟩
  obtain ⟨a, b⟩ := hb 1 (by rw [z]; decide)
  rw [z] at b
  have c := ft75 b
  have k := kb_c (W (i + 1))
  exact ⟨a, by omega, by omega⟩
/-- is a statement as it must be, and the row behind it -/
def dnO (R : Rw) (c a b d : Int) : Bool := if c = 112 then decide (R 0 ≠ 5) else if c = 116 then decide (¬ a < 1 ∧ (0 ≤ b ∧ b ≤ 19) ∧ whoF R b < 0 ∧ isP R d ∧ R 1 ≠ 10) else if c = 108 then decide (isT R a ∧ isP R b) else if c = 117 then decide (isT R a) else if c = 115 then decide (isP R a) else decide ((1 ≤ a ∧ a ≤ 60) ∧ ¬ 999 < R 2 + a)
def dnR (R : Rw) (c a b d : Int) : Rw := if c = 112 then adP R a b d else if c = 116 then adT R a b d else if c = 108 then wrt R (18 + 4 * a + 2).toNat b else if c = 117 then wrt R (18 + 4 * a + 3).toNat 1 else if c = 115 then wrt R (3 + 3 * a + 2).toNat b else daysF a.toNat R
def stO (R : Rw) (W : Nat → Int) (i : Nat) : Bool := dnO R (W i) (nF0 W i) (nF1 W i) (nF2 W i)
def stR (R : Rw) (W : Nat → Int) (i : Nat) : Rw := dnR R (W i) (nF0 W i) (nF1 W i) (nF2 W i)
/-! the class tells -/
theorem Tld.fr {σ σ' : St} {W : Nat → Int} {M q : Nat} (h : Tld σ W M) (f : FR q σ σ') : Tld σ' W M := by
  unfold Tld
  rw [f.tag (Or.inl (by decide)), f.tag (Or.inl (by decide))]
  exact h
theorem K_letterAt {σ : St} {W : Nat → Int} {M : Nat} (h : Tld σ W M) (x : Int) (k : Nat) (hx : x = k) (hk : k < M) : Rx k_X0_letterAt 0 [.inr (.inl (3, 0)), .inl x] [] σ = some (some (.inl (W k)), σ) := by
  subst hx
  obtain ⟨h1, h2, h3⟩ := h
  rw [b_X0_letterAt_0, if_neg (by omega), b_X0_letterAt_4, h2, if_pos (by omega), b_X0_letterAt_12, if_pos (by omega), b_X0_letterAt_18 (h0 := by omega) (h1 := by omega), Int.toNat_natCast, (h3 k hk).1]
theorem K_digitAt {σ : St} {W : Nat → Int} {M : Nat} (h : Tld σ W M) (x : Int) (k : Nat) (hx : x = k) (hk : Dg W M k) : Rx k_X0_digitAt 0 [.inr (.inl (3, 0)), .inl x] [] σ = some (some (.inl (dg W k)), σ) := by
  have w := (h.2.2 k hk.1).2
  rw [b_X0_digitAt_0, K_letterAt h x k hx hk.1]
  simp only [Option.bind_some, Option.toList_some, Option.toList_none, List.cons_append, List.nil_append, List.append_nil]
  rw [(b_X0_digitAt_5 (g0a := by omega) (g0b := by omega))]
  rfl
theorem K_numberAt {σ : St} {W : Nat → Int} {M : Nat} (h : Tld σ W M) (x : Int) (k : Nat) (hx : x = k) (hk : Dg W M k) (hk2 : Dg W M (k + 1)) : Rx k_X0_numberAt 0 [.inr (.inl (3, 0)), .inl x] [] σ = some (some (.inl (10 * dg W k + dg W (k + 1))), σ) := by
  have m := h.1
  have a := hk.2
  have b := hk2.2
  have c := hk.1
  rw [b_X0_numberAt_0, K_digitAt h x k hx hk]
  simp only [Option.bind_some, Option.toList_some, Option.toList_none, List.cons_append, List.nil_append, List.append_nil]
  rw [(b_X0_numberAt_7 (g0a := by omega) (g0b := by omega) (g1a := by omega) (g1b := by omega)), K_digitAt h (x + 1) (k + 1) (by omega) hk2]
  simp only [Option.bind_some, Option.toList_some, Option.toList_none, List.cons_append, List.nil_append, List.append_nil]
  rw [(b_X0_numberAt_15 (g0a := by omega) (g0b := by omega))]
theorem L_tellDays {q : Nat} (N : Int) (hN : N ≤ 60) : ∀ (n m : Nat) (σ : St) (R : Rw), (m : Int) + n = N → RK σ q R → 0 ≤ R 2 → R 2 + n ≤ 20000 → ∃ σ', Rx k_X0_tellDays 27 [.inl N, .inr (.inl (7, q)), .inl (m : Int)] [] σ = some (some (.inl 1), σ') ∧ FR q σ σ' ∧ RK σ' q (daysF n R) := by
  intro n
  induction n with
  | zero =>
    intro m σ R h1 hK h2 h3
    refine ⟨σ, ?_, FR.refl q σ, hK⟩
    rw [b_X0_tellDays_27, if_neg (show ¬ (m : Int) < N by omega), b_X0_tellDays_42]
  | succ n ih =>
    intro m σ R h1 hK h2 h3
    obtain ⟨σ1, s1, f1, g1⟩ := K_passDay hK h2 (by omega) uns uns
    have hd := dayF_ok hK.1
    obtain ⟨σ2, s2, f2, g2⟩ := ih (m + 1) σ1 (dayF R) (by omega) g1 (by omega) (by omega)
    refine ⟨σ2, ?_, f1.trans f2, by rw [daysF_s]; exact g2⟩
    rw [b_X0_tellDays_27, if_pos (show (m : Int) < N by omega), b_X0_tellDays_32, s1]
    simp only [Option.bind_some, Option.toList_some, Option.toList_none, List.cons_append, List.nil_append, List.append_nil]
    rw [(b_X0_tellDays_36 (g0a := by omega) (g0b := by omega))]
    exact s2
theorem K_tellDays {σ : St} {q : Nat} {R : Rw} (h : RK σ q R) (hd : Dk R) (d : Int) (u : AV) : ∃ σ', Rx k_X0_tellDays 0 [.inl d, .inr (.inl (7, q)), u] [] σ = some (some (.inl (if (1 ≤ d ∧ d ≤ 60) ∧ ¬ 999 < R 2 + d then 1 else 0)), σ') ∧ FR q σ σ' ∧ ((1 ≤ d ∧ d ≤ 60) ∧ ¬ 999 < R 2 + d → RK σ' q (daysF d.toNat R)) := by
  have e2 := h.2.1.2.2.1
  have hd1 := hd.1
  have hd2 := hd.2
  by_cases e : (1 ≤ d ∧ d ≤ 60) ∧ ¬ 999 < R 2 + d
  · obtain ⟨σ1, s1, f1, g1⟩ := L_tellDays (q := q) d (by omega) d.toNat 0 σ R (by omega) h hd1 (by omega)
    refine ⟨σ1, ?_, f1, fun _ => g1⟩
    rw [show ((0 : Nat) : Int) = 0 from rfl] at s1
    rw [if_pos e, b_X0_tellDays_0, if_neg (by omega), b_X0_tellDays_5, if_neg (by omega), b_X0_tellDays_11 (g0a := by rw [e2]; omega) (g0b := by rw [e2]; omega), e2, if_neg (by omega), b_X0_tellDays_25, s1]
  · refine ⟨σ, ?_, FR.refl q σ, fun z => absurd z e⟩
    rw [if_neg e, b_X0_tellDays_0]
    by_cases a : d < 1
    · rw [if_pos a, b_X0_tellDays_23]
    · rw [if_neg a, b_X0_tellDays_5]
      by_cases b : 60 < d
      · rw [if_pos b, b_X0_tellDays_23]
      · rw [if_neg b, b_X0_tellDays_11 (g0a := by rw [e2]; omega) (g0b := by rw [e2]; omega), e2, if_pos (by omega), b_X0_tellDays_23]
theorem ifd (c : Prop) [Decidable c] : (if decide c = true then (1 : Int) else 0) = if c then 1 else 0 := by
  by_cases h : c
  · rw [if_pos h, if_pos (decide_eq_true h)]
  · rw [if_neg h, if_neg (fun z => h (of_decide_eq_true z))]
theorem K_tell {σ : St} {W : Nat → Int} {M q i : Nat} {R : Rw} (hT : Tld σ W M) (h : RK σ q R) (hd : Dk R) (hs : (stm W M i).2 = true) : ∃ σ', Rx k_X0_tell 0 [.inr (.inl (3, 0)), .inl (i : Int), .inr (.inl (7, q))] [] σ = some (some (.inl (if stO R W i = true then 1 else 0)), σ') ∧ FR q σ σ' ∧ (stO R W i = true → RK σ' q (stR R W i)) := by
  have hb := h.1.1
  unfold Iv0 at hb
  obtain ⟨hf, hall⟩ := stm_b hs
  have l := slen_fm _ hf
  have hi := (hall 0 (by omega)).1
  have hM := hT.1
  obtain ⟨bp, bt, bl, bu, bs, bd⟩ := st_bits hs
  have rk1 : rkOK 2 1 = true := by decide
  have rk0 : rkOK 2 0 = true := by decide
  rw [b_X0_tell_0, K_letterAt hT (i : Int) i rfl (by omega)]
  simp only [Option.bind_some, Option.toList_some, Option.toList_none, List.cons_append, List.nil_append, List.append_nil]
  rw [b_X0_tell_5]
  unfold stO stR dnO dnR nF0 nF1 nF2
  rcases fm_c hf with e | e | e | e | e | e
  · obtain ⟨⟨p1, p2, p3⟩, d2, d3, d4⟩ := bp e
    have w1 := (hT.2.2 (i + 1) p1).2
    have k1 : (if kbF (W (i + 1)) = -9 then -1 else kbF (W (i + 1))) = kbF (W (i + 1)) := by rw [if_neg (by omega)]
    rw [e, if_neg (show ¬ (112 : Int) = 100 by decide), if_neg (show ¬ (112 : Int) = 108 by decide), if_pos (show (112 : Int) = 112 from rfl), if_pos (show (112 : Int) = 112 from rfl), if_pos (show (112 : Int) = 112 from rfl), if_pos (show (112 : Int) = 112 from rfl), if_pos (show (112 : Int) = 112 ∨ (112 : Int) = 108 from Or.inl rfl), if_pos (show (112 : Int) = 112 from rfl), (b_X0_tell_92 (g0a := by omega) (g0b := by omega)), K_letterAt hT ((i : Int) + 1) (i + 1) (by omega) p1]
    simp only [Option.bind_some, Option.toList_some, Option.toList_none, List.cons_append, List.nil_append, List.append_nil]
    rw [b_X0_tell_100, K_kindOf _ w1.1 w1.2, k1]
    simp only [Option.bind_some, Option.toList_some, Option.toList_none, List.cons_append, List.nil_append, List.append_nil]
    rw [(b_X0_tell_103 (g0a := by omega) (g0b := by omega)), K_digitAt hT ((i : Int) + 2) (i + 2) (by omega) d2]
    simp only [Option.bind_some, Option.toList_some, Option.toList_none, List.cons_append, List.nil_append, List.append_nil]
    rw [(b_X0_tell_110 (g0a := by omega) (g0b := by omega)), K_numberAt hT ((i : Int) + 3) (i + 3) (by omega) d3 d4]
    simp only [Option.bind_some, Option.toList_some, Option.toList_none, List.cons_append, List.nil_append, List.append_nil]
    rw [b_X0_tell_117]
    have q3 := d3.2
    have q4 := d4.2
    by_cases z : R 0 ≠ 5
    · obtain ⟨σ1, s1, f1, g1⟩ := K_addPurpose h z ⟨p2, p3⟩ d2.2 (show 0 ≤ 10 * dg W (i + 3) + dg W (i + 4) ∧ 10 * dg W (i + 3) + dg W (i + 4) ≤ 99 by omega)
      refine ⟨σ1, ?_, f1, fun _ => g1⟩
      rw [s1, if_pos (decide_eq_true z)]
      simp only [Option.bind_some, Option.toList_some, Option.toList_none, List.cons_append, List.nil_append, List.append_nil]
      rw [b_X0_tell_120 (h0 := rk1)]
    · refine ⟨σ, ?_, FR.refl q σ, fun y => absurd (of_decide_eq_true y) z⟩
      rw [K_addPurposeNo h (by omega), if_neg (fun y => z (of_decide_eq_true y))]
      simp only [Option.bind_some, Option.toList_some, Option.toList_none, List.cons_append, List.nil_append, List.append_nil]
      rw [b_X0_tell_120 (h0 := rk0)]
  · obtain ⟨d1, d2, d3, d4⟩ := bt e
    have q1 := d1.2
    have q2 := d2.2
    have q3 := d3.2
    rw [e, if_neg (show ¬ (116 : Int) = 100 by decide), if_neg (show ¬ (116 : Int) = 108 by decide), if_neg (show ¬ (116 : Int) = 112 by decide), if_neg (show ¬ (116 : Int) = 115 by decide), if_pos (show (116 : Int) = 116 from rfl), if_neg (show ¬ (116 : Int) = 112 by decide), if_pos (show (116 : Int) = 116 from rfl), if_neg (show ¬ (116 : Int) = 112 by decide), if_neg (show ¬ (116 : Int) = 100 by decide), if_neg (show ¬ ((116 : Int) = 112 ∨ (116 : Int) = 108) by decide), if_neg (show ¬ (116 : Int) = 112 by decide), if_neg (show ¬ (116 : Int) = 112 by decide), if_pos (show (116 : Int) = 116 from rfl), (b_X0_tell_121 (g0a := by omega) (g0b := by omega)), K_digitAt hT ((i : Int) + 1) (i + 1) (by omega) d1]
    simp only [Option.bind_some, Option.toList_some, Option.toList_none, List.cons_append, List.nil_append, List.append_nil]
    rw [(b_X0_tell_129 (g0a := by omega) (g0b := by omega)), K_numberAt hT ((i : Int) + 2) (i + 2) (by omega) d2 d3]
    simp only [Option.bind_some, Option.toList_some, Option.toList_none, List.cons_append, List.nil_append, List.append_nil]
    rw [(b_X0_tell_136 (g0a := by omega) (g0b := by omega)), K_digitAt hT ((i : Int) + 4) (i + 4) (by omega) d4]
    simp only [Option.bind_some, Option.toList_some, Option.toList_none, List.cons_append, List.nil_append, List.append_nil]
    rw [b_X0_tell_143]
    by_cases z : ¬ dg W (i + 1) < 1 ∧ (0 ≤ 10 * dg W (i + 2) + dg W (i + 3) ∧ 10 * dg W (i + 2) + dg W (i + 3) ≤ 19) ∧ whoF R (10 * dg W (i + 2) + dg W (i + 3)) < 0 ∧ isP R (dg W (i + 4)) ∧ R 1 ≠ 10
    · obtain ⟨σ1, s1, f1, g1⟩ := K_addThing h z.2.2.2.2 (show 1 ≤ dg W (i + 1) ∧ dg W (i + 1) ≤ 9 by omega) z.2.1 z.2.2.1 z.2.2.2.1 uns
      refine ⟨σ1, ?_, f1, fun _ => g1⟩
      rw [s1, if_pos (decide_eq_true z)]
      simp only [Option.bind_some, Option.toList_some, Option.toList_none, List.cons_append, List.nil_append, List.append_nil]
      rw [b_X0_tell_146 (h0 := rk1)]
    · refine ⟨σ, ?_, FR.refl q σ, fun y => absurd (of_decide_eq_true y) z⟩
      rw [K_addThingNo h z, if_neg (fun y => z (of_decide_eq_true y))]
      simp only [Option.bind_some, Option.toList_some, Option.toList_none, List.cons_append, List.nil_append, List.append_nil]
      rw [b_X0_tell_146 (h0 := rk0)]
  · obtain ⟨d1, d2⟩ := bl e
    rw [e, if_neg (show ¬ (108 : Int) = 100 by decide), if_pos (show (108 : Int) = 108 from rfl), if_neg (show ¬ (108 : Int) = 112 by decide), if_neg (show ¬ (108 : Int) = 116 by decide), if_pos (show (108 : Int) = 108 from rfl), if_neg (show ¬ (108 : Int) = 112 by decide), if_neg (show ¬ (108 : Int) = 100 by decide), if_pos (show (108 : Int) = 112 ∨ (108 : Int) = 108 from Or.inr rfl), if_neg (show ¬ (108 : Int) = 112 by decide), if_neg (show ¬ (108 : Int) = 116 by decide), if_pos (show (108 : Int) = 108 from rfl), (b_X0_tell_147 (g0a := by omega) (g0b := by omega)), K_digitAt hT ((i : Int) + 1) (i + 1) (by omega) d1]
    simp only [Option.bind_some, Option.toList_some, Option.toList_none, List.cons_append, List.nil_append, List.append_nil]
    rw [(b_X0_tell_155 (g0a := by omega) (g0b := by omega)), K_digitAt hT ((i : Int) + 2) (i + 2) (by omega) d2]
    simp only [Option.bind_some, Option.toList_some, Option.toList_none, List.cons_append, List.nil_append, List.append_nil]
    rw [b_X0_tell_162]
    by_cases z : isT R (dg W (i + 1)) ∧ isP R (dg W (i + 2))
    · obtain ⟨σ1, s1, f1, g1⟩ := K_leanOn h z.1 z.2
      refine ⟨σ1, ?_, f1, fun _ => g1⟩
      rw [s1, if_pos (decide_eq_true z)]
      simp only [Option.bind_some, Option.toList_some, Option.toList_none, List.cons_append, List.nil_append, List.append_nil]
      rw [b_X0_tell_165 (h0 := rk1)]
    · refine ⟨σ, ?_, FR.refl q σ, fun y => absurd (of_decide_eq_true y) z⟩
      rw [K_leanNo h z, if_neg (fun y => z (of_decide_eq_true y))]
      simp only [Option.bind_some, Option.toList_some, Option.toList_none, List.cons_append, List.nil_append, List.append_nil]
      rw [b_X0_tell_165 (h0 := rk0)]
  · have d1 := bu e
    rw [e, if_neg (show ¬ (117 : Int) = 100 by decide), if_neg (show ¬ (117 : Int) = 108 by decide), if_neg (show ¬ (117 : Int) = 112 by decide), if_neg (show ¬ (117 : Int) = 115 by decide), if_neg (show ¬ (117 : Int) = 116 by decide), if_pos (show (117 : Int) = 117 from rfl), if_neg (show ¬ (117 : Int) = 112 by decide), if_neg (show ¬ (117 : Int) = 116 by decide), if_neg (show ¬ (117 : Int) = 108 by decide), if_pos (show (117 : Int) = 117 from rfl), if_neg (show ¬ (117 : Int) = 112 by decide), if_neg (show ¬ (117 : Int) = 100 by decide), if_neg (show ¬ (117 : Int) = 112 by decide), if_neg (show ¬ (117 : Int) = 116 by decide), if_neg (show ¬ (117 : Int) = 108 by decide), if_pos (show (117 : Int) = 117 from rfl), (b_X0_tell_166 (g0a := by omega) (g0b := by omega)), K_digitAt hT ((i : Int) + 1) (i + 1) (by omega) d1]
    simp only [Option.bind_some, Option.toList_some, Option.toList_none, List.cons_append, List.nil_append, List.append_nil]
    rw [b_X0_tell_174]
    by_cases z : isT R (dg W (i + 1))
    · obtain ⟨σ1, s1, f1, g1⟩ := K_raise h z
      refine ⟨σ1, ?_, f1, fun _ => g1⟩
      rw [s1, if_pos (decide_eq_true z)]
      simp only [Option.bind_some, Option.toList_some, Option.toList_none, List.cons_append, List.nil_append, List.append_nil]
      rw [b_X0_tell_177 (h0 := rk1)]
    · refine ⟨σ, ?_, FR.refl q σ, fun y => absurd (of_decide_eq_true y) z⟩
      rw [K_raiseNo h z, if_neg (fun y => z (of_decide_eq_true y))]
      simp only [Option.bind_some, Option.toList_some, Option.toList_none, List.cons_append, List.nil_append, List.append_nil]
      rw [b_X0_tell_177 (h0 := rk0)]
  · obtain ⟨d1, d2, d3⟩ := bs e
    have q2 := d2.2
    have q3 := d3.2
    rw [e, if_neg (show ¬ (115 : Int) = 100 by decide), if_neg (show ¬ (115 : Int) = 108 by decide), if_neg (show ¬ (115 : Int) = 112 by decide), if_pos (show (115 : Int) = 115 from rfl), if_neg (show ¬ (115 : Int) = 112 by decide), if_neg (show ¬ (115 : Int) = 116 by decide), if_neg (show ¬ (115 : Int) = 108 by decide), if_neg (show ¬ (115 : Int) = 117 by decide), if_pos (show (115 : Int) = 115 from rfl), if_neg (show ¬ (115 : Int) = 112 by decide), if_neg (show ¬ (115 : Int) = 100 by decide), if_neg (show ¬ ((115 : Int) = 112 ∨ (115 : Int) = 108) by decide), if_neg (show ¬ (115 : Int) = 112 by decide), if_neg (show ¬ (115 : Int) = 116 by decide), if_neg (show ¬ (115 : Int) = 108 by decide), if_neg (show ¬ (115 : Int) = 117 by decide), if_pos (show (115 : Int) = 115 from rfl), (b_X0_tell_178 (g0a := by omega) (g0b := by omega)), K_digitAt hT ((i : Int) + 1) (i + 1) (by omega) d1]
    simp only [Option.bind_some, Option.toList_some, Option.toList_none, List.cons_append, List.nil_append, List.append_nil]
    rw [(b_X0_tell_186 (g0a := by omega) (g0b := by omega)), K_numberAt hT ((i : Int) + 2) (i + 2) (by omega) d2 d3]
    simp only [Option.bind_some, Option.toList_some, Option.toList_none, List.cons_append, List.nil_append, List.append_nil]
    rw [b_X0_tell_193]
    by_cases z : isP R (dg W (i + 1))
    · obtain ⟨σ1, s1, f1, g1⟩ := K_strengthen h z (show 0 ≤ 10 * dg W (i + 2) + dg W (i + 3) ∧ 10 * dg W (i + 2) + dg W (i + 3) ≤ 99 by omega)
      refine ⟨σ1, ?_, f1, fun _ => g1⟩
      rw [s1, if_pos (decide_eq_true z)]
      simp only [Option.bind_some, Option.toList_some, Option.toList_none, List.cons_append, List.nil_append, List.append_nil]
      rw [b_X0_tell_196 (h0 := rk1)]
    · refine ⟨σ, ?_, FR.refl q σ, fun y => absurd (of_decide_eq_true y) z⟩
      rw [K_strengthenNo h z, if_neg (fun y => z (of_decide_eq_true y))]
      simp only [Option.bind_some, Option.toList_some, Option.toList_none, List.cons_append, List.nil_append, List.append_nil]
      rw [b_X0_tell_196 (h0 := rk0)]
  · obtain ⟨d1, d2⟩ := bd e
    obtain ⟨σ1, s1, f1, g1⟩ := K_tellDays h hd (10 * dg W (i + 1) + dg W (i + 2)) uns
    refine ⟨σ1, ?_, f1, ?_⟩
    · rw [e, if_pos (show (100 : Int) = 100 from rfl), if_neg (show ¬ (100 : Int) = 112 by decide), if_neg (show ¬ (100 : Int) = 116 by decide), if_neg (show ¬ (100 : Int) = 108 by decide), if_neg (show ¬ (100 : Int) = 117 by decide), if_neg (show ¬ (100 : Int) = 115 by decide), if_neg (show ¬ (100 : Int) = 112 by decide), if_pos (show (100 : Int) = 100 from rfl), (b_X0_tell_197 (g0a := by omega) (g0b := by omega)), K_numberAt hT ((i : Int) + 1) (i + 1) (by omega) d1 d2]
      simp only [Option.bind_some, Option.toList_some, Option.toList_none, List.cons_append, List.nil_append, List.append_nil]
      rw [b_X0_tell_204, s1, ifd]
      simp only [Option.bind_some, Option.toList_some, Option.toList_none, List.cons_append, List.nil_append, List.append_nil]
      rw [b_X0_tell_208 (h0 := rk01 _)]
    · rw [e, if_neg (show ¬ (100 : Int) = 112 by decide), if_neg (show ¬ (100 : Int) = 116 by decide), if_neg (show ¬ (100 : Int) = 108 by decide), if_neg (show ¬ (100 : Int) = 117 by decide), if_neg (show ¬ (100 : Int) = 115 by decide), if_neg (show ¬ (100 : Int) = 112 by decide), if_pos (show (100 : Int) = 100 from rfl), decide_eq_true_eq, if_neg (show ¬ (100 : Int) = 112 by decide), if_neg (show ¬ (100 : Int) = 116 by decide), if_neg (show ¬ (100 : Int) = 108 by decide), if_neg (show ¬ (100 : Int) = 117 by decide), if_neg (show ¬ (100 : Int) = 115 by decide)]
      exact g1
