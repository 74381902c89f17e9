/-! the reference: lean, two, judge, row, the best place -/
def leaD (R : Rw) (t : Nat) (p : Int) : Int := if downF (wrt R (18 + 4 * (t : Int) + 2).toNat p) (2 ^ t) 1 < 0 then 100 else downF (wrt R (18 + 4 * (t : Int) + 2).toNat p) (2 ^ t) 1
theorem C_orNever (x : Int) (σ : St) : Rx k_X5_orNever 0 [.inl x] [] σ = some (some (.inl (if x < 0 then 100 else x)), σ) := by
  rw [b_X5_orNever_0]
  by_cases h : x < 0
  · rw [if_pos h, if_pos h, b_X5_orNever_4]
  · rw [if_neg h, if_neg h, b_X5_orNever_9]
def leaG (R : Rw) (t : Nat) : Nat → Int → Int → Int → Int
  | 0, _, f, _ => f
  | n + 1, p, f, x => if x < leaD R t p then leaG R t n (p + 1) p (leaD R t p) else leaG R t n (p + 1) f x
theorem leaG_s (R : Rw) (t n : Nat) (p f x : Int) : leaG R t (n + 1) p f x = if x < leaD R t p then leaG R t n (p + 1) p (leaD R t p) else leaG R t n (p + 1) f x := rfl
def leaA (R : Rw) (t : Int) : Int := leaG R t.toNat (R 0).toNat 0 (-9) (-1)
theorem L_lean (σ : St) (h : Mok σ) (t : Nat) (ht : isT (σ 17 0) t) (x2 : Int) : ∀ (n : Nat) (p f x : Int) (u : AV) (σ1 : St), 0 ≤ p → p + n = σ 17 0 0 → MS σ σ1 → ∃ σ', MS σ σ' ∧ Rx k_X5_lean 25 [.inr (.inl (16, 0)), .inl (t : Int), .inl x2, .inl f, .inl x, .inl p, u] [] σ1 = some (some (.inl (leaG (σ 17 0) t n p f x)), σ') := by
  have hb := h.ct
  have hd := h.2.1
  have hd2 := h.2.2.1
  have hp2 : 2 ^ t < 2147483648 := Nat.lt_of_lt_of_le (Nat.pow_lt_pow_right (by decide) (show t < 10 by omega)) (by decide)
  intro n
  induction n with
  | zero =>
    intro p f x u σ1 h0 h1 hk
    refine ⟨σ1, hk, ?_⟩
    rw [b_X5_lean_25, hk.row (by decide), if_neg (by omega), b_X5_lean_96]
    rfl
  | succ n ih =>
    intro p f x u σ1 h0 h1 hk
    have m1 := h.ms hk
    have e0 : σ1 17 0 = σ 17 0 := hk.row (by decide)
    have cp := m1.cp uns
    rw [e0] at cp
    obtain ⟨w0, w1, w2, w3, w4⟩ := tw (R := σ 17 0) (v := p) 2 (show (0 : Int) ≤ (t : Int) by omega) (by omega)
    have i1 := h.1.onw (t := (t : Int)) (p := p) (by omega) (by omega)
    obtain ⟨σ2, k1, k2⟩ := C_downIn 1 (2 ^ t) hp2 (setR σ1 1 (wrt (σ 17 0) (18 + 4 * (t : Int) + 2).toNat p)) uns uns (by rw [setR_at]; exact i1) (by rw [setR_at, w2]; omega) (by rw [setR_at, w2]; omega)
    rw [setR_at] at k2
    have k3 : MS σ σ2 := hk.trans ((MS.set (fun k hk' => by rw [w3 k hk' (by omega), m1.z k hk', e0])).trans k1)
    rw [b_X5_lean_25, e0, if_pos (by omega), b_X5_lean_36, cp]
    simp only [Option.bind_some, Option.toList_some, Option.toList_none, List.cons_append, List.nil_append, List.append_nil]
    rw [b_X5_lean_47, C_ofT _ _ (by omega) (by omega)]
    simp only [Option.bind_some, Option.toList_some, Option.toList_none, List.cons_append, List.nil_append, List.append_nil]
    rw [b_X5_lean_55 _ _ _ _ _ _ _ _ (by omega) (by omega) (by omega) (by omega), up17s, shl1 (by omega), k2]
    simp only [Option.bind_some, Option.toList_some, Option.toList_none, List.cons_append, List.nil_append, List.append_nil]
    rw [b_X5_lean_68, C_orNever]
    simp only [Option.bind_some, Option.toList_some, Option.toList_none, List.cons_append, List.nil_append, List.append_nil]
    rw [b_X5_lean_71]
    have el : (if downF (wrt (σ 17 0) (18 + 4 * (t : Int) + 2).toNat p) (2 ^ t) 1 < 0 then (100 : Int) else downF (wrt (σ 17 0) (18 + 4 * (t : Int) + 2).toNat p) (2 ^ t) 1) = leaD (σ 17 0) t p := rfl
    rw [el, leaG_s]
    by_cases h4 : x < leaD (σ 17 0) t p
    · rw [if_pos h4, if_pos h4, b_X5_lean_83 _ _ _ _ _ _ _ (by omega) (by omega)]
      exact ih (p + 1) _ _ _ σ2 (by omega) (by omega) k3
    · rw [if_neg h4, if_neg h4, b_X5_lean_80 _ _ _ _ _ _ _ (by omega) (by omega)]
      exact ih (p + 1) _ _ _ σ2 (by omega) (by omega) k3
theorem M_lean (t : Int) (σ : St) (u2 u3 u4 u5 u6 : AV) (h : Mok σ) : Q (fun z => Rx k_X5_lean 0 [.inr (.inl (16, 0)), .inl t, u2, u3, u4, u5, u6] [] σ = some z) σ (wupF (σ 17 0) t) (leaA (σ 17 0) t) := by
  have hb := h.ct
  have hw := wup_c (σ 17 0) t
  have hl : Rx k_X5_lean 0 [.inr (.inl (16, 0)), .inl t, u2, u3, u4, u5, u6] [] σ = if wupF (σ 17 0) t = 0 then Rx k_X5_lean 16 [.inr (.inl (16, 0)), .inl t, .inl (wupF (σ 17 0) t), u3, u4, u5, u6] [] σ else Rx k_X5_lean 10 [.inr (.inl (16, 0)), .inl t, .inl (wupF (σ 17 0) t), u3, u4, u5, u6] [] σ := by
    rw [b_X5_lean_0, C_wrongUp _ _ h.1.1]
    simp only [Option.bind_some, Option.toList_some, Option.toList_none, List.cons_append, List.nil_append, List.append_nil]
    rw [b_X5_lean_5]
  rw [hl]
  by_cases h1 : wupF (σ 17 0) t = 0
  · have ht : isT (σ 17 0) t := by rcases hw with z | z | z; exact z.2.1; omega; omega
    obtain ⟨n, rfl⟩ : ∃ n : Nat, t = n := ⟨t.toNat, by omega⟩
    obtain ⟨σ', k1, k2⟩ := L_lean σ h n ht 0 (σ 17 0 0).toNat 0 (-9) (-1) u6 σ (by decide) (by omega) (MS.refl σ)
    rw [if_pos h1, h1]
    refine Q_ok k1 ?_
    rw [b_X5_lean_16, k2]
    rfl
  · rw [if_neg h1]
    refine Q_no h1 ?_
    rw [b_X5_lean_10, h.no (by omega) (by omega)]
    simp only [Option.bind_some, Option.toList_some, Option.toList_none, List.cons_append, List.nil_append, List.append_nil]
    rw [b_X5_lean_15]
/-- two -/
def uppF (R : Rw) (t c t' c' d : Int) : Int := (pc10 (upF (daysF d.toNat (psF (psF R t c) t' c'))) : Nat)
abbrev twoOk (R : Rw) (t s d a b : Int) : Prop := ¬ uppF R t a s b d < uppF R t (1 - a) s b d ∧ ¬ uppF R t a s (1 - b) d < uppF R t a s b d
def twoG (R : Rw) (t s d : Int) : Nat → Int → Int
  | 0, _ => -9
  | n + 1, k => if twoOk R t s d (k.tdiv 2) (k.tmod 2) then 10 * k.tdiv 2 + k.tmod 2 else twoG R t s d n (k + 1)
theorem twoG_s (R : Rw) (t s d : Int) (n : Nat) (k : Int) : twoG R t s d (n + 1) k = if twoOk R t s d (k.tdiv 2) (k.tmod 2) then 10 * k.tdiv 2 + k.tmod 2 else twoG R t s d n (k + 1) := rfl
def twoA (R : Rw) (t s d : Int) : Int := twoG R t s d 4 0
theorem Mok.upp {σ σ1 : St} (h : Mok σ) (hk : MS σ σ1) {t s d : Int} (c c' : Int) (ht : isT (σ 17 0) t) (hs : isT (σ 17 0) s) (h0 : 0 ≤ d) (h1 : d ≤ 99) : ∃ σ', MS σ σ' ∧ Rx k_X5_upPushed 0 [.inr (.inl (16, 0)), .inl t, .inl c, .inl s, .inl c', .inl d, uns, uns] [] σ1 = some (some (.inl (uppF (σ 17 0) t c s c' d)), σ') := by
  have m1 := h.ms hk
  have e0 : σ1 17 0 = σ 17 0 := hk.row (by decide)
  have hd := h.2.1
  have hd2 := h.2.2.1
  obtain ⟨σ', k1, k2⟩ := C_upPushed t c s c' d σ1 uns uns m1.1 m1.z ht.1 (by rw [e0]; omega) hs.1 (by rw [e0]; omega) h0 (by rw [e0]; omega) (by rw [e0]; omega)
  rw [e0] at k2
  exact ⟨σ', hk.trans k1, k2⟩
theorem L_two (σ : St) (h : Mok σ) (t s d x4 : Int) (ht : isT (σ 17 0) t) (hs : isT (σ 17 0) s) (h0 : 0 ≤ d) (h1 : d ≤ 99) : ∀ (n : Nat) (k : Int) (u6 u7 u8 : AV) (σ1 : St), 0 ≤ k → k + n = 4 → MS σ σ1 → ∃ σ', MS σ σ' ∧ Rx k_X5_two 48 [.inr (.inl (16, 0)), .inl t, .inl s, .inl d, .inl x4, .inl k, u6, u7, u8] [] σ1 = some (some (.inl (twoG (σ 17 0) t s d n k)), σ') := by
  intro n
  induction n with
  | zero =>
    intro k u6 u7 u8 σ1 a b hk
    refine ⟨σ1, hk, ?_⟩
    rw [b_X5_two_48, if_neg (by omega), b_X5_two_130]
    rfl
  | succ n ih =>
    intro k u6 u7 u8 σ1 a b hk
    have q1 : 0 ≤ k.tdiv 2 ∧ k.tdiv 2 ≤ 1 := by rw [Int.tdiv_eq_ediv_of_nonneg a]; omega
    have q2 : 0 ≤ k.tmod 2 ∧ k.tmod 2 ≤ 1 := by rw [Int.tmod_eq_emod_of_nonneg a]; omega
    obtain ⟨σ2, k1, k2⟩ := h.upp hk (k.tdiv 2) (k.tmod 2) ht hs h0 h1
    obtain ⟨σ3, k3, k4⟩ := h.upp k1 (1 - k.tdiv 2) (k.tmod 2) ht hs h0 h1
    obtain ⟨σ4, k5, k6⟩ := h.upp k3 (k.tdiv 2) (1 - k.tmod 2) ht hs h0 h1
    rw [b_X5_two_48, if_pos (by omega), b_X5_two_54 _ _ _ _ _ _ _ _ _ (by omega) (by omega), k2]
    simp only [Option.bind_some, Option.toList_some, Option.toList_none, List.cons_append, List.nil_append, List.append_nil]
    rw [b_X5_two_77 _ _ _ _ _ _ _ _ _ _ (by omega) (by omega), k4]
    simp only [Option.bind_some, Option.toList_some, Option.toList_none, List.cons_append, List.nil_append, List.append_nil]
    rw [b_X5_two_92, twoG_s]
    by_cases h2 : uppF (σ 17 0) t (k.tdiv 2) s (k.tmod 2) d < uppF (σ 17 0) t (1 - k.tdiv 2) s (k.tmod 2) d
    · rw [if_pos h2, if_neg (fun z => z.1 h2), b_X5_two_124 _ _ _ _ _ _ _ _ _ (by omega) (by omega)]
      exact ih (k + 1) _ _ _ σ3 (by omega) (by omega) k3
    · rw [if_neg h2, b_X5_two_97 _ _ _ _ _ _ _ _ _ (by omega) (by omega), k6]
      simp only [Option.bind_some, Option.toList_some, Option.toList_none, List.cons_append, List.nil_append, List.append_nil]
      rw [b_X5_two_110]
      by_cases h3 : uppF (σ 17 0) t (k.tdiv 2) s (1 - k.tmod 2) d < uppF (σ 17 0) t (k.tdiv 2) s (k.tmod 2) d
      · rw [if_pos h3, if_neg (fun z => z.2 h3), b_X5_two_124 _ _ _ _ _ _ _ _ _ (by omega) (by omega)]
        exact ih (k + 1) _ _ _ σ4 (by omega) (by omega) k5
      · rw [if_neg h3, if_pos ⟨h2, h3⟩, b_X5_two_115 _ _ _ _ _ _ _ _ _ (by omega) (by omega) (by omega) (by omega)]
        exact ⟨σ4, k5, rfl⟩
def twoB (R : Rw) (t s d : Int) : Int := if isT R t ∧ isT R s ∧ t ≠ s then wbyF d 99 else -1
theorem M_two (t s d : Int) (σ : St) (u4 u5 u6 u7 u8 : AV) (h : Mok σ) : Q (fun z => Rx k_X5_two 0 [.inr (.inl (16, 0)), .inl t, .inl s, .inl d, u4, u5, u6, u7, u8] [] σ = some z) σ (twoB (σ 17 0) t s d) (twoA (σ 17 0) t s d) := by
  have hw := wby_c d 99
  unfold twoB
  have hn : ∀ c : Int, -6 ≤ c → c ≤ 0 → Rx k_X5_two 38 [.inr (.inl (16, 0)), .inl t, .inl s, .inl d, .inl c, u5, u6, u7, u8] [] σ = some (some (.inl c), noS σ c) := by
    intro c a b
    rw [b_X5_two_38, h.no a b]
    simp only [Option.bind_some, Option.toList_some, Option.toList_none, List.cons_append, List.nil_append, List.append_nil]
    rw [b_X5_two_44]
  have hm : Rx k_X5_two 21 [.inr (.inl (16, 0)), .inl t, .inl s, .inl d, u4, u5, u6, u7, u8] [] σ = some (some (.inl (-1)), noS σ (-1)) := by
    rw [b_X5_two_21, if_neg (by decide), hn (-1) (by decide) (by decide)]
  by_cases h1 : isT (σ 17 0) t
  · have l1 : Rx k_X5_two 0 [.inr (.inl (16, 0)), .inl t, .inl s, .inl d, u4, u5, u6, u7, u8] [] σ = if (if isT (σ 17 0) s then (1 : Int) else 0) = 0 then Rx k_X5_two 21 [.inr (.inl (16, 0)), .inl t, .inl s, .inl d, u4, u5, u6, u7, u8] [] σ else Rx k_X5_two 16 [.inr (.inl (16, 0)), .inl t, .inl s, .inl d, u4, u5, u6, u7, u8] [] σ := by
      rw [b_X5_two_0, h.thin, if_pos h1]
      simp only [Option.bind_some, Option.toList_some, Option.toList_none, List.cons_append, List.nil_append, List.append_nil]
      rw [b_X5_two_5, if_neg (by decide), b_X5_two_8, h.thin]
      simp only [Option.bind_some, Option.toList_some, Option.toList_none, List.cons_append, List.nil_append, List.append_nil]
      rw [b_X5_two_13]
    rw [l1]
    by_cases h2 : isT (σ 17 0) s
    · rw [if_pos h2, if_neg (by decide), b_X5_two_16]
      by_cases h3 : t = s
      · rw [if_pos h3, if_neg (fun z => z.2.2 h3)]
        exact Q_no (by decide) hm
      · rw [if_neg h3, if_pos ⟨h1, h2, h3⟩, b_X5_two_25, C_wrongBy]
        simp only [Option.bind_some, Option.toList_some, Option.toList_none, List.cons_append, List.nil_append, List.append_nil]
        rw [b_X5_two_31]
        by_cases h4 : wbyF d 99 = 0
        · have h5 : 0 ≤ d ∧ d ≤ 99 := by rcases hw with z | z | z; exact z.2; omega; omega
          obtain ⟨σ', k1, k2⟩ := L_two σ h t s d 0 h1 h2 h5.1 h5.2 4 0 u6 u7 u8 σ (by decide) (by decide) (MS.refl σ)
          rw [if_pos h4, h4]
          refine Q_ok k1 ?_
          rw [b_X5_two_45, k2]
          rfl
        · rw [if_neg h4]
          exact Q_no h4 (hn _ (by omega) (by omega))
    · rw [if_neg h2, if_pos rfl, if_neg (fun z => h2 z.2.1)]
      exact Q_no (by decide) hm
  · rw [if_neg (fun z => h1 z.1)]
    refine Q_no (by decide) ?_
    rw [b_X5_two_0, h.thin, if_neg h1]
    simp only [Option.bind_some, Option.toList_some, Option.toList_none, List.cons_append, List.nil_append, List.append_nil]
    rw [b_X5_two_5, if_pos rfl, hm]
/-- judge: the first day on which another number is up than was foretold -/
def judG (V : Nat → Int) : Nat → Nat → Rw → Int
  | 0, _, _ => -9
  | n + 1, k, R => if ((pc10 (upF R) : Nat) : Int) = V k then judG V n (k + 1) (dayF R) else k
theorem judG_s (V : Nat → Int) (n k : Nat) (R : Rw) : judG V (n + 1) k R = if ((pc10 (upF R) : Nat) : Int) = V k then judG V n (k + 1) (dayF R) else k := rfl
theorem L_judge (V : Nat → Int) (N : Int) (hN : N ≤ 16) : ∀ (n k : Nat) (σ : St), (k : Int) + n = N → σ 20 0 = V → Iv (σ 17 1) → 0 ≤ σ 17 1 2 → σ 17 1 2 + n ≤ 20000 → ∃ σ', MS σ σ' ∧ Rx k_X5_judge 23 [.inr (.inl (16, 0)), .inl N, .inl k] [] σ = some (some (.inl (judG V n k (σ 17 1))), σ') := by
  intro n
  induction n with
  | zero =>
    intro k σ h1 hV hR h2 h3
    refine ⟨σ, MS.refl σ, ?_⟩
    rw [b_X5_judge_23, if_neg (by omega), b_X5_judge_63]
    rfl
  | succ n ih =>
    intro k σ h1 hV hR h2 h3
    have hb := hR.1
    unfold Iv0 at hb
    rw [b_X5_judge_23, if_pos (by omega), b_X5_judge_28, C_upSet _ _ hR.to1]
    simp only [Option.bind_some, Option.toList_some, Option.toList_none, List.cons_append, List.nil_append, List.append_nil]
    rw [b_X5_judge_35, C_bits _ (upF_lt hb.2.2.2)]
    simp only [Option.bind_some, Option.toList_some, Option.toList_none, List.cons_append, List.nil_append, List.append_nil]
    rw [b_X5_judge_38 _ _ _ _ (by omega) (by omega), hV, Int.toNat_natCast, judG_s]
    by_cases h4 : ((pc10 (upF (σ 17 1)) : Nat) : Int) = V k
    · obtain ⟨g, hd⟩ := C_day 1 σ hR h2 (by omega)
      obtain ⟨o1, o2, o3, o4, o5⟩ := dayF_ok hR
      have e20 : sR σ 1 (dayF (σ 17 1)) g 20 0 = V := by rw [(MS.ofR (g := g) o5).tag (by decide) (by decide) (by decide)]; exact hV
      obtain ⟨σ', k1, k2⟩ := ih (k + 1) (sR σ 1 (dayF (σ 17 1)) g) (by omega) e20 (by rw [sR_17]; exact o1) (by rw [sR_17, o4]; omega) (by rw [sR_17, o4]; omega)
      rw [sR_17] at k2
      refine ⟨σ', (MS.ofR o5).trans k1, ?_⟩
      rw [if_pos h4, if_pos h4, b_X5_judge_49, hd]
      simp only [Option.bind_some, Option.toList_some, Option.toList_none, List.cons_append, List.nil_append, List.append_nil]
      rw [b_X5_judge_57 _ _ _ (by omega) (by omega)]
      exact k2
    · rw [if_neg h4, if_neg h4, b_X5_judge_47]
      exact ⟨σ, MS.refl σ, rfl⟩
theorem M_judge (σ : St) (u v : AV) (h : Mok σ) (h0 : 0 ≤ σ 16 0 10) (h1 : σ 16 0 10 ≤ 16) : ∃ σ', MS (up σ 16 0 10 0) σ' ∧ Rx k_X5_judge 0 [.inr (.inl (16, 0)), u, v] [] σ = some (some (.inl (judG (σ 20 0) (σ 16 0 10).toNat 0 (σ 17 0))), σ') := by
  have m1 := h.u16 0 10 0
  have e0 : up σ 16 0 10 0 17 = σ 17 := up_t (by decide)
  have e20 : up σ 16 0 10 0 20 = σ 20 := up_t (by decide)
  have hd := h.2.1
  have hd2 := h.2.2.1
  have cp := m1.cp uns
  obtain ⟨σ', k1, k2⟩ := L_judge (σ 20 0) (σ 16 0 10) h1 (σ 16 0 10).toNat 0 (setR (up σ 16 0 10 0) 1 (σ 17 0)) (by omega) (by rw [setR_tag _ _ _ (by decide), e20]) (by rw [setR_at]; exact h.1) (by rw [setR_at]; omega) (by rw [setR_at]; omega)
  have m2 := m1.cpS
  rw [e0] at cp m2
  refine ⟨σ', m2.trans k1, ?_⟩
  rw [b_X5_judge_0, cp]
  simp only [Option.bind_some, Option.toList_some, Option.toList_none, List.cons_append, List.nil_append, List.append_nil]
  rw [b_X5_judge_21]
  rw [setR_at] at k2
  exact k2
