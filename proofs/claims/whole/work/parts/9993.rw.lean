/-! the grammar of a text -/
def kbF (x : Int) : Int := if x = 104 then 1 else if x = 108 then 5 else if x = 111 then 3 else if x = 112 then 0 else if x = 118 then 2 else if x = 119 then 4 else -9
def fmI (x : Int) : Nat := if x = 100 then 5 else if x = 108 then 2 else if x = 112 then 0 else if x = 115 then 4 else if x = 116 then 1 else if x = 117 then 3 else 6
/-- does a letter fit a sign -/
def ftB (s x : Int) : Bool := if s = 57 then decide (48 ≤ x ∧ x ≤ 57) else if s = 75 then decide (kbF x ≠ -9) else decide (x = s)
/-- as far as the letters from i on fit a form from its sign s on: where, and whether all of it -/
def smG (W : Nat → Int) (M q : Nat) : Nat → Nat → Nat → Nat × Bool
  | 0, _, i => (i, true)
  | n + 1, s, i => if i < M ∧ ftB (sbyt q s) (W i) = true then smG W M q n (s + 1) (i + 1) else (i, false)
theorem smG_s (W : Nat → Int) (M q n s i : Nat) : smG W M q (n + 1) s i = if i < M ∧ ftB (sbyt q s) (W i) = true then smG W M q n (s + 1) (i + 1) else (i, false) := rfl
/-- a statement from i on -/
def stm (W : Nat → Int) (M i : Nat) : Nat × Bool := if i < M ∧ fmI (W i) ≠ 6 then smG W M (fmI (W i)) (slen (fmI (W i))) 0 i else (i, false)
/-- the place of the first letter that does not fit; -9 -/
def pgF (W : Nat → Int) (M : Nat) : Nat → Nat → Int
  | 0, _ => -9
  | n + 1, j => if M ≤ j then -9 else if (stm W M j).2 = true then pgF W M n (stm W M j).1 else ((stm W M j).1 : Int)
theorem pgF_s (W : Nat → Int) (M n j : Nat) : pgF W M (n + 1) j = if M ≤ j then -9 else if (stm W M j).2 = true then pgF W M n (stm W M j).1 else ((stm W M j).1 : Int) := rfl
theorem fmI_le (x : Int) : fmI x ≤ 6 := by
  unfold fmI
  repeat' split
  all_goals omega
theorem slen_fm : ∀ q : Nat, q < 6 → 3 ≤ slen q ∧ slen q ≤ 6 := by decide +kernel
theorem smG_ok {W : Nat → Int} {M q : Nat} : ∀ (n s i : Nat), i ≤ M → (smG W M q n s i).1 ≤ M ∧ i ≤ (smG W M q n s i).1 ∧ ((smG W M q n s i).2 = true → (smG W M q n s i).1 = i + n) := by
  intro n
  induction n with
  | zero => intro s i h; exact ⟨h, Nat.le_refl i, fun _ => rfl⟩
  | succ n ih =>
    intro s i h
    rw [smG_s]
    by_cases e : i < M ∧ ftB (sbyt q s) (W i) = true
    · rw [if_pos e]
      obtain ⟨a, b, c⟩ := ih (s + 1) (i + 1) e.1
      exact ⟨a, by omega, fun z => by rw [c z]; omega⟩
    · rw [if_neg e]
      exact ⟨h, Nat.le_refl i, fun z => by cases z⟩
theorem stm_ok {W : Nat → Int} {M i : Nat} (h : i ≤ M) : (stm W M i).1 ≤ M ∧ i ≤ (stm W M i).1 ∧ ((stm W M i).2 = true → i < M ∧ fmI (W i) < 6 ∧ (stm W M i).1 = i + slen (fmI (W i)) ∧ i < (stm W M i).1) := by
  unfold stm
  by_cases e : i < M ∧ fmI (W i) ≠ 6
  · have k := fmI_le (W i)
    have l := slen_fm (fmI (W i)) (by omega)
    rw [if_pos e]
    obtain ⟨a, b, c⟩ := smG_ok (W := W) (M := M) (q := fmI (W i)) (slen (fmI (W i))) 0 i h
    exact ⟨a, b, fun z => ⟨e.1, by omega, c z, by rw [c z]; omega⟩⟩
  · rw [if_neg e]
    exact ⟨h, Nat.le_refl i, fun z => by cases z⟩
/-! the class reads -/
theorem K_len (q : Nat) (hq : q < 8) (σ : St) : Rx k_J0_length_8abf5 0 [.inr (.inl (30, q))] [] σ = some (some (.inl (slen q : Int)), σ) := by
  have e : ∀ r : Nat, r < 8 → bShr (slen r : Int) 0 = (slen r : Int) := by decide +kernel
  rw [b_J0_length_8abf5_0, b_J0_coder_7d493_0, if_neg (by decide), b_J0_coder_7d493_6]
  simp only [Option.bind_some, Option.toList_some, Option.toList_none, List.cons_append, List.nil_append, List.append_nil]
  rw [b_J0_length_8abf5_9, e q hq]
theorem K_latin (q : Nat) (σ : St) : Rx k_J0_isLatin1_aae02 0 [.inr (.inl (30, q))] [] σ = some (some (.inl 1), σ) := by
  rw [b_J0_isLatin1_aae02_0, if_neg (by decide), b_J0_isLatin1_aae02_6, if_pos rfl, b_J0_isLatin1_aae02_13]
theorem K_charAt (q s : Nat) (hq : q < 8) (hs : s < slen q) (σ : St) : Rx k_J0_charAt_5068e 0 [.inr (.inl (30, q)), .inl (s : Int)] [] σ = some (some (.inl (sbyt q s)), σ) := by
  have e : ∀ r : Nat, r < 8 → ∀ k : Nat, k < slen r → bI2c (bAnd (sbyt r k) 255) = sbyt r k ∧ rkOK 3 (bI2c (bAnd (sbyt r k) 255)) = true := by decide +kernel
  obtain ⟨e1, e2⟩ := e q hq s hs
  rw [b_J0_charAt_5068e_0, K_latin]
  simp only [Option.bind_some, Option.toList_some, Option.toList_none, List.cons_append, List.nil_append, List.append_nil]
  rw [b_J0_charAt_5068e_4, if_neg (by decide), b_J0_charAt_5068e_7, b_J1_charAt_3b067_0, b_J0_checkIndex_df160_0, b_J3_checkIndex_8e157_0, if_neg (by omega), b_J3_checkIndex_8e157_4, if_pos (by omega), b_J3_checkIndex_8e157_16]
  simp only [Option.bind_some, Option.toList_some, Option.toList_none, List.cons_append, List.nil_append, List.append_nil]
  rw [b_J0_checkIndex_df160_8]
  simp only [Option.bind_some, Option.toList_some, Option.toList_none, List.cons_append, List.nil_append, List.append_nil]
  rw [b_J1_charAt_3b067_6 (h0 := by omega) (h1 := by omega) (h2 := by rw [Int.toNat_natCast]; exact e2), Int.toNat_natCast, e1]
  simp only [Option.bind_some, Option.toList_some, Option.toList_none, List.cons_append, List.nil_append, List.append_nil]
  rw [b_J0_charAt_5068e_15 (h0 := by rw [← e1]; exact e2)]
theorem K_formOf (x : Int) (σ : St) : Rx k_X0_formOf 0 [.inl x] [] σ = some (some (.inr (.inl (30, fmI x))), σ) := by
  unfold fmI
  rw [b_X0_formOf_0]
  by_cases e1 : x = 100
  · rw [if_pos e1, if_pos e1, b_X0_formOf_103]
  rw [if_neg e1, if_neg e1]
  by_cases e2 : x = 108
  · rw [if_pos e2, if_pos e2, b_X0_formOf_94]
  rw [if_neg e2, if_neg e2]
  by_cases e3 : x = 112
  · rw [if_pos e3, if_pos e3, b_X0_formOf_88]
  rw [if_neg e3, if_neg e3]
  by_cases e4 : x = 115
  · rw [if_pos e4, if_pos e4, b_X0_formOf_100]
  rw [if_neg e4, if_neg e4]
  by_cases e5 : x = 116
  · rw [if_pos e5, if_pos e5, b_X0_formOf_91]
  rw [if_neg e5, if_neg e5]
  by_cases e6 : x = 117
  · rw [if_pos e6, if_pos e6, b_X0_formOf_97]
  rw [if_neg e6, if_neg e6, b_X0_formOf_106]
theorem ch_all : ∀ n : Nat, n < 256 → bI2c (n : Int) = n ∧ (∀ k : Nat, k < 6 → (sbyt 7 k = bI2b (n : Int) ↔ sbyt 7 k = n)) := by decide +kernel
theorem K_kindOf (x : Int) (h0 : 0 ≤ x) (h1 : x ≤ 255) (σ : St) : Rx k_X0_kindOf 0 [.inl x] [] σ = some (some (.inl (if kbF x = -9 then -1 else kbF x)), σ) := by
  obtain ⟨n, rfl⟩ := Int.eq_ofNat_of_zero_le h0
  obtain ⟨c1, c2⟩ := ch_all n (by omega)
  have ec : Rx k_J1_canEncode_9a6ad 0 [.inl (n : Int)] [] σ = some (some (.inl 1), σ) := by
    rw [b_J1_canEncode_9a6ad_0, if_neg (by omega), b_J1_canEncode_9a6ad_4, if_neg (by omega), b_J1_canEncode_9a6ad_11]
  have s7 : slen 7 = 6 := rfl
  have l7 : (if (slen 7 : Int) < (slen 7 : Int) then (slen 7 : Int) else (slen 7 : Int)) = 6 := rfl
  have al : ∀ m : Nat, m < 256 → (∀ j : Nat, j < 6 → sbyt 7 j ≠ m) → kbF (m : Int) = -9 := by decide +kernel
  have fin : ∀ k : Nat, k < 6 → (if kbF (sbyt 7 k) = -9 then -1 else kbF (sbyt 7 k)) = (k : Int) := by decide +kernel
  have loop : ∀ (m : Nat) (k : Nat), k + m = 6 → (∀ j : Nat, j < k → sbyt 7 j ≠ n) → Rx k_J1_indexOfChar_4cfef 7 [.inr (.inl (31, 7)), .inl (n : Int), .inl 0, .inl 6, .inl (bI2b (n : Int)), .inl (k : Int)] [] σ = some (some (.inl (if kbF n = -9 then -1 else kbF n)), σ) := by
    intro m
    induction m with
    | zero =>
      intro k hk hj
      rw [b_J1_indexOfChar_4cfef_7, if_neg (by omega), b_J1_indexOfChar_4cfef_31, if_pos (al n (by omega) (fun j a => hj j (by omega)))]
    | succ m ih =>
      intro k hk hj
      rw [b_J1_indexOfChar_4cfef_7, if_pos (by omega), b_J1_indexOfChar_4cfef_13 (h0 := by omega) (h1 := by rw [s7]; omega), Int.toNat_natCast]
      by_cases e : sbyt 7 k = n
      · have f := fin k (by omega)
        rw [e] at f
        rw [if_pos ((c2 k (by omega)).2 e), b_J1_indexOfChar_4cfef_22, f]
      · rw [if_neg (fun z => e ((c2 k (by omega)).1 z)), (b_J1_indexOfChar_4cfef_25 (g0a := by omega) (g0b := by omega))]
        have := ih (k + 1) (by omega) (fun j a => by
          by_cases y : j = k
          · rw [y]; exact e
          · exact hj j (by omega))
        rw [Int.natCast_add] at this
        exact this
  have top := loop 6 0 rfl (fun j a => absurd a (Nat.not_lt_zero j))
  rw [show ((0 : Nat) : Int) = 0 from rfl] at top
  rw [b_X0_kindOf_0, c1, b_J0_indexOf_0f7a4_0, b_J0_indexOf_7cf53_0, K_latin]
  simp only [Option.bind_some, Option.toList_some, Option.toList_none, List.cons_append, List.nil_append, List.append_nil]
  rw [b_J0_indexOf_7cf53_4, if_neg (by decide), b_J0_indexOf_7cf53_7, K_len 7 (by decide)]
  simp only [Option.bind_some, Option.toList_some, Option.toList_none, List.cons_append, List.nil_append, List.append_nil]
  rw [b_J0_indexOf_7cf53_17, b_J1_indexOf_4cfef_0, ec]
  simp only [Option.bind_some, Option.toList_some, Option.toList_none, List.cons_append, List.nil_append, List.append_nil]
  rw [b_J1_indexOf_4cfef_4, if_neg (by decide), b_J1_indexOf_4cfef_9, if_neg (show ¬ (0 : Int) < 0 by decide), l7, if_pos (by decide), b_J1_indexOf_4cfef_29, b_J1_indexOfChar_4cfef_0, top]
  simp only [Option.bind_some, Option.toList_some, Option.toList_none, List.cons_append, List.nil_append, List.append_nil]
  rw [b_J1_indexOf_4cfef_36]
  simp only [Option.bind_some, Option.toList_some, Option.toList_none, List.cons_append, List.nil_append, List.append_nil]
  rw [b_J0_indexOf_7cf53_20]
  simp only [Option.bind_some, Option.toList_some, Option.toList_none, List.cons_append, List.nil_append, List.append_nil]
  rw [b_J0_indexOf_0f7a4_6]
  simp only [Option.bind_some, Option.toList_some, Option.toList_none, List.cons_append, List.nil_append, List.append_nil]
  rw [b_X0_kindOf_7]
theorem K_fits (s x : Int) (h0 : 0 ≤ x) (h1 : x ≤ 255) (σ : St) : Rx k_X0_fits 0 [.inl s, .inl x] [] σ = some (some (.inl (if ftB s x = true then 1 else 0)), σ) := by
  unfold ftB
  rw [b_X0_fits_0]
  by_cases e1 : s = 57
  · rw [if_pos e1, if_pos e1, b_X0_fits_41]
    by_cases a : x < 48
    · rw [if_pos a, b_X0_fits_57, if_neg (by rw [decide_eq_true_eq]; omega)]
    · rw [if_neg a, b_X0_fits_47]
      by_cases b : 57 < x
      · rw [if_pos b, b_X0_fits_57, if_neg (by rw [decide_eq_true_eq]; omega)]
      · rw [if_neg b, b_X0_fits_53, if_pos (by rw [decide_eq_true_eq]; omega)]
  rw [if_neg e1, if_neg e1]
  by_cases e2 : s = 75
  · have hk : kbF x = -9 ∨ 0 ≤ kbF x := by
      unfold kbF
      repeat' split
      all_goals omega
    rw [if_pos e2, if_pos e2, b_X0_fits_28, K_kindOf x h0 h1]
    simp only [Option.bind_some, Option.toList_some, Option.toList_none, List.cons_append, List.nil_append, List.append_nil]
    rw [b_X0_fits_32]
    by_cases a : kbF x = -9
    · rw [if_pos a, if_pos (by decide), b_X0_fits_39, if_neg (by rw [decide_eq_true_eq]; exact fun z => z a)]
    · rw [if_neg a, if_neg (by omega), b_X0_fits_35, if_pos (by rw [decide_eq_true_eq]; exact a)]
  rw [if_neg e2, if_neg e2, b_X0_fits_59]
  by_cases a : x = s
  · rw [if_pos a, b_X0_fits_64, if_pos (by rw [decide_eq_true_eq]; exact a)]
  · rw [if_neg a, b_X0_fits_68, if_neg (by rw [decide_eq_true_eq]; exact a)]
/-- the letters told, as the class holds them -/
def Tld (σ : St) (W : Nat → Int) (M : Nat) : Prop := M ≤ 96 ∧ σ 3 0 1 = M ∧ ∀ i : Nat, i < M → σ 4 0 i = W i ∧ 0 ≤ W i ∧ W i ≤ 255
theorem L_fwIn {σ : St} {W : Nat → Int} {M : Nat} (h : Tld σ W M) (q : Nat) (hq : q < 6) : ∀ (n s i : Nat), s + n = slen q → i ≤ M → Rx k_X0_firstWrong 7 [.inr (.inl (3, 0)), .inr (.inl (30, q)), .inl (s : Int), .inl (i : Int)] [] σ = if (smG W M q n s i).2 = true then Rx k_X0_firstWrong 7 [.inr (.inl (3, 0)), .inr (.inl (30, q)), .inl (slen q : Int), .inl ((smG W M q n s i).1 : Int)] [] σ else some (some (.inl ((smG W M q n s i).1 : Int)), σ) := by
  obtain ⟨h1, h2, h3⟩ := h
  have l6 := slen_fm q hq
  intro n
  induction n with
  | zero =>
    intro s i hs hi
    have e : s = slen q := by omega
    rw [e, show smG W M q 0 (slen q) i = (i, true) from rfl, if_pos rfl]
  | succ n ih =>
    intro s i hs hi
    by_cases hM : i < M
    · obtain ⟨w1, w2, w3⟩ := h3 i hM
      have start : Rx k_X0_firstWrong 7 [.inr (.inl (3, 0)), .inr (.inl (30, q)), .inl (s : Int), .inl (i : Int)] [] σ = if (if ftB (sbyt q s) (W i) = true then (1 : Int) else 0) = 0 then Rx k_X0_firstWrong 66 [.inr (.inl (3, 0)), .inr (.inl (30, q)), .inl (s : Int), .inl (i : Int)] [] σ else Rx k_X0_firstWrong 68 [.inr (.inl (3, 0)), .inr (.inl (30, q)), .inl (s : Int), .inl (i : Int)] [] σ := by
        rw [b_X0_firstWrong_7, h2, if_pos (by omega), b_X0_firstWrong_15, if_pos (by omega), b_X0_firstWrong_21, K_len q (by omega)]
        simp only [Option.bind_some, Option.toList_some, Option.toList_none, List.cons_append, List.nil_append, List.append_nil]
        rw [b_X0_firstWrong_26, if_pos (by omega), b_X0_firstWrong_41, K_len q (by omega)]
        simp only [Option.bind_some, Option.toList_some, Option.toList_none, List.cons_append, List.nil_append, List.append_nil]
        rw [b_X0_firstWrong_46, if_pos (by omega), b_X0_firstWrong_49, K_charAt q s (by omega) (by omega)]
        simp only [Option.bind_some, Option.toList_some, Option.toList_none, List.cons_append, List.nil_append, List.append_nil]
        rw [(b_X0_firstWrong_54 (h0 := by omega) (h1 := by omega)), Int.toNat_natCast, w1, K_fits _ _ w2 w3]
        simp only [Option.bind_some, Option.toList_some, Option.toList_none, List.cons_append, List.nil_append, List.append_nil]
        rw [b_X0_firstWrong_63]
      rw [start]
      by_cases e : ftB (sbyt q s) (W i) = true
      · have es : smG W M q (n + 1) s i = smG W M q n (s + 1) (i + 1) := by rw [smG_s, if_pos ⟨hM, e⟩]
        rw [if_pos e, if_neg (show ¬ (1 : Int) = 0 by decide), (b_X0_firstWrong_68 (g0a := by omega) (g0b := by omega) (g1a := by omega) (g1b := by omega)), es]
        exact ih (s + 1) (i + 1) (by omega) (by omega)
      · have es : smG W M q (n + 1) s i = (i, false) := by rw [smG_s, if_neg (fun z => e z.2)]
        rw [if_neg e, if_pos (show (0 : Int) = 0 from rfl), b_X0_firstWrong_66, es, if_neg (show ¬ (false = true) by decide)]
    · have e : i = M := by omega
      have es : smG W M q (n + 1) s i = (i, false) := by rw [smG_s, if_neg (fun z => hM z.1)]
      have e92 : Rx k_X0_firstWrong 92 [.inr (.inl (3, 0)), .inr (.inl (30, q)), .inl (s : Int), .inl (i : Int)] [] σ = some (some (.inl (i : Int)), σ) := by
        rw [b_X0_firstWrong_92, h2, e]
      have e84 : Rx k_X0_firstWrong 84 [.inr (.inl (3, 0)), .inr (.inl (30, q)), .inl (s : Int), .inl (i : Int)] [] σ = some (some (.inl (i : Int)), σ) := by
        rw [b_X0_firstWrong_84, K_len q (by omega)]
        simp only [Option.bind_some, Option.toList_some, Option.toList_none, List.cons_append, List.nil_append, List.append_nil]
        rw [b_X0_firstWrong_89, if_pos (by omega), e92]
      rw [es, if_neg (show ¬ (false = true) by decide), b_X0_firstWrong_7, h2, if_neg (by omega), b_X0_firstWrong_77, h2, e92, e84]
      split <;> rfl
theorem L_fw {σ : St} {W : Nat → Int} {M : Nat} (h : Tld σ W M) (hM : 0 < M) : ∀ (n q j : Nat), q ≤ 6 → j ≤ M → M < n + j → Rx k_X0_firstWrong 7 [.inr (.inl (3, 0)), .inr (.inl (30, q)), .inl (slen q : Int), .inl (j : Int)] [] σ = some (some (.inl (pgF W M n j)), σ) := by
  obtain ⟨h1, h2, h3⟩ := h
  intro n
  induction n with
  | zero => intro q j _ a b; omega
  | succ n ih =>
    intro q j hq hj hn
    rw [pgF_s]
    by_cases e : M ≤ j
    · rw [if_pos e, b_X0_firstWrong_7, h2, if_neg (by omega), b_X0_firstWrong_77, h2, if_neg (by omega), b_X0_firstWrong_84, K_len q (by omega)]
      simp only [Option.bind_some, Option.toList_some, Option.toList_none, List.cons_append, List.nil_append, List.append_nil]
      rw [b_X0_firstWrong_89, if_neg (by omega), b_X0_firstWrong_99]
    · obtain ⟨w1, w2, w3⟩ := h3 j (by omega)
      have k := fmI_le (W j)
      have s46 : Rx k_X0_firstWrong 7 [.inr (.inl (3, 0)), .inr (.inl (30, q)), .inl (slen q : Int), .inl (j : Int)] [] σ = Rx k_X0_firstWrong 46 [.inr (.inl (3, 0)), .inr (.inl (30, fmI (W j))), .inl 0, .inl (j : Int)] [.inl (slen (fmI (W j)) : Int), .inl 0] σ := by
        rw [b_X0_firstWrong_7, h2, if_pos (by omega), b_X0_firstWrong_15, if_pos (by omega), b_X0_firstWrong_21, K_len q (by omega)]
        simp only [Option.bind_some, Option.toList_some, Option.toList_none, List.cons_append, List.nil_append, List.append_nil]
        rw [b_X0_firstWrong_26, if_neg (by omega), (b_X0_firstWrong_29 (h0 := by omega) (h1 := by omega)), Int.toNat_natCast, w1, K_formOf]
        simp only [Option.bind_some, Option.toList_some, Option.toList_none, List.cons_append, List.nil_append, List.append_nil]
        rw [b_X0_firstWrong_38, K_len _ (by omega)]
        simp only [Option.bind_some, Option.toList_some, Option.toList_none, List.cons_append, List.nil_append, List.append_nil]
      rw [if_neg e]
      by_cases z : fmI (W j) = 6
      · have es : stm W M j = (j, false) := by unfold stm; rw [if_neg (fun y => y.2 z)]
        rw [es, if_neg (show ¬ (false = true) by decide), s46, z, b_X0_firstWrong_46, if_neg (by decide), b_X0_firstWrong_66]
      · have es : stm W M j = smG W M (fmI (W j)) (slen (fmI (W j))) 0 j := by unfold stm; rw [if_pos ⟨by omega, z⟩]
        have l := slen_fm (fmI (W j)) (by omega)
        have s7 : Rx k_X0_firstWrong 7 [.inr (.inl (3, 0)), .inr (.inl (30, fmI (W j))), .inl ((0 : Nat) : Int), .inl (j : Int)] [] σ = Rx k_X0_firstWrong 46 [.inr (.inl (3, 0)), .inr (.inl (30, fmI (W j))), .inl 0, .inl (j : Int)] [.inl (slen (fmI (W j)) : Int), .inl 0] σ := by
          rw [show ((0 : Nat) : Int) = 0 from rfl, b_X0_firstWrong_7, h2, if_pos (by omega), b_X0_firstWrong_15, if_pos (by omega), b_X0_firstWrong_21, K_len _ (by omega)]
          simp only [Option.bind_some, Option.toList_some, Option.toList_none, List.cons_append, List.nil_append, List.append_nil]
          rw [b_X0_firstWrong_26, if_pos (by omega), b_X0_firstWrong_41, K_len _ (by omega)]
          simp only [Option.bind_some, Option.toList_some, Option.toList_none, List.cons_append, List.nil_append, List.append_nil]
        rw [s46, ← s7, L_fwIn ⟨h1, h2, h3⟩ (fmI (W j)) (by omega) (slen (fmI (W j))) 0 j (Nat.zero_add _) hj, ← es]
        obtain ⟨o1, o2, o3⟩ := stm_ok (W := W) hj
        by_cases y : (stm W M j).2 = true
        · rw [if_pos y, if_pos y]
          exact ih (fmI (W j)) (stm W M j).1 k o1 (by have := (o3 y).2.2.2; omega)
        · rw [if_neg y, if_neg y]
theorem K_firstWrong {σ : St} {W : Nat → Int} {M : Nat} (h : Tld σ W M) (u1 u2 u3 : AV) : Rx k_X0_firstWrong 0 [.inr (.inl (3, 0)), u1, u2, u3] [] σ = some (some (.inl (if M = 0 then 0 else pgF W M (M + 1) 0)), σ) := by
  rw [b_X0_firstWrong_0]
  by_cases e : M = 0
  · obtain ⟨h1, h2, h3⟩ := h
    rw [if_pos e, b_X0_firstWrong_7, h2, if_neg (by omega), b_X0_firstWrong_77, h2, if_pos (by omega), b_X0_firstWrong_92, h2, e]
    rfl
  · rw [if_neg e]
    exact L_fw h (by omega) (M + 1) 6 0 (by decide) (Nat.zero_le M) (by omega)
