/-! the reference: row, the best place, the first to fall -/
def rowB (v m : Int) : Int := if wbyF v 99 = 0 then (if m = 16 then -6 else 0) else wbyF v 99
theorem M_row (v : Int) (σ : St) (u : AV) (h : Mok σ) (h0 : 0 ≤ σ 16 0 10) (h1 : σ 16 0 10 ≤ 16) : Rx k_X5_row 0 [.inr (.inl (16, 0)), .inl v, u] [] σ = some (some (.inl (if rowB v (σ 16 0 10) = 0 then σ 16 0 10 + 1 else rowB v (σ 16 0 10))), if rowB v (σ 16 0 10) = 0 then up (up σ 20 0 (σ 16 0 10).toNat v) 16 0 10 (σ 16 0 10 + 1) else noS σ (rowB v (σ 16 0 10))) := by
  have hw := wby_c v 99
  have hn : ∀ c : Int, -6 ≤ c → c ≤ 0 → Rx k_X5_row 27 [.inr (.inl (16, 0)), .inl v, .inl c] [] σ = some (some (.inl c), noS σ c) := by
    intro c a b
    rw [b_X5_row_27, h.no a b]
    simp only [Option.bind_some, Option.toList_some, Option.toList_none, List.cons_append, List.nil_append, List.append_nil]
    rw [b_X5_row_32]
  have e20 : up σ 20 0 (σ 16 0 10).toNat v 16 = σ 16 := up_t (by decide)
  have e10 : ∀ (s : St) (w : Int), up s 16 0 10 w 16 0 10 = w := fun s w => by unfold up; rw [if_pos ⟨rfl, rfl, rfl⟩]
  rw [b_X5_row_0, C_wrongBy]
  simp only [Option.bind_some, Option.toList_some, Option.toList_none, List.cons_append, List.nil_append, List.append_nil]
  rw [b_X5_row_6]
  unfold rowB
  by_cases h2 : wbyF v 99 = 0
  · rw [if_pos h2, if_pos h2, b_X5_row_11]
    by_cases h3 : σ 16 0 10 = 16
    · rw [if_pos h3, if_pos h3, if_neg (by decide), if_neg (by decide), b_X5_row_20, if_neg (by decide), hn (-6) (by decide) (by decide)]
    · rw [if_neg h3, if_neg h3, if_pos rfl, if_pos rfl, b_X5_row_23, if_pos h2, b_X5_row_33 _ _ _ h0 (by omega) (by rw [e20]; omega) (by rw [e20]; omega), e10, e20]
  · rw [if_neg h2, if_neg h2, if_neg h2, if_neg h2, b_X5_row_23, if_neg h2, hn _ (by omega) (by omega)]
/-- the best place -/
def bplN (R : Rw) (t c : Int) : Int := (fellF (wrt R (18 + 4 * t + 1).toNat c) t).2
def bplG (R : Rw) (t : Int) : Nat → Int → Int → Int → Int × Int
  | 0, _, f, x => (f, x)
  | n + 1, c, f, x => if (whoF R c < 0 ∨ whoF R c = t) ∧ bplN R t c < x then bplG R t n (c + 1) c (bplN R t c) else bplG R t n (c + 1) f x
theorem bplG_s (R : Rw) (t : Int) (n : Nat) (c f x : Int) : bplG R t (n + 1) c f x = if (whoF R c < 0 ∨ whoF R c = t) ∧ bplN R t c < x then bplG R t n (c + 1) c (bplN R t c) else bplG R t n (c + 1) f x := rfl
def p2 (w : Int) (z : Int × Int) : Int := if w = 0 then z.1 else z.2
def bplA (R : Rw) (t w : Int) : Int := p2 w (bplG R t 20 0 (-9) 1000000000)
theorem L_bestPlace (σ : St) (h : Mok σ) (t w x3 : Int) (ht : isT (σ 17 0) t) : ∀ (n : Nat) (c f x : Int) (u7 u8 : AV) (σ1 : St), 0 ≤ c → c + n = 20 → MS σ σ1 → ∃ σ', MS σ σ' ∧ Rx k_X5_bestPlace 53 [.inr (.inl (16, 0)), .inl t, .inl w, .inl x3, .inl f, .inl x, .inl c, u7, u8] [] σ1 = some (some (.inl (p2 w (bplG (σ 17 0) t n c f x))), σ') := by
  have hb := h.ct
  intro n
  induction n with
  | zero =>
    intro c f x u7 u8 σ1 h0 h1 hk
    refine ⟨σ1, hk, ?_⟩
    rw [b_X5_bestPlace_53, if_neg (by omega), b_X5_bestPlace_143, show bplG (σ 17 0) t 0 c f x = (f, x) from rfl]
    unfold p2
    by_cases h2 : w = 0
    · rw [if_pos h2, if_pos h2, b_X5_bestPlace_147]
    · rw [if_neg h2, if_neg h2, b_X5_bestPlace_152]
  | succ n ih =>
    intro c f x u7 u8 σ1 h0 h1 hk
    have m1 := h.ms hk
    have e0 : σ1 17 0 = σ 17 0 := hk.row (by decide)
    rw [b_X5_bestPlace_53, if_pos (by omega), b_X5_bestPlace_60, C_whoAt 0 c σ1 (by rw [e0]; omega) (by rw [e0]; omega), e0]
    simp only [Option.bind_some, Option.toList_some, Option.toList_none, List.cons_append, List.nil_append, List.append_nil]
    rw [b_X5_bestPlace_69, bplG_s]
    have go : ∀ x7 : Int, (whoF (σ 17 0) c < 0 ∨ whoF (σ 17 0) c = t) → ∃ σ', MS σ σ' ∧ Rx k_X5_bestPlace 85 [.inr (.inl (16, 0)), .inl t, .inl w, .inl x3, .inl f, .inl x, .inl c, .inl x7, u8] [] σ1 = some (some (.inl (p2 w (if (whoF (σ 17 0) c < 0 ∨ whoF (σ 17 0) c = t) ∧ bplN (σ 17 0) t c < x then bplG (σ 17 0) t n (c + 1) c (bplN (σ 17 0) t c) else bplG (σ 17 0) t n (c + 1) f x))), σ') := by
      intro x7 hf
      have cp := m1.cp uns
      rw [e0] at cp
      have i1 : Iv1 (wrt (σ 17 0) (18 + 4 * t + 1).toNat c) := h.1.to1.plw ht.1 (by omega)
      obtain ⟨w0, w1, w2, w3, w4⟩ := tw (R := σ 17 0) (v := c) 1 ht.1 (by omega)
      have d := fellF_dn i1 ht.1 (by rw [w1]; omega)
      have k3 : MS σ1 (setR σ1 1 (fellF (wrt (σ 17 0) (18 + 4 * t + 1).toNat c) t).1) := MS.set (fun k hk => by rw [d.2.2.2.2.2.2 k hk, w3 k hk (by omega), m1.z k hk, e0])
      have k4 := hk.trans k3
      rw [b_X5_bestPlace_85, cp]
      simp only [Option.bind_some, Option.toList_some, Option.toList_none, List.cons_append, List.nil_append, List.append_nil]
      rw [b_X5_bestPlace_96, C_ofT _ _ (by omega) (by omega)]
      simp only [Option.bind_some, Option.toList_some, Option.toList_none, List.cons_append, List.nil_append, List.append_nil]
      rw [b_X5_bestPlace_104 _ _ _ _ _ _ _ _ _ _ (by omega) (by omega) (by omega) (by omega), up17s, C_fells 1 t _ (by rw [setR_at]; exact i1) ht.1 (by rw [setR_at, w1]; omega), setR_at, setR_set]
      simp only [Option.bind_some, Option.toList_some, Option.toList_none, List.cons_append, List.nil_append, List.append_nil]
      rw [b_X5_bestPlace_117]
      have eg : (fellF (wrt (σ 17 0) (18 + 4 * t + 1).toNat c) t).2 = bplN (σ 17 0) t c := rfl
      rw [eg]
      by_cases h4 : bplN (σ 17 0) t c < x
      · rw [if_pos h4, if_pos ⟨hf, h4⟩, b_X5_bestPlace_129 _ _ _ _ _ _ _ _ _ (by omega) (by omega)]
        exact ih (c + 1) _ _ _ _ _ (by omega) (by omega) k4
      · rw [if_neg h4, if_neg (fun z => h4 z.2), b_X5_bestPlace_126 _ _ _ _ _ _ _ _ _ (by omega) (by omega)]
        exact ih (c + 1) _ _ _ _ _ (by omega) (by omega) k4
    by_cases h2 : whoF (σ 17 0) c < 0
    · rw [if_pos h2]
      exact go _ (Or.inl h2)
    · rw [if_neg h2, b_X5_bestPlace_76]
      by_cases h3 : whoF (σ 17 0) c = t
      · rw [if_pos h3]
        exact go _ (Or.inr h3)
      · rw [if_neg h3, b_X5_bestPlace_82 _ _ _ _ _ _ _ _ _ (by omega) (by omega), if_neg (fun z => by rcases z.1 with z | z; exact h2 z; exact h3 z)]
        exact ih (c + 1) _ _ _ _ _ (by omega) (by omega) hk
def bplB (R : Rw) (t w : Int) : Int := if isT R t then (if 0 ≤ w ∧ w ≤ 1 then wupF R t else -2) else -1
theorem M_bestPlace (t w : Int) (σ : St) (u3 u4 u5 u6 u7 u8 : AV) (h : Mok σ) : Q (fun z => Rx k_X5_bestPlace 0 [.inr (.inl (16, 0)), .inl t, .inl w, u3, u4, u5, u6, u7, u8] [] σ = some z) σ (bplB (σ 17 0) t w) (bplA (σ 17 0) t w) := by
  have hw := wup_c (σ 17 0) t
  unfold bplB
  have hn : ∀ c : Int, -6 ≤ c → c ≤ 0 → Rx k_X5_bestPlace 36 [.inr (.inl (16, 0)), .inl t, .inl w, .inl c, u4, u5, u6, u7, u8] [] σ = some (some (.inl c), noS σ c) := by
    intro c a b
    rw [b_X5_bestPlace_36, h.no a b]
    simp only [Option.bind_some, Option.toList_some, Option.toList_none, List.cons_append, List.nil_append, List.append_nil]
    rw [b_X5_bestPlace_41]
  by_cases h1 : isT (σ 17 0) t
  · have l1 : Rx k_X5_bestPlace 0 [.inr (.inl (16, 0)), .inl t, .inl w, u3, u4, u5, u6, u7, u8] [] σ = if (if 0 ≤ w ∧ w ≤ 1 then (1 : Int) else 0) = 0 then Rx k_X5_bestPlace 21 [.inr (.inl (16, 0)), .inl t, .inl w, u3, u4, u5, u6, u7, u8] [] σ else Rx k_X5_bestPlace 26 [.inr (.inl (16, 0)), .inl t, .inl w, u3, u4, u5, u6, u7, u8] [] σ := by
      rw [b_X5_bestPlace_0, h.thin, if_pos h1]
      simp only [Option.bind_some, Option.toList_some, Option.toList_none, List.cons_append, List.nil_append, List.append_nil]
      rw [b_X5_bestPlace_5, if_neg (by decide), b_X5_bestPlace_12, C_isIn]
      simp only [Option.bind_some, Option.toList_some, Option.toList_none, List.cons_append, List.nil_append, List.append_nil]
      rw [b_X5_bestPlace_18]
    rw [if_pos h1, l1]
    by_cases h2 : 0 ≤ w ∧ w ≤ 1
    · rw [if_pos h2, if_neg (by decide), if_pos h2, b_X5_bestPlace_26, C_wrongUp _ _ h.1.1]
      simp only [Option.bind_some, Option.toList_some, Option.toList_none, List.cons_append, List.nil_append, List.append_nil]
      rw [b_X5_bestPlace_31]
      by_cases h4 : wupF (σ 17 0) t = 0
      · obtain ⟨σ', k1, k2⟩ := L_bestPlace σ h t w 0 h1 20 0 (-9) 1000000000 u7 u8 σ (by decide) (by decide) (MS.refl σ)
        rw [if_pos h4, h4]
        refine Q_ok k1 ?_
        rw [b_X5_bestPlace_42, k2]
        rfl
      · rw [if_neg h4]
        exact Q_no h4 (hn _ (by omega) (by omega))
    · rw [if_neg h2, if_pos rfl, if_neg h2, b_X5_bestPlace_21, if_neg (by decide)]
      exact Q_no (by decide) (hn (-2) (by decide) (by decide))
  · rw [if_neg h1]
    refine Q_no (by decide) ?_
    rw [b_X5_bestPlace_0, h.thin, if_neg h1]
    simp only [Option.bind_some, Option.toList_some, Option.toList_none, List.cons_append, List.nil_append, List.append_nil]
    rw [b_X5_bestPlace_5, if_pos rfl, b_X5_bestPlace_8, if_neg (by decide), hn (-1) (by decide) (by decide)]
