/-! the reference's middle methods, on -/
/-- the day a mask of things is down: 0 one of them, else all; -9 -/
def downG (any : Int) (mask : Nat) : Nat → Int → Rw → Int
  | 0, _, _ => -9
  | n + 1, k, R => if (if any = 0 then upF R &&& mask ≠ mask else upF R &&& mask = 0) then k else downG any mask n (k + 1) (dayF R)
def downF (R : Rw) (mask : Nat) (any : Int) : Int := downG any mask 100 0 R
theorem downG_s (any : Int) (mask n : Nat) (k : Int) (R : Rw) : downG any mask (n + 1) k R = if (if any = 0 then upF R &&& mask ≠ mask else upF R &&& mask = 0) then k else downG any mask n (k + 1) (dayF R) := rfl
theorem L_downIn (any : Int) (mask : Nat) (hm : mask < 2147483648) : ∀ (n m : Nat) (σ : St) (u : AV), m + n = 100 → Iv (σ 17 1) → 0 ≤ σ 17 1 2 → σ 17 1 2 + n ≤ 20000 → ∃ σ', MS σ σ' ∧ Rx k_X5_downIn 2 [.inr (.inl (16, 0)), .inl (mask : Int), .inl any, .inl m, u] [] σ = some (some (.inl (downG any mask n m (σ 17 1))), σ') := by
  intro n
  induction n with
  | zero =>
    intro m σ u h1 hR h2 h3
    refine ⟨σ, MS.refl σ, ?_⟩
    rw [b_X5_downIn_2, if_pos (by omega), b_X5_downIn_53]
    rfl
  | succ n ih =>
    intro m σ u h1 hR h2 h3
    have hb := hR.1
    unfold Iv0 at hb
    have hx := upF_lt hb.2.2.2
    have ea : bAnd ((upF (σ 17 1) : Nat) : Int) (mask : Int) = ((upF (σ 17 1) &&& mask : Nat) : Int) := bAnd_nat hx
    have hgo : ¬ (if any = 0 then upF (σ 17 1) &&& mask ≠ mask else upF (σ 17 1) &&& mask = 0) → ∃ σ', MS σ σ' ∧ Rx k_X5_downIn 39 [.inr (.inl (16, 0)), .inl (mask : Int), .inl any, .inl m, .inl ((upF (σ 17 1) &&& mask : Nat) : Int)] [] σ = some (some (.inl (downG any mask (n + 1) m (σ 17 1))), σ') := by
      intro hc
      obtain ⟨g, hd⟩ := C_day 1 σ hR h2 (by omega)
      obtain ⟨o1, o2, o3, o4, o5⟩ := dayF_ok hR
      obtain ⟨σ', k1, k2⟩ := ih (m + 1) (sR σ 1 (dayF (σ 17 1)) g) (.inl ((upF (σ 17 1) &&& mask : Nat) : Int)) (by omega) (by rw [sR_17]; exact o1) (by rw [sR_17, o4]; omega) (by rw [sR_17, o4]; omega)
      refine ⟨σ', (MS.ofR o5).trans k1, ?_⟩
      rw [b_X5_downIn_39, hd]
      simp only [Option.bind_some, Option.toList_some, Option.toList_none, List.cons_append, List.nil_append, List.append_nil]
      rw [b_X5_downIn_47 _ _ _ _ _ (by omega) (by omega), downG_s, if_neg hc]
      rw [sR_17] at k2
      exact k2
    have h0 : Rx k_X5_downIn 2 [.inr (.inl (16, 0)), .inl (mask : Int), .inl any, .inl m, u] [] σ = if any = 0 then Rx k_X5_downIn 31 [.inr (.inl (16, 0)), .inl (mask : Int), .inl any, .inl m, .inl ((upF (σ 17 1) &&& mask : Nat) : Int)] [] σ else Rx k_X5_downIn 23 [.inr (.inl (16, 0)), .inl (mask : Int), .inl any, .inl m, .inl ((upF (σ 17 1) &&& mask : Nat) : Int)] [] σ := by
      rw [b_X5_downIn_2, if_neg (by omega), b_X5_downIn_8, C_upSet _ _ hR.to1]
      simp only [Option.bind_some, Option.toList_some, Option.toList_none, List.cons_append, List.nil_append, List.append_nil]
      rw [b_X5_downIn_15, ea]
    rw [h0]
    by_cases ha : any = 0
    · rw [if_pos ha, b_X5_downIn_31]
      by_cases hc : upF (σ 17 1) &&& mask = mask
      · rw [if_pos (by rw [hc])]
        exact hgo (by rw [if_pos ha]; exact fun z => z hc)
      · rw [if_neg (by omega), b_X5_downIn_37, downG_s, if_pos (by rw [if_pos ha]; exact hc)]
        exact ⟨σ, MS.refl σ, rfl⟩
    · rw [if_neg ha, b_X5_downIn_23]
      by_cases hc : upF (σ 17 1) &&& mask = 0
      · rw [if_pos (by rw [hc]; rfl), b_X5_downIn_28, downG_s, if_pos (by rw [if_neg ha]; exact hc)]
        exact ⟨σ, MS.refl σ, rfl⟩
      · rw [if_neg (by omega)]
        exact hgo (by rw [if_neg ha]; exact hc)
theorem C_downIn (any : Int) (mask : Nat) (hm : mask < 2147483648) (σ : St) (u v : AV) (hR : Iv (σ 17 1)) (h2 : 0 ≤ σ 17 1 2) (h3 : σ 17 1 2 ≤ 10000) : ∃ σ', MS σ σ' ∧ Rx k_X5_downIn 0 [.inr (.inl (16, 0)), .inl (mask : Int), .inl any, u, v] [] σ = some (some (.inl (downF (σ 17 1) mask any)), σ') := by
  rw [b_X5_downIn_0]
  exact L_downIn any mask hm 100 0 σ v rfl hR h2 (by omega)
theorem C_fallsOf (t : Nat) (σ : St) (ht : t < 10) (hR : Iv (σ 17 0)) (hz : ∀ k : Nat, 58 ≤ k → σ 17 1 k = σ 17 0 k) (h2 : 0 ≤ σ 17 0 2) (h3 : σ 17 0 2 ≤ 10000) : ∃ σ', MS σ σ' ∧ Rx k_X5_fallsOf 0 [.inr (.inl (16, 0)), .inl (t : Int)] [] σ = some (some (.inl (downF (σ 17 0) (2 ^ t) 1)), σ') := by
  have hp : 2 ^ t < 2147483648 := Nat.lt_of_lt_of_le (Nat.pow_lt_pow_right (by decide) ht) (by decide)
  obtain ⟨σ', k1, k2⟩ := C_downIn 1 (2 ^ t) hp (setR σ 1 (σ 17 0)) uns uns (by rw [setR_at]; exact hR) (by rw [setR_at]; exact h2) (by rw [setR_at]; exact h3)
  refine ⟨σ', (MS.set (fun k hk => (hz k hk).symm)).trans k1, ?_⟩
  rw [b_X5_fallsOf_0, C_copies _ _ _ (by decide) hz]
  simp only [Option.bind_some, Option.toList_some, Option.toList_none, List.cons_append, List.nil_append, List.append_nil]
  rw [b_X5_fallsOf_11, shl1 (by omega), k2]
  simp only [Option.bind_some, Option.toList_some, Option.toList_none, List.cons_append, List.nil_append, List.append_nil]
  rw [b_X5_fallsOf_19, setR_at]
/-- the thing of the least place from c on that is up, and, with the flag 0, whose purpose has no spare; -9 -/
def leastG (R : Rw) (flag : Int) : Nat → Int → Int
  | 0, _ => -9
  | n + 1, c => if 0 ≤ whoF R c ∧ uq R (whoF R c) = 1 ∧ (flag = 0 → spareF R (on R (whoF R c)) ≤ 0) then whoF R c else leastG R flag n (c + 1)
def leastF (R : Rw) (flag : Int) : Int := leastG R flag 20 0
theorem leastG_s (R : Rw) (flag : Int) (n : Nat) (c : Int) : leastG R flag (n + 1) c = if 0 ≤ whoF R c ∧ uq R (whoF R c) = 1 ∧ (flag = 0 → spareF R (on R (whoF R c)) ≤ 0) then whoF R c else leastG R flag n (c + 1) := rfl
theorem L_leastToPush (q : Nat) (flag : Int) (σ : St) (hR : Iv (σ 17 q)) : ∀ (n : Nat) (c : Int) (u : AV), 0 ≤ c → c + n = 20 → Rx k_X5_leastToPush 2 [.inr (.inl (17, q)), .inl flag, .inl c, u] [] σ = some (some (.inl (leastG (σ 17 q) flag n c)), σ) := by
  have hb := hR.1
  unfold Iv0 at hb
  intro n
  induction n with
  | zero =>
    intro c u h0 h1
    rw [b_X5_leastToPush_2, if_neg (by omega), b_X5_leastToPush_53]
    rfl
  | succ n ih =>
    intro c u h0 h1
    have hn : ∀ v : Int, Rx k_X5_leastToPush 47 [.inr (.inl (17, q)), .inl flag, .inl c, .inl v] [] σ = some (some (.inl (leastG (σ 17 q) flag n (c + 1))), σ) := by
      intro v
      rw [b_X5_leastToPush_47 _ _ _ _ _ (by omega) (by omega)]
      exact ih (c + 1) _ (by omega) (by omega)
    rw [b_X5_leastToPush_2, if_pos (by omega), b_X5_leastToPush_8, C_whoAt _ _ _ hb.2.2.1 hb.2.2.2]
    simp only [Option.bind_some, Option.toList_some, Option.toList_none, List.cons_append, List.nil_append, List.append_nil]
    rw [b_X5_leastToPush_13]
    have hw := who_spec (R := σ 17 q) hb.2.2.1 c
    by_cases h2 : whoF (σ 17 q) c < 0
    · rw [if_pos h2, hn, leastG_s, if_neg (fun z => by omega)]
    · have h3 : 0 ≤ whoF (σ 17 q) c ∧ whoF (σ 17 q) c < σ 17 q 1 := by omega
      obtain ⟨t1, t2, t3, t4, t5, t6, t7⟩ := hR.2.2.1 _ h3.1 h3.2
      rw [if_neg h2, b_X5_leastToPush_18, C_isUp _ _ _ h3.1 (by omega)]
      simp only [Option.bind_some, Option.toList_some, Option.toList_none, List.cons_append, List.nil_append, List.append_nil]
      rw [b_X5_leastToPush_23]
      by_cases h4 : uq (σ 17 q) (whoF (σ 17 q) c) = 1
      · rw [if_pos h4, if_neg (by decide), b_X5_leastToPush_26]
        by_cases h5 : flag = 0
        · obtain ⟨p1, p2, p3, p4, p5, p6⟩ := hR.2.1 _ t5 t6
          have ho : (σ 17 q (18 + 4 * whoF (σ 17 q) c + 2).toNat) = on (σ 17 q) (whoF (σ 17 q) c) := rfl
          rw [if_pos h5, b_X5_leastToPush_30, C_ofT _ _ (by omega) (by omega)]
          simp only [Option.bind_some, Option.toList_some, Option.toList_none, List.cons_append, List.nil_append, List.append_nil]
          rw [b_X5_leastToPush_36 _ _ _ _ _ _ _ _ (by omega) (by omega) (by omega) (by omega), ho, C_spareOf _ _ _ hR.to1 t5 (by omega) p5 p6]
          simp only [Option.bind_some, Option.toList_some, Option.toList_none, List.cons_append, List.nil_append, List.append_nil]
          rw [b_X5_leastToPush_42]
          by_cases h6 : 0 < spareF (σ 17 q) (on (σ 17 q) (whoF (σ 17 q) c))
          · rw [if_pos h6, hn, leastG_s, if_neg (fun z => by have := z.2.2 h5; omega)]
          · rw [if_neg h6, b_X5_leastToPush_45, leastG_s, if_pos ⟨h3.1, h4, fun _ => by omega⟩]
        · rw [if_neg h5, b_X5_leastToPush_45, leastG_s, if_pos ⟨h3.1, h4, fun z => absurd z h5⟩]
      · rw [if_neg h4, if_pos rfl, hn, leastG_s, if_neg (fun z => h4 z.2.1)]
theorem C_leastToPush (q : Nat) (flag : Int) (σ : St) (hR : Iv (σ 17 q)) (u v : AV) : Rx k_X5_leastToPush 0 [.inr (.inl (17, q)), .inl flag, u, v] [] σ = some (some (.inl (leastF (σ 17 q) flag)), σ) := by
  rw [b_X5_leastToPush_0]
  exact L_leastToPush q flag σ hR 20 0 v (by omega) (by omega)
theorem leastG_bd {R : Rw} (h : 0 ≤ R 1) (flag : Int) : ∀ (n : Nat) (c : Int), leastG R flag n c = -9 ∨ (0 ≤ leastG R flag n c ∧ leastG R flag n c < R 1) := by
  intro n
  induction n with
  | zero => intro c; exact Or.inl rfl
  | succ n ih =>
    intro c
    rw [leastG_s]
    have hw := who_spec h c
    split
    · rename_i z
      omega
    · exact ih _
theorem leastF_bd {R : Rw} (h : 0 ≤ R 1) (flag : Int) : leastF R flag = -9 ∨ (0 ≤ leastF R flag ∧ leastF R flag < R 1) := leastG_bd h flag 20 0
/-- the row when the least is pushed -/
def pushF (R : Rw) (flag : Int) : Rw := if leastF R flag < 0 then R else (fellF R (leastF R flag)).1
theorem pushF_dn {R : Rw} (h : Iv R) (flag : Int) : Dn R (pushF R flag) := by
  have hb := h.1
  unfold Iv0 at hb
  have k := leastF_bd (R := R) hb.2.2.1 flag
  unfold pushF
  split
  · exact Dn.rf R
  · exact fellF_dn h.to1 (by omega) (by omega)
theorem C_pushesLeast (flag : Int) (σ : St) (hR : Iv (σ 17 1)) (u v : AV) : Rx k_X5_pushesLeast 0 [.inr (.inl (16, 0)), .inl flag, u, v] [] σ = some (none, setR σ 1 (pushF (σ 17 1) flag)) := by
  have hb := hR.1
  unfold Iv0 at hb
  have k := leastF_bd (R := σ 17 1) hb.2.2.1 flag
  rw [b_X5_pushesLeast_0, C_leastToPush 1 flag σ hR]
  simp only [Option.bind_some, Option.toList_some, Option.toList_none, List.cons_append, List.nil_append, List.append_nil]
  rw [b_X5_pushesLeast_8]
  unfold pushF
  by_cases h1 : leastF (σ 17 1) flag < 0
  · rw [if_pos h1, if_pos h1, b_X5_pushesLeast_13, setR_self]
  · rw [if_neg h1, if_neg h1, b_X5_pushesLeast_17, C_fells 1 _ σ hR.to1 (by omega) (by omega)]
    simp only [Option.bind_some, Option.toList_some, Option.toList_none, List.cons_append, List.nil_append, List.append_nil]
    rw [b_X5_pushesLeast_25]
