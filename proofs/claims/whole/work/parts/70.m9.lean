/-! the reference's public methods: keys, gaps, judgement -/
theorem C_clear (σ : St) (u : AV) : Rx k_X5_clear 0 [.inr (.inl (16, 0)), u] [] σ = some (some (.inl (σ 16 0 10)), up σ 16 0 10 0) := by rw [b_X5_clear_0]
/-- up on day d with another strength -/
def upwF (R : Rw) (p v d : Int) : Int := (pc10 (upF (daysF d.toNat (wrt R (3 + 3 * p + 2).toNat v))) : Nat)
/-- up on day d -/
def updF (R : Rw) (d : Int) : Int := (pc10 (upF (daysF d.toNat R)) : Nat)
theorem upd_cp (d : Int) (σ : St) (h : Mok σ) (h0 : 0 ≤ d) (h1 : d ≤ 1000) : ∃ σ', MS σ σ' ∧ Rx k_X5_upIn 0 [.inr (.inl (16, 0)), .inl d] [] (setR σ 1 (σ 17 0)) = some (some (.inl (updF (σ 17 0) d)), σ') := by
  have hd := h.2.1
  have hd2 := h.2.2.1
  obtain ⟨g, hg⟩ := C_upIn d (setR σ 1 (σ 17 0)) (by rw [setR_at]; exact h.1) h0 (by rw [setR_at]; exact hd) (by rw [setR_at]; omega)
  obtain ⟨o1, o2, o3, o4, o5⟩ := daysF_ok d.toNat h.1
  rw [setR_at, sR_setR] at hg
  exact ⟨_, MS.ofR (fun k hk => by rw [o5 k hk, h.z k hk]), hg⟩
def keyG (R : Rw) (d : Int) : Nat → Int → Int → Int → Int
  | 0, _, _, f => f
  | n + 1, p, x, f => if upwF R p 0 d < x then keyG R d n (p + 1) (upwF R p 0 d) p else keyG R d n (p + 1) x f
def keyA (R : Rw) (d : Int) : Int := keyG R d (R 0).toNat 0 (updF R d) (-9)
theorem keyG_s (R : Rw) (d : Int) (n : Nat) (p x f : Int) : keyG R d (n + 1) p x f = if upwF R p 0 d < x then keyG R d n (p + 1) (upwF R p 0 d) p else keyG R d n (p + 1) x f := rfl
def menG (R : Rw) (d : Int) : Nat → Int → Int → Int → Int
  | 0, _, _, f => f
  | n + 1, p, x, f => if x < upwF R p 99 d then menG R d n (p + 1) (upwF R p 99 d) p else menG R d n (p + 1) x f
def menA (R : Rw) (d : Int) : Int := menG R d (R 0).toNat 0 (updF R d) (-9)
theorem menG_s (R : Rw) (d : Int) (n : Nat) (p x f : Int) : menG R d (n + 1) p x f = if x < upwF R p 99 d then menG R d n (p + 1) (upwF R p 99 d) p else menG R d n (p + 1) x f := rfl
theorem L_key (σ : St) (h : Mok σ) (d : Int) (h0 : 0 ≤ d) (h1 : d ≤ 99) (x2 : Int) : ∀ (n : Nat) (p x f : Int) (u : AV) (σ1 : St), 0 ≤ p → p + n = σ 17 0 0 → MS σ σ1 → ∃ σ', MS σ σ' ∧ Rx k_X5_key 41 [.inr (.inl (16, 0)), .inl d, .inl x2, .inl x, .inl f, .inl p, u] [] σ1 = some (some (.inl (keyG (σ 17 0) d n p x f)), σ') := by
  have hb := h.ct
  intro n
  induction n with
  | zero =>
    intro p x f u σ1 hp hn hk
    refine ⟨σ1, hk, ?_⟩
    rw [b_X5_key_41, hk.row (by decide), if_neg (by omega), b_X5_key_84]
    rfl
  | succ n ih =>
    intro p x f u σ1 hp hn hk
    have m1 := h.ms hk
    have e0 : σ1 17 0 = σ 17 0 := hk.row (by decide)
    have hd := m1.2.1
    have hd2 := m1.2.2.1
    obtain ⟨σ2, k1, k2⟩ := C_upWith p 0 d σ1 m1.1 m1.z hp (by omega) ⟨by decide, by decide⟩ h0 hd (by omega)
    have k3 := hk.trans k1
    rw [e0] at k2
    rw [b_X5_key_41, e0, if_pos (by omega), b_X5_key_52, k2]
    simp only [Option.bind_some, Option.toList_some, Option.toList_none, List.cons_append, List.nil_append, List.append_nil]
    rw [b_X5_key_60]
    have ew : ((pc10 (upF (daysF d.toNat (wrt (σ 17 0) (3 + 3 * p + 2).toNat 0))) : Nat) : Int) = upwF (σ 17 0) p 0 d := rfl
    rw [ew, keyG_s]
    by_cases h2 : upwF (σ 17 0) p 0 d < x
    · rw [if_pos h2, if_pos h2, b_X5_key_71 _ _ _ _ _ _ _ (by omega) (by omega)]
      exact ih (p + 1) _ _ _ σ2 (by omega) (by omega) k3
    · rw [if_neg h2, if_neg h2, b_X5_key_68 _ _ _ _ _ _ _ (by omega) (by omega)]
      exact ih (p + 1) _ _ _ σ2 (by omega) (by omega) k3
theorem M_key (d : Int) (σ : St) (u3 u4 u5 u6 u7 : AV) (h : Mok σ) : Q (fun z => Rx k_X5_key 0 [.inr (.inl (16, 0)), .inl d, u3, u4, u5, u6, u7] [] σ = some z) σ (wbyF d 99) (keyA (σ 17 0) d) := by
  have hb := h.ct
  have hw := wby_c d 99
  have hl : Rx k_X5_key 0 [.inr (.inl (16, 0)), .inl d, u3, u4, u5, u6, u7] [] σ = if wbyF d 99 = 0 then Rx k_X5_key 17 [.inr (.inl (16, 0)), .inl d, .inl (wbyF d 99), u4, u5, u6, u7] [] σ else Rx k_X5_key 11 [.inr (.inl (16, 0)), .inl d, .inl (wbyF d 99), u4, u5, u6, u7] [] σ := by
    rw [b_X5_key_0, C_wrongBy]
    simp only [Option.bind_some, Option.toList_some, Option.toList_none, List.cons_append, List.nil_append, List.append_nil]
    rw [b_X5_key_6]
  rw [hl]
  by_cases h2 : wbyF d 99 = 0
  · have h3 : 0 ≤ d ∧ d ≤ 99 := by rcases hw with z | z | z; exact z.2; omega; omega
    obtain ⟨σ1, k1, k2⟩ := upd_cp d σ h h3.1 (by omega)
    obtain ⟨σ', k3, k4⟩ := L_key σ h d h3.1 h3.2 0 (σ 17 0 0).toNat 0 (updF (σ 17 0) d) (-9) u7 σ1 (by omega) (by omega) k1
    rw [if_pos h2, h2]
    refine Q_ok k3 ?_
    rw [b_X5_key_17, h.cp]
    simp only [Option.bind_some, Option.toList_some, Option.toList_none, List.cons_append, List.nil_append, List.append_nil]
    rw [b_X5_key_28, k2]
    simp only [Option.bind_some, Option.toList_some, Option.toList_none, List.cons_append, List.nil_append, List.append_nil]
    rw [b_X5_key_33, k4]
    rfl
  · rw [if_neg h2]
    refine Q_no h2 ?_
    rw [b_X5_key_11, h.no (by omega) (by omega)]
    simp only [Option.bind_some, Option.toList_some, Option.toList_none, List.cons_append, List.nil_append, List.append_nil]
    rw [b_X5_key_16]
theorem L_mended (σ : St) (h : Mok σ) (d : Int) (h0 : 0 ≤ d) (h1 : d ≤ 99) (x2 : Int) : ∀ (n : Nat) (p x f : Int) (u : AV) (σ1 : St), 0 ≤ p → p + n = σ 17 0 0 → MS σ σ1 → ∃ σ', MS σ σ' ∧ Rx k_X5_mended 41 [.inr (.inl (16, 0)), .inl d, .inl x2, .inl x, .inl f, .inl p, u] [] σ1 = some (some (.inl (menG (σ 17 0) d n p x f)), σ') := by
  have hb := h.ct
  intro n
  induction n with
  | zero =>
    intro p x f u σ1 hp hn hk
    refine ⟨σ1, hk, ?_⟩
    rw [b_X5_mended_41, hk.row (by decide), if_neg (by omega), b_X5_mended_85]
    rfl
  | succ n ih =>
    intro p x f u σ1 hp hn hk
    have m1 := h.ms hk
    have e0 : σ1 17 0 = σ 17 0 := hk.row (by decide)
    have hd := m1.2.1
    have hd2 := m1.2.2.1
    obtain ⟨σ2, k1, k2⟩ := C_upWith p 99 d σ1 m1.1 m1.z hp (by omega) ⟨by decide, by decide⟩ h0 hd (by omega)
    have k3 := hk.trans k1
    rw [e0] at k2
    rw [b_X5_mended_41, e0, if_pos (by omega), b_X5_mended_52, k2]
    simp only [Option.bind_some, Option.toList_some, Option.toList_none, List.cons_append, List.nil_append, List.append_nil]
    rw [b_X5_mended_61]
    have ew : ((pc10 (upF (daysF d.toNat (wrt (σ 17 0) (3 + 3 * p + 2).toNat 99))) : Nat) : Int) = upwF (σ 17 0) p 99 d := rfl
    rw [ew, menG_s]
    by_cases h2 : x < upwF (σ 17 0) p 99 d
    · rw [if_pos h2, if_pos h2, b_X5_mended_72 _ _ _ _ _ _ _ (by omega) (by omega)]
      exact ih (p + 1) _ _ _ σ2 (by omega) (by omega) k3
    · rw [if_neg h2, if_neg h2, b_X5_mended_69 _ _ _ _ _ _ _ (by omega) (by omega)]
      exact ih (p + 1) _ _ _ σ2 (by omega) (by omega) k3
theorem M_mended (d : Int) (σ : St) (u3 u4 u5 u6 u7 : AV) (h : Mok σ) : Q (fun z => Rx k_X5_mended 0 [.inr (.inl (16, 0)), .inl d, u3, u4, u5, u6, u7] [] σ = some z) σ (wbyF d 99) (menA (σ 17 0) d) := by
  have hb := h.ct
  have hw := wby_c d 99
  have hl : Rx k_X5_mended 0 [.inr (.inl (16, 0)), .inl d, u3, u4, u5, u6, u7] [] σ = if wbyF d 99 = 0 then Rx k_X5_mended 17 [.inr (.inl (16, 0)), .inl d, .inl (wbyF d 99), u4, u5, u6, u7] [] σ else Rx k_X5_mended 11 [.inr (.inl (16, 0)), .inl d, .inl (wbyF d 99), u4, u5, u6, u7] [] σ := by
    rw [b_X5_mended_0, C_wrongBy]
    simp only [Option.bind_some, Option.toList_some, Option.toList_none, List.cons_append, List.nil_append, List.append_nil]
    rw [b_X5_mended_6]
  rw [hl]
  by_cases h2 : wbyF d 99 = 0
  · have h3 : 0 ≤ d ∧ d ≤ 99 := by rcases hw with z | z | z; exact z.2; omega; omega
    obtain ⟨σ1, k1, k2⟩ := upd_cp d σ h h3.1 (by omega)
    obtain ⟨σ', k3, k4⟩ := L_mended σ h d h3.1 h3.2 0 (σ 17 0 0).toNat 0 (updF (σ 17 0) d) (-9) u7 σ1 (by omega) (by omega) k1
    rw [if_pos h2, h2]
    refine Q_ok k3 ?_
    rw [b_X5_mended_17, h.cp]
    simp only [Option.bind_some, Option.toList_some, Option.toList_none, List.cons_append, List.nil_append, List.append_nil]
    rw [b_X5_mended_28, k2]
    simp only [Option.bind_some, Option.toList_some, Option.toList_none, List.cons_append, List.nil_append, List.append_nil]
    rw [b_X5_mended_33, k4]
    rfl
  · rw [if_neg h2]
    refine Q_no h2 ?_
    rw [b_X5_mended_11, h.no (by omega) (by omega)]
    simp only [Option.bind_some, Option.toList_some, Option.toList_none, List.cons_append, List.nil_append, List.append_nil]
    rw [b_X5_mended_16]
/-- robbed -/
def robG : Nat → Rw → Int → Int
  | 0, _, _ => -9
  | n + 1, R, k => if leastF R 0 < 0 then k else robG n (dayF (pushF R 0)) (k + 1)
def robA (R : Rw) : Int := robG 100 R 0
theorem robG_s (n : Nat) (R : Rw) (k : Int) : robG (n + 1) R k = if leastF R 0 < 0 then k else robG n (dayF (pushF R 0)) (k + 1) := rfl
theorem L_robbed : ∀ (n : Nat) (k : Int) (σ : St), 0 ≤ k → k + n = 100 → Iv (σ 17 1) → 0 ≤ σ 17 1 2 → σ 17 1 2 + n ≤ 20000 → ∃ σ', MS σ σ' ∧ Rx k_X5_robbed 13 [.inr (.inl (16, 0)), .inl k] [] σ = some (some (.inl (robG n (σ 17 1) k)), σ') := by
  intro n
  induction n with
  | zero =>
    intro k σ h0 h1 hR h2 h3
    refine ⟨σ, MS.refl σ, ?_⟩
    rw [b_X5_robbed_13, if_pos (by omega), b_X5_robbed_51]
    rfl
  | succ n ih =>
    intro k σ h0 h1 hR h2 h3
    rw [b_X5_robbed_13, if_neg (by omega), b_X5_robbed_19, C_leastToPush 1 0 σ hR]
    simp only [Option.bind_some, Option.toList_some, Option.toList_none, List.cons_append, List.nil_append, List.append_nil]
    rw [b_X5_robbed_27, robG_s]
    by_cases h4 : leastF (σ 17 1) 0 < 0
    · rw [if_pos h4, if_pos h4, b_X5_robbed_30]
      exact ⟨σ, MS.refl σ, rfl⟩
    · have d := pushF_dn hR 0
      have i1 := hR.dn d
      have e2 : pushF (σ 17 1) 0 2 = σ 17 1 2 := d.2.2.1
      obtain ⟨g, hg⟩ := C_day 1 (setR σ 1 (pushF (σ 17 1) 0)) (by rw [setR_at]; exact i1) (by rw [setR_at]; omega) (by rw [setR_at]; omega)
      rw [setR_at, sR_setR] at hg
      obtain ⟨o1, o2, o3, o4, o5⟩ := dayF_ok i1
      obtain ⟨σ', k1, k2⟩ := ih (k + 1) (sR σ 1 (dayF (pushF (σ 17 1) 0)) g) (by omega) (by omega) (by rw [sR_17]; exact o1) (by rw [sR_17]; omega) (by rw [sR_17]; omega)
      rw [sR_17] at k2
      refine ⟨σ', (MS.ofR (fun k hk => by rw [o5 k hk, d.2.2.2.2.2.2 k hk])).trans k1, ?_⟩
      rw [if_neg h4, if_neg h4, b_X5_robbed_32, C_pushesLeast 0 σ hR]
      simp only [Option.bind_some, Option.toList_some, Option.toList_none, List.cons_append, List.nil_append, List.append_nil]
      rw [b_X5_robbed_37, hg]
      simp only [Option.bind_some, Option.toList_some, Option.toList_none, List.cons_append, List.nil_append, List.append_nil]
      rw [b_X5_robbed_45 _ _ (by omega) (by omega), k2]
theorem M_robbed (σ : St) (u : AV) (h : Mok σ) : Q (fun z => Rx k_X5_robbed 0 [.inr (.inl (16, 0)), u] [] σ = some z) σ 0 (robA (σ 17 0)) := by
  have hd := h.2.1
  have hd2 := h.2.2.1
  obtain ⟨σ', k1, k2⟩ := L_robbed 100 0 (setR σ 1 (σ 17 0)) (by decide) (by decide) (by rw [setR_at]; exact h.1) (by rw [setR_at]; omega) (by rw [setR_at]; omega)
  refine Q_ok (h.cpS.trans k1) ?_
  rw [b_X5_robbed_0, h.cp]
  simp only [Option.bind_some, Option.toList_some, Option.toList_none, List.cons_append, List.nil_append, List.append_nil]
  rw [b_X5_robbed_11, k2, setR_at]
  rfl
