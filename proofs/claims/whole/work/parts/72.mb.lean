/-! the reference's questions of later days -/
theorem up_t {σ : St} {t r k s : Nat} {v : Int} (h : s ≠ t) : up σ t r k v s = σ s := by
  funext r' k'
  unfold up
  rw [if_neg (fun z => h z.1)]
theorem Mok.u16 {σ : St} (h : Mok σ) (r k : Nat) (v : Int) : Mok (up σ 16 r k v) := by
  have e1 : up σ 16 r k v 17 = σ 17 := up_t (by decide)
  have e2 : up σ 16 r k v 21 = σ 21 := up_t (by decide)
  unfold Mok
  rw [e1, e2]
  exact h
theorem M_allThen (d : Int) (σ : St) (u : AV) (h : Mok σ) : Q (fun z => Rx k_X5_allThen 0 [.inr (.inl (16, 0)), .inl d, u] [] σ = some z) σ (wbyF d 99) (updF (σ 17 0) d) := by
  have hw := wby_c d 99
  have hl : Rx k_X5_allThen 0 [.inr (.inl (16, 0)), .inl d, u] [] σ = if wbyF d 99 = 0 then Rx k_X5_allThen 17 [.inr (.inl (16, 0)), .inl d, .inl (wbyF d 99)] [] σ else Rx k_X5_allThen 11 [.inr (.inl (16, 0)), .inl d, .inl (wbyF d 99)] [] σ := by
    rw [b_X5_allThen_0, C_wrongBy]
    simp only [Option.bind_some, Option.toList_some, Option.toList_none, List.cons_append, List.nil_append, List.append_nil]
    rw [b_X5_allThen_6]
  rw [hl]
  by_cases h2 : wbyF d 99 = 0
  · have h3 : 0 ≤ d ∧ d ≤ 99 := by rcases hw with z | z | z; exact z.2; omega; omega
    obtain ⟨σ1, k1, k2⟩ := upd_cp d σ h h3.1 (by omega)
    rw [if_pos h2, h2]
    refine Q_ok k1 ?_
    rw [b_X5_allThen_17, h.cp]
    simp only [Option.bind_some, Option.toList_some, Option.toList_none, List.cons_append, List.nil_append, List.append_nil]
    rw [b_X5_allThen_28, k2]
    simp only [Option.bind_some, Option.toList_some, Option.toList_none, List.cons_append, List.nil_append, List.append_nil]
    rw [b_X5_allThen_33]
  · rw [if_neg h2]
    refine Q_no h2 ?_
    rw [b_X5_allThen_11, h.no (by omega) (by omega)]
    simp only [Option.bind_some, Option.toList_some, Option.toList_none, List.cons_append, List.nil_append, List.append_nil]
    rw [b_X5_allThen_16]
theorem Mok.tk {σ : St} (h : Mok σ) {d : Int} (h0 : 0 ≤ d) (h1 : d ≤ 99) : ∃ σ', MS σ σ' ∧ σ' 17 1 = daysF d.toNat (σ 17 0) ∧ Iv (σ' 17 1) ∧ σ' 17 1 0 = σ 17 0 0 ∧ σ' 17 1 1 = σ 17 0 1 ∧ Rx k_X5_takesOn 0 [.inr (.inl (16, 0)), .inl d] [] σ = some (none, σ') := by
  have hd := h.2.1
  have hd2 := h.2.2.1
  obtain ⟨g, hg⟩ := C_takesOn d σ h.1 h.z h0 hd (by omega)
  obtain ⟨o1, o2, o3, o4, o5⟩ := daysF_ok d.toNat h.1
  refine ⟨_, MS.ofR (fun k hk => by rw [o5 k hk, h.z k hk]), sR_17 _ _ _ _, ?_, ?_, ?_, hg⟩
  · rw [sR_17]; exact o1
  · rw [sR_17]; exact o2
  · rw [sR_17]; exact o3
def utB (R : Rw) (t d : Int) : Int := if isT R t then wbyF d 99 else -1
theorem M_upThen (t d : Int) (σ : St) (u : AV) (h : Mok σ) : Q (fun z => Rx k_X5_upThen 0 [.inr (.inl (16, 0)), .inl t, .inl d, u] [] σ = some z) σ (utB (σ 17 0) t d) (uq (daysF d.toNat (σ 17 0)) t) := by
  have hb := h.ct
  unfold utB
  by_cases h1 : isT (σ 17 0) t
  · rw [if_pos h1]
    have hw := wby_c d 99
    have hl : Rx k_X5_upThen 0 [.inr (.inl (16, 0)), .inl t, .inl d, u] [] σ = if wbyF d 99 = 0 then Rx k_X5_upThen 29 [.inr (.inl (16, 0)), .inl t, .inl d, .inl (wbyF d 99)] [] σ else Rx k_X5_upThen 23 [.inr (.inl (16, 0)), .inl t, .inl d, .inl (wbyF d 99)] [] σ := by
      rw [b_X5_upThen_0, h.thin, if_pos h1]
      simp only [Option.bind_some, Option.toList_some, Option.toList_none, List.cons_append, List.nil_append, List.append_nil]
      rw [b_X5_upThen_5, if_neg (by decide), b_X5_upThen_8, C_wrongBy]
      simp only [Option.bind_some, Option.toList_some, Option.toList_none, List.cons_append, List.nil_append, List.append_nil]
      rw [b_X5_upThen_14]
    rw [hl]
    by_cases h2 : wbyF d 99 = 0
    · have h3 : 0 ≤ d ∧ d ≤ 99 := by rcases hw with z | z | z; exact z.2; omega; omega
      obtain ⟨σ', k1, k2, k3, k4, k5, k6⟩ := h.tk h3.1 h3.2
      rw [if_pos h2, h2, ← k2]
      refine Q_ok k1 ?_
      rw [b_X5_upThen_29, k6]
      simp only [Option.bind_some, Option.toList_some, Option.toList_none, List.cons_append, List.nil_append, List.append_nil]
      rw [b_X5_upThen_34, C_ofT _ _ (by omega) (by omega)]
      simp only [Option.bind_some, Option.toList_some, Option.toList_none, List.cons_append, List.nil_append, List.append_nil]
      rw [b_X5_upThen_42 _ _ _ _ _ (by omega) (by omega) (by omega) (by omega)]
      rfl
    · rw [if_neg h2]
      refine Q_no h2 ?_
      rw [b_X5_upThen_23, h.no (by omega) (by omega)]
      simp only [Option.bind_some, Option.toList_some, Option.toList_none, List.cons_append, List.nil_append, List.append_nil]
      rw [b_X5_upThen_28]
  · rw [if_neg h1]
    refine Q_no (by decide) ?_
    rw [b_X5_upThen_0, h.thin, if_neg h1]
    simp only [Option.bind_some, Option.toList_some, Option.toList_none, List.cons_append, List.nil_append, List.append_nil]
    rw [b_X5_upThen_5, if_pos rfl, b_X5_upThen_17, if_neg (by decide), b_X5_upThen_23, h.no (by decide) (by decide)]
    simp only [Option.bind_some, Option.toList_some, Option.toList_none, List.cons_append, List.nil_append, List.append_nil]
    rw [b_X5_upThen_28]
def ptB (R : Rw) (p d w : Int) : Int := if isP R p then (if wbyF d 99 = 0 then (if 0 ≤ w ∧ w ≤ 1 then 0 else -2) else wbyF d 99) else -1
def ptA (R : Rw) (p d w : Int) : Int := if w = 0 then sg (daysF d.toNat R) p else loadF (daysF d.toNat R) p
theorem M_purposeThen (p d w : Int) (σ : St) (u : AV) (h : Mok σ) : Q (fun z => Rx k_X5_purposeThen 0 [.inr (.inl (16, 0)), .inl p, .inl d, .inl w, u] [] σ = some z) σ (ptB (σ 17 0) p d w) (ptA (σ 17 0) p d w) := by
  have hb := h.ct
  unfold ptB
  have hn : ∀ c : Int, -6 ≤ c → c ≤ 0 → Rx k_X5_purposeThen 43 [.inr (.inl (16, 0)), .inl p, .inl d, .inl w, .inl c] [] σ = some (some (.inl c), noS σ c) := by
    intro c a b
    rw [b_X5_purposeThen_43, h.no a b]
    simp only [Option.bind_some, Option.toList_some, Option.toList_none, List.cons_append, List.nil_append, List.append_nil]
    rw [b_X5_purposeThen_49]
  by_cases h1 : isP (σ 17 0) p
  · rw [if_pos h1]
    have hw := wby_c d 99
    have hl : Rx k_X5_purposeThen 0 [.inr (.inl (16, 0)), .inl p, .inl d, .inl w, u] [] σ = if wbyF d 99 = 0 then Rx k_X5_purposeThen 25 [.inr (.inl (16, 0)), .inl p, .inl d, .inl w, .inl (wbyF d 99)] [] σ else Rx k_X5_purposeThen 38 [.inr (.inl (16, 0)), .inl p, .inl d, .inl w, .inl (wbyF d 99)] [] σ := by
      rw [b_X5_purposeThen_0, h.purp, if_pos h1]
      simp only [Option.bind_some, Option.toList_some, Option.toList_none, List.cons_append, List.nil_append, List.append_nil]
      rw [b_X5_purposeThen_5, if_neg (by decide), b_X5_purposeThen_8, C_wrongBy]
      simp only [Option.bind_some, Option.toList_some, Option.toList_none, List.cons_append, List.nil_append, List.append_nil]
      rw [b_X5_purposeThen_14]
    rw [hl]
    by_cases h2 : wbyF d 99 = 0
    · have h3 : 0 ≤ d ∧ d ≤ 99 := by rcases hw with z | z | z; exact z.2; omega; omega
      rw [if_pos h2, if_pos h2, h2, b_X5_purposeThen_25, C_isIn]
      simp only [Option.bind_some, Option.toList_some, Option.toList_none, List.cons_append, List.nil_append, List.append_nil]
      rw [b_X5_purposeThen_31]
      by_cases h4 : 0 ≤ w ∧ w ≤ 1
      · obtain ⟨σ', k1, k2, k3, k4, k5, k6⟩ := h.tk h3.1 h3.2
        rw [if_pos h4, if_neg (by decide), if_pos h4, b_X5_purposeThen_38, if_pos rfl]
        refine Q_ok k1 ?_
        rw [b_X5_purposeThen_50, k6]
        simp only [Option.bind_some, Option.toList_some, Option.toList_none, List.cons_append, List.nil_append, List.append_nil]
        rw [b_X5_purposeThen_55]
        unfold ptA
        rw [← k2]
        by_cases h5 : w = 0
        · rw [if_pos h5, if_pos h5, b_X5_purposeThen_59, C_ofP _ _ (by omega) (by omega)]
          simp only [Option.bind_some, Option.toList_some, Option.toList_none, List.cons_append, List.nil_append, List.append_nil]
          rw [b_X5_purposeThen_67 _ _ _ _ _ _ (by omega) (by omega) (by omega) (by omega)]
          rfl
        · rw [if_neg h5, if_neg h5, b_X5_purposeThen_73, C_loadOf _ _ _ k3.to1]
          simp only [Option.bind_some, Option.toList_some, Option.toList_none, List.cons_append, List.nil_append, List.append_nil]
          rw [b_X5_purposeThen_81]
      · rw [if_neg h4, if_pos rfl, if_neg h4, b_X5_purposeThen_34, if_neg (by decide)]
        exact Q_no (by decide) (hn (-2) (by decide) (by decide))
    · rw [if_neg h2, if_neg h2, b_X5_purposeThen_38, if_neg h2]
      exact Q_no h2 (hn _ (by omega) (by omega))
  · rw [if_neg h1]
    refine Q_no (by decide) ?_
    rw [b_X5_purposeThen_0, h.purp, if_neg h1]
    simp only [Option.bind_some, Option.toList_some, Option.toList_none, List.cons_append, List.nil_append, List.append_nil]
    rw [b_X5_purposeThen_5, if_pos rfl, b_X5_purposeThen_17, if_neg (by decide), b_X5_purposeThen_38, if_neg (by decide), hn (-1) (by decide) (by decide)]
/-- a day on which the least without spare is pushed -/
def stF (R : Rw) (flag : Int) : Rw := dayF (pushF R flag)
theorem stF_ok {R : Rw} (h : Iv R) (flag : Int) : Iv (stF R flag) ∧ stF R flag 0 = R 0 ∧ stF R flag 1 = R 1 ∧ stF R flag 2 = R 2 + 1 ∧ (∀ k : Nat, 58 ≤ k → stF R flag k = R k) := by
  have d := pushF_dn h flag
  obtain ⟨o1, o2, o3, o4, o5⟩ := dayF_ok (h.dn d)
  exact ⟨o1, o2.trans d.1, o3.trans d.2.1, by unfold stF; rw [o4, d.2.2.1], fun k hk => (o5 k hk).trans (d.2.2.2.2.2.2 k hk)⟩
theorem C_st (flag : Int) (σ : St) (hR : Iv (σ 17 1)) (h2 : 0 ≤ σ 17 1 2) (h3 : σ 17 1 2 ≤ 50000) : ∃ g, Rx k_X5_day 0 [.inr (.inl (16, 0)), .inr (.inl (17, 1)), uns, uns, uns] [] (setR σ 1 (pushF (σ 17 1) flag)) = some (none, sR σ 1 (stF (σ 17 1) flag) g) := by
  have d := pushF_dn hR flag
  have e2 : pushF (σ 17 1) flag 2 = σ 17 1 2 := d.2.2.1
  obtain ⟨g, hg⟩ := C_day 1 (setR σ 1 (pushF (σ 17 1) flag)) (by rw [setR_at]; exact hR.dn d) (by rw [setR_at]; omega) (by rw [setR_at]; omega)
  rw [setR_at, sR_setR] at hg
  exact ⟨g, hg⟩
def thiF : Nat → Rw → Rw
  | 0, R => R
  | n + 1, R => thiF n (stF R 0)
theorem thiF_s (n : Nat) (R : Rw) : thiF (n + 1) R = thiF n (stF R 0) := rfl
theorem L_thief (N x2 : Int) (hN : N ≤ 1000) : ∀ (n : Nat) (k : Int) (σ : St), 0 ≤ k → k + n = N → Iv (σ 17 1) → 0 ≤ σ 17 1 2 → σ 17 1 2 + n ≤ 20000 → ∃ σ', MS σ σ' ∧ Rx k_X5_thief 30 [.inr (.inl (16, 0)), .inl N, .inl x2, .inl k] [] σ = some (some (.inl (pc10 (upF (thiF n (σ 17 1))) : Nat)), σ') := by
  intro n
  induction n with
  | zero =>
    intro k σ h0 h1 hR h2 h3
    have hb := hR.1
    unfold Iv0 at hb
    refine ⟨σ, MS.refl σ, ?_⟩
    rw [b_X5_thief_30, if_neg (by omega), b_X5_thief_54, C_upSet _ _ hR.to1]
    simp only [Option.bind_some, Option.toList_some, Option.toList_none, List.cons_append, List.nil_append, List.append_nil]
    rw [b_X5_thief_61, C_bits _ (upF_lt hb.2.2.2)]
    simp only [Option.bind_some, Option.toList_some, Option.toList_none, List.cons_append, List.nil_append, List.append_nil]
    rw [b_X5_thief_64]
    rfl
  | succ n ih =>
    intro k σ h0 h1 hR h2 h3
    obtain ⟨g, hg⟩ := C_st 0 σ hR h2 (by omega)
    obtain ⟨o1, o2, o3, o4, o5⟩ := stF_ok hR 0
    obtain ⟨σ', k1, k2⟩ := ih (k + 1) (sR σ 1 (stF (σ 17 1) 0) g) (by omega) (by omega) (by rw [sR_17]; exact o1) (by rw [sR_17]; omega) (by rw [sR_17]; omega)
    rw [sR_17] at k2
    refine ⟨σ', (MS.ofR o5).trans k1, ?_⟩
    rw [b_X5_thief_30, if_pos (by omega), b_X5_thief_35, C_pushesLeast 0 σ hR]
    simp only [Option.bind_some, Option.toList_some, Option.toList_none, List.cons_append, List.nil_append, List.append_nil]
    rw [b_X5_thief_40, hg]
    simp only [Option.bind_some, Option.toList_some, Option.toList_none, List.cons_append, List.nil_append, List.append_nil]
    rw [b_X5_thief_48 _ _ _ _ (by omega) (by omega), k2]
    rfl
def thiA (R : Rw) (d : Int) : Int := (pc10 (upF (thiF d.toNat R)) : Nat)
theorem M_thief (d : Int) (σ : St) (u w : AV) (h : Mok σ) : Q (fun z => Rx k_X5_thief 0 [.inr (.inl (16, 0)), .inl d, u, w] [] σ = some z) σ (wbyF d 99) (thiA (σ 17 0) d) := by
  have hw := wby_c d 99
  have hd := h.2.1
  have hd2 := h.2.2.1
  have hl : Rx k_X5_thief 0 [.inr (.inl (16, 0)), .inl d, u, w] [] σ = if wbyF d 99 = 0 then Rx k_X5_thief 17 [.inr (.inl (16, 0)), .inl d, .inl (wbyF d 99), w] [] σ else Rx k_X5_thief 11 [.inr (.inl (16, 0)), .inl d, .inl (wbyF d 99), w] [] σ := by
    rw [b_X5_thief_0, C_wrongBy]
    simp only [Option.bind_some, Option.toList_some, Option.toList_none, List.cons_append, List.nil_append, List.append_nil]
    rw [b_X5_thief_6]
  rw [hl]
  by_cases h2 : wbyF d 99 = 0
  · have h3 : 0 ≤ d ∧ d ≤ 99 := by rcases hw with z | z | z; exact z.2; omega; omega
    obtain ⟨σ', k1, k2⟩ := L_thief d 0 (by omega) d.toNat 0 (setR σ 1 (σ 17 0)) (by decide) (by omega) (by rw [setR_at]; exact h.1) (by rw [setR_at]; omega) (by rw [setR_at]; omega)
    rw [if_pos h2, h2]
    refine Q_ok (h.cpS.trans k1) ?_
    rw [b_X5_thief_17, h.cp]
    simp only [Option.bind_some, Option.toList_some, Option.toList_none, List.cons_append, List.nil_append, List.append_nil]
    rw [b_X5_thief_28, k2, setR_at]
    rfl
  · rw [if_neg h2]
    refine Q_no h2 ?_
    rw [b_X5_thief_11, h.no (by omega) (by omega)]
    simp only [Option.bind_some, Option.toList_some, Option.toList_none, List.cons_append, List.nil_append, List.append_nil]
    rw [b_X5_thief_16]
