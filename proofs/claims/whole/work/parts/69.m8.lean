/-! the reference's public methods, on -/
theorem Mok.ms {σ σ' : St} (h : Mok σ) (k : MS σ σ') : Mok σ' := by
  have e0 : σ' 17 0 = σ 17 0 := k.row (by decide)
  have e1 : σ' 21 = σ 21 := k.tag (by decide) (by decide) (by decide)
  refine ⟨by rw [e0]; exact h.1, by rw [e0]; exact h.2.1, by rw [e0]; exact h.2.2.1, ?_, by rw [e1]; exact h.2.2.2.2⟩
  intro r j hr hj
  by_cases hr1 : r = 1
  · rw [hr1, k.out hj]; exact h.2.2.2.1 1 j (by decide) hj
  · rw [k.row hr1]; exact h.2.2.2.1 r j hr hj
theorem wup_c (R : Rw) (t : Int) : (wupF R t = 0 ∧ isT R t ∧ uq R t = 1) ∨ wupF R t = -3 ∨ wupF R t = -1 := by
  unfold wupF
  split
  · rename_i h
    split
    · rename_i h2; exact Or.inl ⟨rfl, h, h2⟩
    · exact Or.inr (Or.inl rfl)
  · exact Or.inr (Or.inr rfl)
theorem wby_c (v b : Int) : (wbyF v b = 0 ∧ 0 ≤ v ∧ v ≤ b) ∨ wbyF v b = -4 ∨ wbyF v b = -6 := by
  unfold wbyF
  split
  · exact Or.inr (Or.inl rfl)
  · split
    · exact Or.inr (Or.inr rfl)
    · exact Or.inl ⟨rfl, by omega, by omega⟩
theorem M_pushes (t : Int) (σ : St) (u : AV) (h : Mok σ) : Rx k_X5_pushes 0 [.inr (.inl (16, 0)), .inl t, u] [] σ = some (some (.inl (if wupF (σ 17 0) t = 0 then (fellF (σ 17 0) t).2 else wupF (σ 17 0) t)), if wupF (σ 17 0) t = 0 then setR σ 0 (fellF (σ 17 0) t).1 else noS σ (wupF (σ 17 0) t)) := by
  have hw := wup_c (σ 17 0) t
  rw [b_X5_pushes_0, C_wrongUp _ _ h.1.1]
  simp only [Option.bind_some, Option.toList_some, Option.toList_none, List.cons_append, List.nil_append, List.append_nil]
  rw [b_X5_pushes_5]
  by_cases h1 : wupF (σ 17 0) t = 0
  · have h2 : isT (σ 17 0) t ∧ uq (σ 17 0) t = 1 := by rcases hw with z | z | z; exact z.2; omega; omega
    rw [if_pos h1, if_pos h1, if_pos h1, b_X5_pushes_18, C_fells 0 _ σ h.1.to1 h2.1.1 (by omega)]
    simp only [Option.bind_some, Option.toList_some, Option.toList_none, List.cons_append, List.nil_append, List.append_nil]
    rw [b_X5_pushes_26]
  · rw [if_neg h1, if_neg h1, if_neg h1, b_X5_pushes_10, h.no (by omega) (by omega)]
    simp only [Option.bind_some, Option.toList_some, Option.toList_none, List.cons_append, List.nil_append, List.append_nil]
    rw [b_X5_pushes_15]
def pudA (R : Rw) (t : Int) : Int := ((upF R ^^^ (upF R &&& upF (fellF R t).1) : Nat) : Int)
theorem M_pushed (t : Int) (σ : St) (u : AV) (h : Mok σ) : Q (fun z => Rx k_X5_pushed 0 [.inr (.inl (16, 0)), .inl t, u] [] σ = some z) σ (wupF (σ 17 0) t) (pudA (σ 17 0) t) := by
  have hw := wup_c (σ 17 0) t
  have hl : Rx k_X5_pushed 0 [.inr (.inl (16, 0)), .inl t, u] [] σ = if wupF (σ 17 0) t = 0 then Rx k_X5_pushed 16 [.inr (.inl (16, 0)), .inl t, .inl (wupF (σ 17 0) t)] [] σ else Rx k_X5_pushed 10 [.inr (.inl (16, 0)), .inl t, .inl (wupF (σ 17 0) t)] [] σ := by
    rw [b_X5_pushed_0, C_wrongUp _ _ h.1.1]
    simp only [Option.bind_some, Option.toList_some, Option.toList_none, List.cons_append, List.nil_append, List.append_nil]
    rw [b_X5_pushed_5]
  by_cases h1 : wupF (σ 17 0) t = 0
  · have h2 : isT (σ 17 0) t ∧ uq (σ 17 0) t = 1 := by rcases hw with z | z | z; exact z.2; omega; omega
    have d := fellF_dn h.1.to1 h2.1.1 (by omega)
    rw [if_pos h1] at hl
    rw [hl, h1]
    refine Q_ok (σ' := setR σ 1 (fellF (σ 17 0) t).1) (MS.set (fun k hk => by rw [d.2.2.2.2.2.2 k hk, h.z k hk])) ?_
    rw [b_X5_pushed_16, h.cp]
    simp only [Option.bind_some, Option.toList_some, Option.toList_none, List.cons_append, List.nil_append, List.append_nil]
    rw [b_X5_pushed_27, C_pushedBy t _ _ (by rw [setR_at]; exact h.1.to1) (by rw [setR_in _ _ _ (by decide)]; exact h.1.to1) h2.1.1 (by rw [setR_at]; omega)]
    simp only [Option.bind_some, Option.toList_some, Option.toList_none, List.cons_append, List.nil_append, List.append_nil]
    rw [b_X5_pushed_32, setR_at, setR_set, setR_in _ _ _ (by decide)]
    rfl
  · rw [if_neg h1] at hl
    rw [hl]
    refine Q_no h1 ?_
    rw [b_X5_pushed_10, h.no (by omega) (by omega)]
    simp only [Option.bind_some, Option.toList_some, Option.toList_none, List.cons_append, List.nil_append, List.append_nil]
    rw [b_X5_pushed_15]
theorem M_setsUp (t : Int) (σ : St) (u : AV) (h : Mok σ) : Rx k_X5_setsUp 0 [.inr (.inl (16, 0)), .inl t, u] [] σ = some (some (.inl (if isT (σ 17 0) t then 1 - uq (σ 17 0) t else -1)), if isT (σ 17 0) t then setR σ 0 (wrt (σ 17 0) (18 + 4 * t + 3).toNat 1) else noS σ (-1)) := by
  have hb := h.ct
  rw [b_X5_setsUp_0, h.thin]
  simp only [Option.bind_some, Option.toList_some, Option.toList_none, List.cons_append, List.nil_append, List.append_nil]
  rw [b_X5_setsUp_5]
  by_cases h1 : isT (σ 17 0) t
  · have hu := (h.1.2.2.1 t h1.1 (by omega)).2.2.2.2.2.2
    unfold uq at hu
    rw [if_pos h1, if_pos h1, if_pos h1, if_neg (by decide), b_X5_setsUp_14, C_ofT _ _ (by omega) (by omega)]
    simp only [Option.bind_some, Option.toList_some, Option.toList_none, List.cons_append, List.nil_append, List.append_nil]
    rw [b_X5_setsUp_22 _ _ _ _ (by omega) (by omega) (by omega) (by omega), C_ofT _ _ (by omega) (by omega)]
    simp only [Option.bind_some, Option.toList_some, Option.toList_none, List.cons_append, List.nil_append, List.append_nil]
    rw [b_X5_setsUp_34 _ _ _ _ (by omega) (by omega) (by omega) (by omega) (by omega) (by omega), up17]
    rfl
  · rw [if_neg h1, if_neg h1, if_neg h1, if_pos rfl, b_X5_setsUp_8, h.no (by decide) (by decide)]
    simp only [Option.bind_some, Option.toList_some, Option.toList_none, List.cons_append, List.nil_append, List.append_nil]
    rw [b_X5_setsUp_13]
theorem M_image (σ : St) (h : Mok σ) : Rx k_X5_image 0 [.inr (.inl (16, 0))] [] σ = some (some (.inl (σ 17 0 2)), up (setR σ 2 (σ 17 0)) 16 0 5 1) := by
  rw [b_X5_image_0, C_copies 0 2 σ (by decide) (fun k hk => by rw [h.2.2.2.1 2 k (by decide) hk, h.2.2.2.1 0 k (by decide) hk])]
  simp only [Option.bind_some, Option.toList_some, Option.toList_none, List.cons_append, List.nil_append, List.append_nil]
  rw [b_X5_image_11]
  rfl
theorem M_on (σ : St) (h : Mok σ) : Rx k_X5_on 0 [.inr (.inl (16, 0))] [] σ = some (some (.inl (if σ 16 0 5 = 0 then -3 else σ 17 2 2)), if σ 16 0 5 = 0 then noS σ (-3) else setR σ 0 (σ 17 2)) := by
  rw [b_X5_on_0]
  by_cases h1 : σ 16 0 5 = 0
  · rw [if_pos h1, if_pos h1, if_pos h1, b_X5_on_7, h.no (by decide) (by decide)]
    simp only [Option.bind_some, Option.toList_some, Option.toList_none, List.cons_append, List.nil_append, List.append_nil]
    rw [b_X5_on_13]
  · rw [if_neg h1, if_neg h1, if_neg h1, b_X5_on_14, C_copies 2 0 σ (by decide) (fun k hk => by rw [h.2.2.2.1 2 k (by decide) hk, h.2.2.2.1 0 k (by decide) hk])]
    simp only [Option.bind_some, Option.toList_some, Option.toList_none, List.cons_append, List.nil_append, List.append_nil]
    rw [b_X5_on_25, setR_at]
def takB (R : Rw) (p v : Int) : Int := if isP R p then wbyF v 99 else -1
def takA (R : Rw) (p v : Int) : Int := if spareF (daysF v.toNat R) p < 0 then -9 else if 9 < spareF (daysF v.toNat R) p then 9 else spareF (daysF v.toNat R) p
theorem M_takes (p v : Int) (σ : St) (u w : AV) (h : Mok σ) : Q (fun z => Rx k_X5_takes 0 [.inr (.inl (16, 0)), .inl p, .inl v, u, w] [] σ = some z) σ (takB (σ 17 0) p v) (takA (σ 17 0) p v) := by
  have hb := h.ct
  unfold takB
  by_cases h1 : isP (σ 17 0) p
  · rw [if_pos h1]
    have hw := wby_c v 99
    have hl : Rx k_X5_takes 0 [.inr (.inl (16, 0)), .inl p, .inl v, u, w] [] σ = if wbyF v 99 = 0 then Rx k_X5_takes 29 [.inr (.inl (16, 0)), .inl p, .inl v, .inl (wbyF v 99), w] [] σ else Rx k_X5_takes 23 [.inr (.inl (16, 0)), .inl p, .inl v, .inl (wbyF v 99), w] [] σ := by
      rw [b_X5_takes_0, h.purp, if_pos h1]
      simp only [Option.bind_some, Option.toList_some, Option.toList_none, List.cons_append, List.nil_append, List.append_nil]
      rw [b_X5_takes_5, if_neg (by decide), b_X5_takes_8, C_wrongBy]
      simp only [Option.bind_some, Option.toList_some, Option.toList_none, List.cons_append, List.nil_append, List.append_nil]
      rw [b_X5_takes_14]
    rw [hl]
    by_cases h2 : wbyF v 99 = 0
    · have h3 : 0 ≤ v ∧ v ≤ 99 := by rcases hw with z | z | z; exact z.2; omega; omega
      have hd := h.2.1
      have hd2 := h.2.2.1
      obtain ⟨g, hg⟩ := C_takesOn v σ h.1 h.z h3.1 hd (by omega)
      obtain ⟨o1, o2, o3, o4, o5⟩ := daysF_ok v.toNat h.1
      obtain ⟨p1, p2, p3, p4, p5, p6⟩ := o1.2.1 p h1.1 (by omega)
      rw [if_pos h2, h2]
      refine Q_ok (MS.ofR (fun k hk => by rw [o5 k hk, h.z k hk])) (σ' := sR σ 1 (daysF v.toNat (σ 17 0)) g) ?_
      rw [b_X5_takes_29, hg]
      simp only [Option.bind_some, Option.toList_some, Option.toList_none, List.cons_append, List.nil_append, List.append_nil]
      rw [b_X5_takes_34, C_spareOf 1 p _ (by rw [sR_17]; exact o1.to1) h1.1 (by omega) (by rw [sR_17]; exact p5) (by rw [sR_17]; exact p6), sR_17]
      simp only [Option.bind_some, Option.toList_some, Option.toList_none, List.cons_append, List.nil_append, List.append_nil]
      rw [b_X5_takes_42]
      unfold takA
      by_cases h4 : spareF (daysF v.toNat (σ 17 0)) p < 0
      · rw [if_pos h4, if_pos h4, b_X5_takes_49]
      · rw [if_neg h4, if_neg h4, b_X5_takes_54]
        by_cases h5 : 9 < spareF (daysF v.toNat (σ 17 0)) p
        · rw [if_pos h5, if_pos h5, b_X5_takes_61]
        · rw [if_neg h5, if_neg h5, b_X5_takes_66]
    · rw [if_neg h2]
      refine Q_no h2 ?_
      rw [b_X5_takes_23, h.no (by omega) (by omega)]
      simp only [Option.bind_some, Option.toList_some, Option.toList_none, List.cons_append, List.nil_append, List.append_nil]
      rw [b_X5_takes_28]
  · rw [if_neg h1]
    refine Q_no (by decide) ?_
    rw [b_X5_takes_0, h.purp, if_neg h1]
    simp only [Option.bind_some, Option.toList_some, Option.toList_none, List.cons_append, List.nil_append, List.append_nil]
    rw [b_X5_takes_5, if_pos rfl, b_X5_takes_17, if_neg (by decide), b_X5_takes_23, h.no (by decide) (by decide)]
    simp only [Option.bind_some, Option.toList_some, Option.toList_none, List.cons_append, List.nil_append, List.append_nil]
    rw [b_X5_takes_28]
def dayB (R : Rw) (x : Int) : Int := if x < 1 then -4 else if 60 < x ∨ 999 < R 2 + x then -6 else 0
theorem M_days (x : Int) (σ : St) (h : Mok σ) : ∃ g : Nat → Int, Rx k_X5_days 0 [.inr (.inl (16, 0)), .inl x] [] σ = some (some (.inl (if dayB (σ 17 0) x = 0 then (pc10 (upF (daysF x.toNat (σ 17 0))) : Nat) else dayB (σ 17 0) x)), if dayB (σ 17 0) x = 0 then sR σ 0 (daysF x.toNat (σ 17 0)) g else noS σ (dayB (σ 17 0) x)) := by
  have hd := h.2.1
  have hd2 := h.2.2.1
  unfold dayB
  by_cases h1 : x < 1
  · refine ⟨σ 18 0, ?_⟩
    rw [if_pos h1, if_neg (by decide), if_neg (by decide), b_X5_days_0, if_pos h1, b_X5_days_5, h.no (by decide) (by decide)]
    simp only [Option.bind_some, Option.toList_some, Option.toList_none, List.cons_append, List.nil_append, List.append_nil]
    rw [b_X5_days_11]
  · rw [if_neg h1, b_X5_days_0, if_neg h1]
    by_cases h2 : 60 < x ∨ 999 < σ 17 0 2 + x
    · refine ⟨σ 18 0, ?_⟩
      have hl : Rx k_X5_days 12 [.inr (.inl (16, 0)), .inl x] [] σ = Rx k_X5_days 32 [.inr (.inl (16, 0)), .inl x] [] σ := by
        rw [b_X5_days_12]
        by_cases h3 : 60 < x
        · rw [if_pos h3]
        · rw [if_neg h3, b_X5_days_18 _ _ (by omega) (by omega), if_pos (by omega)]
      rw [if_pos h2, if_neg (by decide), if_neg (by decide), hl, b_X5_days_32, h.no (by decide) (by decide)]
      simp only [Option.bind_some, Option.toList_some, Option.toList_none, List.cons_append, List.nil_append, List.append_nil]
      rw [b_X5_days_38]
    · obtain ⟨g, hg⟩ := C_daysOn 0 x σ h.1 (by omega) hd (by omega)
      obtain ⟨o1, o2, o3, o4, o5⟩ := daysF_ok x.toNat h.1
      have ob := o1.1
      unfold Iv0 at ob
      refine ⟨g, ?_⟩
      rw [if_neg h2, if_pos rfl, if_pos rfl, b_X5_days_12, if_neg (by omega), b_X5_days_18 _ _ (by omega) (by omega), if_neg (by omega), b_X5_days_39, hg]
      simp only [Option.bind_some, Option.toList_some, Option.toList_none, List.cons_append, List.nil_append, List.append_nil]
      rw [b_X5_days_48, C_upSet 0 _ (by rw [sR_17]; exact o1.to1), sR_17]
      simp only [Option.bind_some, Option.toList_some, Option.toList_none, List.cons_append, List.nil_append, List.append_nil]
      rw [b_X5_days_55, C_bits _ (upF_lt ob.2.2.2)]
      simp only [Option.bind_some, Option.toList_some, Option.toList_none, List.cons_append, List.nil_append, List.append_nil]
      rw [b_X5_days_58]
