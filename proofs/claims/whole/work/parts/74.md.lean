/-! rows changed in one place; gap, lean, judge, two -/
theorem Iv1.plw {R : Rw} (h : Iv1 R) {t v : Int} (h0 : 0 ≤ t) (hv : -5 ≤ v ∧ v ≤ 19) : Iv1 (wrt R (18 + 4 * t + 1).toNat v) := by
  obtain ⟨i0, i1⟩ := h
  have w0 : wrt R (18 + 4 * t + 1).toNat v 0 = R 0 := wrt_ne (by omega)
  have w1 : wrt R (18 + 4 * t + 1).toNat v 1 = R 1 := wrt_ne (by omega)
  refine ⟨by unfold Iv0; rw [w0, w1]; exact i0, ?_⟩
  intro u a b
  rw [w1] at b
  have k := i1 u a b
  have e1 : wt (wrt R (18 + 4 * t + 1).toNat v) u = wt R u := wrt_ne (by omega)
  have e2 : uq (wrt R (18 + 4 * t + 1).toNat v) u = uq R u := wrt_ne (by omega)
  rw [e1, e2]
  by_cases hu : u = t
  · have e3 : pl (wrt R (18 + 4 * t + 1).toNat v) u = v := wrt_eq (by rw [hu])
    rw [e3]; omega
  · have e3 : pl (wrt R (18 + 4 * t + 1).toNat v) u = pl R u := wrt_ne (by omega)
    rw [e3]; exact k
theorem tw {R : Rw} {t v : Int} (j : Int) (h0 : 0 ≤ t) (hj : 0 ≤ j ∧ j ≤ 3) : wrt R (18 + 4 * t + j).toNat v 0 = R 0 ∧ wrt R (18 + 4 * t + j).toNat v 1 = R 1 ∧ wrt R (18 + 4 * t + j).toNat v 2 = R 2 ∧ (∀ k : Nat, 58 ≤ k → t < 10 → wrt R (18 + 4 * t + j).toNat v k = R k) ∧ (∀ p, 0 ≤ p → p < 5 → kd (wrt R (18 + 4 * t + j).toNat v) p = kd R p ∧ fg (wrt R (18 + 4 * t + j).toNat v) p = fg R p ∧ sg (wrt R (18 + 4 * t + j).toNat v) p = sg R p) :=
  ⟨wrt_ne (by omega), wrt_ne (by omega), wrt_ne (by omega), fun k a b => wrt_ne (by omega), fun p a b => ⟨wrt_ne (by omega), wrt_ne (by omega), wrt_ne (by omega)⟩⟩
theorem Iv.onw {R : Rw} (h : Iv R) {t p : Int} (h0 : 0 ≤ t) (hp : 0 ≤ p ∧ p < R 0) : Iv (wrt R (18 + 4 * t + 2).toNat p) := by
  obtain ⟨i0, iP, iT, iD⟩ := h
  obtain ⟨w0, w1, w2, w3, w4⟩ := tw (R := R) (v := p) 2 h0 (by omega)
  have hb := i0
  unfold Iv0 at hb
  refine ⟨by unfold Iv0; rw [w0, w1]; exact i0, ?_, ?_, ?_⟩
  · intro q a b
    rw [w0] at b
    obtain ⟨e1, e2, e3⟩ := w4 q a (by omega)
    rw [e1, e2, e3]
    exact iP q a b
  · intro u a b
    rw [w1] at b
    have k := iT u a b
    have e1 : wt (wrt R (18 + 4 * t + 2).toNat p) u = wt R u := wrt_ne (by omega)
    have e2 : pl (wrt R (18 + 4 * t + 2).toNat p) u = pl R u := wrt_ne (by omega)
    have e4 : uq (wrt R (18 + 4 * t + 2).toNat p) u = uq R u := wrt_ne (by omega)
    rw [e1, e2, e4, w0]
    by_cases hu : u = t
    · have e3 : on (wrt R (18 + 4 * t + 2).toNat p) u = p := wrt_eq (by rw [hu])
      rw [e3]; omega
    · have e3 : on (wrt R (18 + 4 * t + 2).toNat p) u = on R u := wrt_ne (by omega)
      rw [e3]; exact k
  · intro u u' a b a' b' e
    rw [w1] at b b'
    have e1 : pl (wrt R (18 + 4 * t + 2).toNat p) u = pl R u := wrt_ne (by omega)
    have e2 : pl (wrt R (18 + 4 * t + 2).toNat p) u' = pl R u' := wrt_ne (by omega)
    rw [e1, e2] at e
    exact iD u u' a b a' b' e
theorem Iv.upw {R : Rw} (h : Iv R) {t v : Int} (h0 : 0 ≤ t) (hv : v = 0 ∨ v = 1) : Iv (wrt R (18 + 4 * t + 3).toNat v) := by
  obtain ⟨i0, iP, iT, iD⟩ := h
  obtain ⟨w0, w1, w2, w3, w4⟩ := tw (R := R) (v := v) 3 h0 (by omega)
  have hb := i0
  unfold Iv0 at hb
  refine ⟨by unfold Iv0; rw [w0, w1]; exact i0, ?_, ?_, ?_⟩
  · intro q a b
    rw [w0] at b
    obtain ⟨e1, e2, e3⟩ := w4 q a (by omega)
    rw [e1, e2, e3]
    exact iP q a b
  · intro u a b
    rw [w1] at b
    have k := iT u a b
    have e1 : wt (wrt R (18 + 4 * t + 3).toNat v) u = wt R u := wrt_ne (by omega)
    have e2 : pl (wrt R (18 + 4 * t + 3).toNat v) u = pl R u := wrt_ne (by omega)
    have e3 : on (wrt R (18 + 4 * t + 3).toNat v) u = on R u := wrt_ne (by omega)
    rw [e1, e2, e3, w0]
    by_cases hu : u = t
    · have e4 : uq (wrt R (18 + 4 * t + 3).toNat v) u = v := wrt_eq (by rw [hu])
      rw [e4]; omega
    · have e4 : uq (wrt R (18 + 4 * t + 3).toNat v) u = uq R u := wrt_ne (by omega)
      rw [e4]; exact k
  · intro u u' a b a' b' e
    rw [w1] at b b'
    have e1 : pl (wrt R (18 + 4 * t + 3).toNat v) u = pl R u := wrt_ne (by omega)
    have e2 : pl (wrt R (18 + 4 * t + 3).toNat v) u' = pl R u' := wrt_ne (by omega)
    rw [e1, e2] at e
    exact iD u u' a b a' b' e
theorem Iv.plw {R : Rw} (h : Iv R) {t v : Int} (h0 : 0 ≤ t) (hv : 0 ≤ v ∧ v ≤ 19) (hf : ∀ u, 0 ≤ u → u < R 1 → u ≠ t → pl R u ≠ v) : Iv (wrt R (18 + 4 * t + 1).toNat v) := by
  obtain ⟨i0, iP, iT, iD⟩ := h
  obtain ⟨w0, w1, w2, w3, w4⟩ := tw (R := R) (v := v) 1 h0 (by omega)
  have hb := i0
  unfold Iv0 at hb
  have ep : ∀ u, 0 ≤ u → u ≠ t → pl (wrt R (18 + 4 * t + 1).toNat v) u = pl R u := fun u a b => wrt_ne (by omega)
  have et : ∀ u, u = t → pl (wrt R (18 + 4 * t + 1).toNat v) u = v := fun u e => wrt_eq (by rw [e])
  refine ⟨by unfold Iv0; rw [w0, w1]; exact i0, ?_, ?_, ?_⟩
  · intro q a b
    rw [w0] at b
    obtain ⟨e1, e2, e3⟩ := w4 q a (by omega)
    rw [e1, e2, e3]
    exact iP q a b
  · intro u a b
    rw [w1] at b
    have k := iT u a b
    have e1 : wt (wrt R (18 + 4 * t + 1).toNat v) u = wt R u := wrt_ne (by omega)
    have e2 : on (wrt R (18 + 4 * t + 1).toNat v) u = on R u := wrt_ne (by omega)
    have e4 : uq (wrt R (18 + 4 * t + 1).toNat v) u = uq R u := wrt_ne (by omega)
    rw [e1, e2, e4, w0]
    by_cases hu : u = t
    · rw [et u hu]; omega
    · rw [ep u a hu]; exact k
  · intro u u' a b a' b' e
    rw [w1] at b b'
    by_cases hu : u = t
    · by_cases hu' : u' = t
      · rw [hu, hu']
      · rw [et u hu, ep u' a' hu'] at e
        exact absurd e.symm (hf u' a' b' hu')
    · by_cases hu' : u' = t
      · rw [ep u a hu, et u' hu'] at e
        exact absurd e (hf u a b hu)
      · rw [ep u a hu, ep u' a' hu'] at e
        exact iD u u' a b a' b' e
theorem who_noneG {R : Rw} {c : Int} : ∀ (n : Nat) (t : Int), 0 ≤ t → whoG R c n t < 0 → ∀ u, t ≤ u → u < t + n → pl R u ≠ c := by
  intro n
  induction n with
  | zero => intro t h0 h1 u a b; omega
  | succ n ih =>
    intro t h0 h1 u a b
    rw [whoG_s] at h1
    by_cases h2 : pl R t = c
    · rw [if_pos h2] at h1; omega
    · rw [if_neg h2] at h1
      by_cases h3 : u = t
      · rw [h3]; exact h2
      · exact ih (t + 1) (by omega) h1 u (by omega) (by omega)
theorem who_none {R : Rw} (h : 0 ≤ R 1) {c : Int} (hc : whoF R c < 0) : ∀ u, 0 ≤ u → u < R 1 → pl R u ≠ c := fun u a b => who_noneG (R 1).toNat 0 (by decide) hc u a (by omega)
/-- gap -/
def gapN (R : Rw) (t u : Int) : Int := (fellF (wrt (wrt R (18 + 4 * u + 3).toNat 0) (18 + 4 * u + 1).toNat (-5)) t).2
def gapG (R : Rw) (t : Int) : Nat → Int → Int → Int → Int
  | 0, _, _, f => f
  | n + 1, u, x, f => if u ≠ t ∧ uq R u = 1 ∧ gapN R t u < x then gapG R t n (u + 1) (gapN R t u) u else gapG R t n (u + 1) x f
theorem gapG_s (R : Rw) (t : Int) (n : Nat) (u x f : Int) : gapG R t (n + 1) u x f = if u ≠ t ∧ uq R u = 1 ∧ gapN R t u < x then gapG R t n (u + 1) (gapN R t u) u else gapG R t n (u + 1) x f := rfl
def gapA (R : Rw) (t : Int) : Int := gapG R t (R 1).toNat 0 ((fellF R t).2 - 1) (-9)
theorem L_gap (σ : St) (h : Mok σ) (t : Int) (ht : isT (σ 17 0) t) (x2 : Int) : ∀ (n : Nat) (u x f : Int) (u6 : AV) (σ1 : St), 0 ≤ u → u + n = σ 17 0 1 → MS σ σ1 → ∃ σ', MS σ σ' ∧ Rx k_X5_gap 45 [.inr (.inl (16, 0)), .inl t, .inl x2, .inl x, .inl f, .inl u, u6] [] σ1 = some (some (.inl (gapG (σ 17 0) t n u x f)), σ') := by
  have hb := h.ct
  intro n
  induction n with
  | zero =>
    intro u x f u6 σ1 h0 h1 hk
    refine ⟨σ1, hk, ?_⟩
    rw [b_X5_gap_45, hk.row (by decide), if_neg (by omega), b_X5_gap_147]
    rfl
  | succ n ih =>
    intro u x f u6 σ1 h0 h1 hk
    have m1 := h.ms hk
    have e0 : σ1 17 0 = σ 17 0 := hk.row (by decide)
    rw [b_X5_gap_45, e0, if_pos (by omega), b_X5_gap_56, gapG_s]
    by_cases h2 : u = t
    · rw [if_pos h2, if_neg (fun z => z.1 h2), b_X5_gap_141 _ _ _ _ _ _ _ (by omega) (by omega)]
      exact ih (u + 1) _ _ _ σ1 (by omega) (by omega) hk
    · rw [if_neg h2, b_X5_gap_62, C_isUp 0 _ σ1 h0 (by omega), e0]
      simp only [Option.bind_some, Option.toList_some, Option.toList_none, List.cons_append, List.nil_append, List.append_nil]
      rw [b_X5_gap_71]
      by_cases h3 : uq (σ 17 0) u = 1
      · have cp := m1.cp uns
        rw [e0] at cp
        have i1 : Iv1 (wrt (wrt (σ 17 0) (18 + 4 * u + 3).toNat 0) (18 + 4 * u + 1).toNat (-5)) := (Iv1_up h.1.to1 h0 (Or.inl rfl)).plw h0 (by omega)
        obtain ⟨w0, w1, w2, w3, w4⟩ := tw (R := σ 17 0) (v := 0) 3 h0 (by omega)
        obtain ⟨v0, v1, v2, v3, v4⟩ := tw (R := wrt (σ 17 0) (18 + 4 * u + 3).toNat 0) (v := -5) 1 h0 (by omega)
        have d := fellF_dn i1 ht.1 (by rw [v1, w1]; omega)
        have k3 : MS σ1 (setR σ1 1 (fellF (wrt (wrt (σ 17 0) (18 + 4 * u + 3).toNat 0) (18 + 4 * u + 1).toNat (-5)) t).1) := MS.set (fun k hk => by rw [d.2.2.2.2.2.2 k hk, v3 k hk (by omega), w3 k hk (by omega), m1.z k hk, e0])
        have k4 := hk.trans k3
        rw [if_pos h3, if_neg (by decide), b_X5_gap_77, cp]
        simp only [Option.bind_some, Option.toList_some, Option.toList_none, List.cons_append, List.nil_append, List.append_nil]
        rw [b_X5_gap_88, C_ofT _ _ (by omega) (by omega)]
        simp only [Option.bind_some, Option.toList_some, Option.toList_none, List.cons_append, List.nil_append, List.append_nil]
        rw [b_X5_gap_97 _ _ _ _ _ _ _ _ (by omega) (by omega) (by omega) (by omega), up17s, C_ofT _ _ (by omega) (by omega)]
        simp only [Option.bind_some, Option.toList_some, Option.toList_none, List.cons_append, List.nil_append, List.append_nil]
        rw [b_X5_gap_110 _ _ _ _ _ _ _ _ (by omega) (by omega) (by omega) (by omega), up17s, C_fells 1 t _ (by rw [setR_at]; exact i1) ht.1 (by rw [setR_at, v1, w1]; omega), setR_at, setR_set]
        simp only [Option.bind_some, Option.toList_some, Option.toList_none, List.cons_append, List.nil_append, List.append_nil]
        rw [b_X5_gap_123]
        have eg : (fellF (wrt (wrt (σ 17 0) (18 + 4 * u + 3).toNat 0) (18 + 4 * u + 1).toNat (-5)) t).2 = gapN (σ 17 0) t u := rfl
        rw [eg]
        by_cases h4 : gapN (σ 17 0) t u < x
        · rw [if_pos h4, if_pos ⟨h2, h3, h4⟩, b_X5_gap_134 _ _ _ _ _ _ _ (by omega) (by omega)]
          exact ih (u + 1) _ _ _ _ (by omega) (by omega) k4
        · rw [if_neg h4, if_neg (fun z => h4 z.2.2), b_X5_gap_131 _ _ _ _ _ _ _ (by omega) (by omega)]
          exact ih (u + 1) _ _ _ _ (by omega) (by omega) k4
      · rw [if_neg h3, if_pos rfl, if_neg (fun z => h3 z.2.1), b_X5_gap_74 _ _ _ _ _ _ _ (by omega) (by omega)]
        exact ih (u + 1) _ _ _ σ1 (by omega) (by omega) hk
theorem M_gap (t : Int) (σ : St) (u2 u3 u4 u5 u6 : AV) (h : Mok σ) : Q (fun z => Rx k_X5_gap 0 [.inr (.inl (16, 0)), .inl t, u2, u3, u4, u5, u6] [] σ = some z) σ (wupF (σ 17 0) t) (gapA (σ 17 0) t) := by
  have hb := h.ct
  have hw := wup_c (σ 17 0) t
  have hl : Rx k_X5_gap 0 [.inr (.inl (16, 0)), .inl t, u2, u3, u4, u5, u6] [] σ = if wupF (σ 17 0) t = 0 then Rx k_X5_gap 16 [.inr (.inl (16, 0)), .inl t, .inl (wupF (σ 17 0) t), u3, u4, u5, u6] [] σ else Rx k_X5_gap 10 [.inr (.inl (16, 0)), .inl t, .inl (wupF (σ 17 0) t), u3, u4, u5, u6] [] σ := by
    rw [b_X5_gap_0, C_wrongUp _ _ h.1.1]
    simp only [Option.bind_some, Option.toList_some, Option.toList_none, List.cons_append, List.nil_append, List.append_nil]
    rw [b_X5_gap_5]
  rw [hl]
  by_cases h1 : wupF (σ 17 0) t = 0
  · have ht : isT (σ 17 0) t := by rcases hw with z | z | z; exact z.2.1; omega; omega
    have k := h.fel ht
    have hn := fellF_n (σ 17 0) t
    obtain ⟨σ', k1, k2⟩ := L_gap σ h t ht 0 (σ 17 0 1).toNat 0 ((fellF (σ 17 0) t).2 - 1) (-9) u6 _ (by decide) (by omega) k.1
    rw [if_pos h1, h1]
    refine Q_ok k1 ?_
    rw [b_X5_gap_16, h.cp]
    simp only [Option.bind_some, Option.toList_some, Option.toList_none, List.cons_append, List.nil_append, List.append_nil]
    rw [b_X5_gap_27, k.2]
    simp only [Option.bind_some, Option.toList_some, Option.toList_none, List.cons_append, List.nil_append, List.append_nil]
    rw [b_X5_gap_35 _ _ _ _ _ _ _ _ (by omega) (by omega), k2]
    rfl
  · rw [if_neg h1]
    refine Q_no h1 ?_
    rw [b_X5_gap_10, h.no (by omega) (by omega)]
    simp only [Option.bind_some, Option.toList_some, Option.toList_none, List.cons_append, List.nil_append, List.append_nil]
    rw [b_X5_gap_15]
