/-! a rack's day -/
def lsF (k f s l d : Int) : Int := if k = 1 then (if d.tmod (f + 1) = 0 then 1 else 0) else if k = 2 then (if s < 50 then (if d.tmod (f + 1) = 0 then 1 else 0) else 0) else if k = 3 then (if s < 50 then (if d.tmod (f + 1) = 0 then 1 else 0) else 0) + f.tdiv 3 else if k = 4 then 1 + f else if k = 5 then (if 0 < l then 2 * (1 + f) else 0) else 1
theorem lessF_ls (R : Rw) (p d : Int) : lessF R p d = lsF (kd R p) (fg R p) (sg R p) (loadF R p) d := rfl
theorem K_ofHabit (f d : Int) (hf : 0 ≤ f ∧ f ≤ 9) (u : AV) (σ : St) : Rx k_X3_ofHabit 0 [.inl f, .inl d, u] [] σ = some (some (.inl (if d.tmod (f + 1) = 0 then 1 else 0)), σ) := by
  rw [(b_X3_ofHabit_0 (g0a := by omega) (g0b := by omega)), if_pos (show 0 < f + 1 by omega), (b_X3_ofHabit_8 (h0 := by omega))]
  by_cases h : d.tmod (f + 1) = 0
  · rw [if_pos h, b_X3_ofHabit_14, if_pos h]
  · rw [if_neg h, b_X3_ofHabit_18, if_neg h]
theorem K_by (k f s l d : Int) (hf : 0 ≤ f ∧ f ≤ 9) (u5 u6 u7 : AV) (σ : St) : Rx k_X3_by 0 [.inl k, .inl f, .inl s, .inl l, .inl d, u5, u6, u7] [] σ = some (some (.inl (lsF k f s l d)), σ) := by
  have h3 : 0 ≤ f.tdiv 3 ∧ f.tdiv 3 ≤ 9 := ⟨Int.tdiv_nonneg hf.1 (by decide), Int.le_trans (Int.tdiv_le_self _ hf.1) hf.2⟩
  unfold lsF
  generalize eh : (if d.tmod (f + 1) = 0 then (1 : Int) else 0) = hab
  have hh : 0 ≤ hab ∧ hab ≤ 1 := by rw [← eh]; split <;> omega
  have tail : ∀ v : Int, 0 ≤ v → v ≤ 1 → (if k = 1 then Rx k_X3_by 64 [.inl k, .inl f, .inl s, .inl l, .inl d, .inl hab, .inl v, .inl (1 + f)] [] σ else if k = 2 then Rx k_X3_by 67 [.inl k, .inl f, .inl s, .inl l, .inl d, .inl hab, .inl v, .inl (1 + f)] [] σ else if k = 3 then Rx k_X3_by 70 [.inl k, .inl f, .inl s, .inl l, .inl d, .inl hab, .inl v, .inl (1 + f)] [] σ else if k = 4 then Rx k_X3_by 77 [.inl k, .inl f, .inl s, .inl l, .inl d, .inl hab, .inl v, .inl (1 + f)] [] σ else if k = 5 then Rx k_X3_by 80 [.inl k, .inl f, .inl s, .inl l, .inl d, .inl hab, .inl v, .inl (1 + f)] [] σ else Rx k_X3_by 93 [.inl k, .inl f, .inl s, .inl l, .inl d, .inl hab, .inl v, .inl (1 + f)] [] σ) = some (some (.inl (if k = 1 then hab else if k = 2 then v else if k = 3 then v + f.tdiv 3 else if k = 4 then 1 + f else if k = 5 then (if 0 < l then 2 * (1 + f) else 0) else 1)), σ) := by
    intro v h0 h1
    by_cases e1 : k = 1
    · rw [if_pos e1, if_pos e1, b_X3_by_64]
    rw [if_neg e1, if_neg e1]
    by_cases e2 : k = 2
    · rw [if_pos e2, if_pos e2, b_X3_by_67]
    rw [if_neg e2, if_neg e2]
    by_cases e3 : k = 3
    · rw [if_pos e3, if_pos e3, (b_X3_by_70 (g0a := by omega) (g0b := by omega) (g1a := by omega) (g1b := by omega))]
    rw [if_neg e3, if_neg e3]
    by_cases e4 : k = 4
    · rw [if_pos e4, if_pos e4, b_X3_by_77]
    rw [if_neg e4, if_neg e4]
    by_cases e5 : k = 5
    · rw [if_pos e5, if_pos e5, b_X3_by_80]
      by_cases e6 : 0 < l
      · rw [if_pos e6, (b_X3_by_84 (g0a := by omega) (g0b := by omega)), if_pos e6]
      · rw [if_neg e6, b_X3_by_91, if_neg e6]
    rw [if_neg e5, if_neg e5, b_X3_by_93]
  rw [b_X3_by_0, K_ofHabit f d hf, eh]
  simp only [Option.bind_some, Option.toList_some, Option.toList_none, List.cons_append, List.nil_append, List.append_nil]
  rw [b_X3_by_6]
  by_cases hs : s < 50
  · rw [if_pos hs, (b_X3_by_18 (g0a := by omega) (g0b := by omega)), if_pos hs]
    exact tail hab hh.1 hh.2
  · rw [if_neg hs, (b_X3_by_14 (g0a := by omega) (g0b := by omega)), if_neg hs]
    exact tail 0 (by omega) (by omega)
/-- what a day's strengths leave as it was -/
theorem wkG_kf (R0 : Rw) (h : Iv R0) : ∀ n : Nat, (n : Int) ≤ R0 0 → (∀ p, 0 ≤ p → kd (wkG R0 n R0) p = kd R0 p ∧ fg (wkG R0 n R0) p = fg R0 p) ∧ (∀ t, 0 ≤ t → wt (wkG R0 n R0) t = wt R0 t ∧ pl (wkG R0 n R0) t = pl R0 t ∧ on (wkG R0 n R0) t = on R0 t ∧ uq (wkG R0 n R0) t = uq R0 t) := by
  have hb := h.1
  unfold Iv0 at hb
  intro n
  induction n with
  | zero => intro _; exact ⟨fun _ _ => ⟨rfl, rfl⟩, fun _ _ => ⟨rfl, rfl, rfl, rfl⟩⟩
  | succ n ih =>
    intro hn
    obtain ⟨a, b⟩ := ih (by omega)
    rw [wkG_s]
    refine ⟨fun p hp => ?_, fun t ht => ?_⟩
    · obtain ⟨k1, k2, k3⟩ := sw_kd (R := wkG R0 n R0) (p := n) (v := if 0 < sg (wkG R0 n R0) n - lessF R0 n (R0 2) then sg (wkG R0 n R0) n - lessF R0 n (R0 2) else 0) (by omega) hp
      obtain ⟨a1, a2⟩ := a p hp
      exact ⟨k1.trans a1, k2.trans a2⟩
    · obtain ⟨k1, k2, k3, k4⟩ := sw_wt (R := wkG R0 n R0) (p := n) (v := if 0 < sg (wkG R0 n R0) n - lessF R0 n (R0 2) then sg (wkG R0 n R0) n - lessF R0 n (R0 2) else 0) (by omega) (by omega) ht
      obtain ⟨b1, b2, b3, b4⟩ := b t ht
      exact ⟨k1.trans b1, k2.trans b2, k3.trans b3, k4.trans b4⟩
theorem L_pd1 {q : Nat} {R0 : Rw} (hI : Iv R0) : ∀ (n m : Nat) (σ : St) (u : AV), (m : Int) + n = R0 0 → RK σ q (wkG R0 m R0) → ∃ σ' v, Rx k_X2_passDay 12 [.inr (.inl (7, q)), .inl (m : Int), u] [] σ = Rx k_X2_passDay 81 [.inr (.inl (7, q)), .inl (R0 0), v] [] σ' ∧ FR q σ σ' ∧ RK σ' q (wkG R0 (m + n) R0) := by
  have hb := hI.1
  unfold Iv0 at hb
  intro n
  induction n with
  | zero =>
    intro m σ u h1 hK
    obtain ⟨i1, i2, i3, i4, i5, i6⟩ := wkG_ok hI m (by omega)
    refine ⟨σ, u, ?_, FR.refl q σ, hK⟩
    rw [b_X2_passDay_12, hK.2.1.1, i2, if_neg (show ¬ (m : Int) < R0 0 by omega), show (m : Int) = R0 0 by omega]
  | succ n ih =>
    intro m σ u h1 hK
    obtain ⟨i1, i2, i3, i4, i5, i6⟩ := wkG_ok hI m (by omega)
    obtain ⟨a, b⟩ := wkG_kf R0 hI m (by omega)
    obtain ⟨a1, a2⟩ := a m (by omega)
    have hp := hI.2.1 m (by omega) (by omega)
    have hl := lessF_bd hI (p := m) (by omega) (by omega) (R0 2)
    obtain ⟨r1, r2, r3, r4⟩ := hK.2.2.1 m (by omega) (by rw [i2]; omega)
    have hs := i1.2.1 m (by omega) (by rw [i2]; omega)
    have el : loadF (wkG R0 m R0) m = loadF R0 m := loadF_cg m i3 (fun x x0 _ => by obtain ⟨y1, y2, y3, y4⟩ := b x x0; unfold cwF; rw [y1, y3, y4])
    have es : sg (wkG R0 m R0) m = sg R0 m := i5 m (Int.le_refl _)
    have eday : lsF (kd R0 m) (fg R0 m) (sg R0 m) (loadF R0 m) (R0 2) = lessF R0 m (R0 2) := (lessF_ls R0 m (R0 2)).symm
    have hK2 := hK.w10 (p := m) (v := if 0 < sg (wkG R0 m R0) m - lessF R0 m (R0 2) then sg (wkG R0 m R0) m - lessF R0 m (R0 2) else 0) ⟨by omega, by rw [i2]; omega⟩ (by split <;> omega)
    rw [← wkG_s] at hK2
    obtain ⟨σ', v, s1, f1, g1⟩ := ih (m + 1) _ (.inl (lessF R0 m (R0 2))) (by omega) hK2
    refine ⟨σ', v, ?_, (FR.up q σ (t := 10) (by decide) (by decide) _ _).trans f1, by rw [show m + (n + 1) = m + 1 + n by omega]; exact g1⟩
    rw [b_X2_passDay_12, hK.2.1.1, i2, if_pos (show (m : Int) < R0 0 by omega), b_X2_passDay_20, if_pos (show (m : Int) < 5 by omega), (b_X2_passDay_25 (h0 := by omega) (h1 := by omega)), r1, r2, r3, r4, hK.2.1.2.2.1, a1, a2, es, el, i4, K_by _ _ _ _ _ (by omega), eday]
    simp only [Option.bind_some, Option.toList_some, Option.toList_none, List.cons_append, List.nil_append, List.append_nil]
    rw [b_X2_passDay_56 (h0 := by omega) (h1 := by omega) (g0a := by omega) (g0b := by omega) (g1a := by rw [r3]; omega) (g1b := by rw [r3]; omega), r3]
    exact s1
/-- the heaviest falls, if the purpose is out of spare -/
theorem flG_tp {R : Rw} (hI : Iv R) (m : Nat) : flG (m + 1) R = if spareF (flG m R) m < 0 then tpF (flG m R) (heavF (flG m R) m) else flG m R := by
  have hd := flG_dn hI m
  have hI2 := hI.dn hd
  rw [flG_s]
  by_cases h1 : spareF (flG m R) m < 0
  · rw [if_pos h1, if_pos h1]
    unfold tpF
    rcases heavF_c hI2.1 m with k | k
    · rw [k, if_pos (by decide), if_neg (fun z => by have := z.1.1; omega)]
    · rw [if_neg (show ¬ heavF (flG m R) m < 0 by have := k.1.1; omega), if_pos k]
  · rw [if_neg h1, if_neg h1]
theorem L_pd2 {q : Nat} {R : Rw} (hI : Iv R) : ∀ (n m : Nat) (σ : St) (u : AV), (m : Int) + n = R 0 → RK σ q (flG m R) → ∃ σ', Rx k_X2_passDay 83 [.inr (.inl (7, q)), .inl (m : Int), u] [] σ = some (none, σ') ∧ FR q σ σ' ∧ RK σ' q (flG (m + n) R) := by
  have hb := hI.1
  unfold Iv0 at hb
  intro n
  induction n with
  | zero =>
    intro m σ u h1 hK
    have hd := flG_dn hI m
    refine ⟨σ, ?_, FR.refl q σ, hK⟩
    rw [b_X2_passDay_83, hK.2.1.1, hd.1, if_neg (show ¬ (m : Int) < R 0 by omega), b_X2_passDay_120]
  | succ n ih =>
    intro m σ u h1 hK
    have hd := flG_dn hI m
    have ht := flG_tp hI m
    have hm : isP (flG m R) m := ⟨by omega, by rw [hd.1]; omega⟩
    rw [b_X2_passDay_83, hK.2.1.1, hd.1, if_pos (show (m : Int) < R 0 by omega), b_X2_passDay_91, if_pos (show (m : Int) < 5 by omega), b_X2_passDay_96, K_spareOf hK, if_pos hm]
    simp only [Option.bind_some, Option.toList_some, Option.toList_none, List.cons_append, List.nil_append, List.append_nil]
    rw [b_X2_passDay_101, show m + (n + 1) = m + 1 + n by omega]
    by_cases h2 : spareF (flG m R) m < 0
    · rw [if_pos h2] at ht
      obtain ⟨σ1, s1, f1, g1⟩ := K_topple hK (heavF (flG m R) m) uns uns
      rw [← ht] at g1
      obtain ⟨σ2, s2, f2, g2⟩ := ih (m + 1) σ1 u (by omega) g1
      refine ⟨σ2, ?_, f1.trans f2, g2⟩
      rw [if_pos h2, b_X2_passDay_104, K_heaviestOn hK.2 hK.1]
      simp only [Option.bind_some, Option.toList_some, Option.toList_none, List.cons_append, List.nil_append, List.append_nil]
      rw [b_X2_passDay_110, s1]
      simp only [Option.bind_some, Option.toList_some, Option.toList_none, List.cons_append, List.nil_append, List.append_nil]
      rw [(b_X2_passDay_113 (g0a := by omega) (g0b := by omega))]
      exact s2
    · rw [if_neg h2] at ht
      rw [← ht] at hK
      obtain ⟨σ2, s2, f2, g2⟩ := ih (m + 1) σ u (by omega) hK
      refine ⟨σ2, ?_, f2, g2⟩
      rw [if_neg h2, (b_X2_passDay_114 (g0a := by omega) (g0b := by omega))]
      exact s2
theorem RK.w72 {σ : St} {q : Nat} {R : Rw} (h : RK σ q R) (v : Int) : RK (up σ 7 q 2 v) q (wrt R 2 v) := by
  obtain ⟨e0, e1, e2, e3, e4⟩ := dw_all (R := R) (v := v)
  have hb := h.1.1
  unfold Iv0 at hb
  obtain ⟨h1, h2, h3, h4⟩ := h.2
  refine ⟨h.1.dw v, ?_, fun x a b => ?_, fun x a b => ?_, fun x a b => ?_⟩
  · rw [upx_k (by decide), upx_k (by decide), up_at, upx_k (by decide), e0, e1, e2, upF_cg e1 (fun u a _ => (e4 u a).2.2.2)]
    exact ⟨h1.1, h1.2.1, rfl, h1.2.2.2⟩
  · rw [e0] at b
    obtain ⟨k1, k2, k3⟩ := e3 x a
    rw [up_t (s := 8) (by decide), up_t (s := 9) (by decide), up_t (s := 10) (by decide), up_t (s := 11) (by decide), k1, k2, k3, loadF_cg x e1 (fun u a _ => by obtain ⟨y1, y2, y3, y4⟩ := e4 u a; unfold cwF; rw [y1, y3, y4])]
    exact h2 x a b
  · rw [e1] at b
    obtain ⟨y1, y2, y3, y4⟩ := e4 x a
    rw [up_t (s := 12) (by decide), up_t (s := 13) (by decide), up_t (s := 14) (by decide), y1, y2, y3]
    exact h3 x a b
  · rw [up_t (s := 15) (by decide), who_cg (by omega) e1 (fun u a _ => (e4 u a).2.1)]
    exact h4 x a b
theorem K_passDay {σ : St} {q : Nat} {R : Rw} (h : RK σ q R) (h0 : 0 ≤ R 2) (h1 : R 2 ≤ 100000) (u1 u2 : AV) : ∃ σ', Rx k_X2_passDay 0 [.inr (.inl (7, q)), u1, u2] [] σ = some (none, σ') ∧ FR q σ σ' ∧ RK σ' q (dayF R) := by
  have hb := h.1.1
  unfold Iv0 at hb
  have g0 := h.w72 (R 2 + 1)
  obtain ⟨e0, e1, e2, e3, e4⟩ := dw_all (R := R) (v := R 2 + 1)
  obtain ⟨σ1, v, s1, f1, g1⟩ := L_pd1 g0.1 (R 0).toNat 0 _ u2 (by rw [e0]; omega) g0
  rw [Nat.zero_add] at g1
  obtain ⟨i1, i2, i3, i4, i5, i6⟩ := wkG_ok g0.1 (R 0).toNat (by rw [e0]; omega)
  obtain ⟨σ2, s2, f2, g2⟩ := L_pd2 i1 (R 0).toNat 0 σ1 v (by rw [i2, e0]; omega) g1
  rw [Nat.zero_add] at g2
  refine ⟨σ2, ?_, ((FR.up q σ (t := 7) (by decide) (by decide) _ _).trans f1).trans f2, g2⟩
  have e7 := h.2.1.2.2.1
  rw [b_X2_passDay_0 (g0a := by rw [e7]; omega) (g0b := by rw [e7]; omega), e7]
  rw [show ((0 : Nat) : Int) = 0 from rfl] at s1 s2
  rw [s1, b_X2_passDay_81, s2]
theorem L_passDays {q : Nat} (N : Int) : ∀ (n m : Nat) (σ : St) (R : Rw), (m : Int) + n = N → n ≤ 10000 → N ≤ 100000 → RK σ q R → 0 ≤ R 2 → R 2 + n ≤ 50000 → ∃ σ', Rx k_X2_passDays 2 [.inr (.inl (7, q)), .inl N, .inl (m : Int)] [] σ = some (none, σ') ∧ FR q σ σ' ∧ RK σ' q (daysF n R) := by
  intro n
  induction n with
  | zero =>
    intro m σ R h1 h2 h3 hK h4 h5
    refine ⟨σ, ?_, FR.refl q σ, hK⟩
    rw [b_X2_passDays_2, if_neg (show ¬ (m : Int) < N by omega), b_X2_passDays_17]
  | succ n ih =>
    intro m σ R h1 h2 h3 hK h4 h5
    obtain ⟨σ1, s1, f1, g1⟩ := K_passDay hK h4 (by omega) uns uns
    have hd := dayF_ok hK.1
    obtain ⟨σ2, s2, f2, g2⟩ := ih (m + 1) σ1 (dayF R) (by omega) (by omega) h3 g1 (by omega) (by omega)
    refine ⟨σ2, ?_, f1.trans f2, by rw [daysF_s]; exact g2⟩
    rw [b_X2_passDays_2, if_pos (show (m : Int) < N by omega), b_X2_passDays_7, s1]
    simp only [Option.bind_some, Option.toList_some, Option.toList_none, List.cons_append, List.nil_append, List.append_nil]
    rw [(b_X2_passDays_11 (g0a := by omega) (g0b := by omega))]
    exact s2
theorem K_passDays {σ : St} {q : Nat} {R : Rw} (h : RK σ q R) {d : Int} (h0 : 0 ≤ d) (h1 : 0 ≤ R 2) (h2 : R 2 + d ≤ 10000) (u : AV) : ∃ σ', Rx k_X2_passDays 0 [.inr (.inl (7, q)), .inl d, u] [] σ = some (none, σ') ∧ FR q σ σ' ∧ RK σ' q (daysF d.toNat R) := by
  obtain ⟨σ1, s1, f1, g1⟩ := L_passDays (q := q) d d.toNat 0 σ R (by omega) (by omega) (by omega) h h1 (by omega)
  refine ⟨σ1, ?_, f1, g1⟩
  rw [b_X2_passDays_0]
  exact s1
