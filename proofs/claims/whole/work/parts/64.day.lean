/-- only UPs fall -/
def Dn (R R' : Rw) : Prop := R' 0 = R 0 ∧ R' 1 = R 1 ∧ R' 2 = R 2 ∧ (∀ p, 0 ≤ p → p < 5 → kd R' p = kd R p ∧ fg R' p = fg R p ∧ sg R' p = sg R p) ∧ (∀ t, 0 ≤ t → wt R' t = wt R t ∧ pl R' t = pl R t ∧ on R' t = on R t) ∧ (∀ t, 0 ≤ t → uq R' t = uq R t ∨ uq R' t = 0) ∧ (∀ k : Nat, 58 ≤ k → R' k = R k)
theorem Dn.rf (R : Rw) : Dn R R := ⟨rfl, rfl, rfl, fun _ _ _ => ⟨rfl, rfl, rfl⟩, fun _ _ => ⟨rfl, rfl, rfl⟩, fun _ _ => Or.inl rfl, fun _ _ => rfl⟩
theorem Dn.tr {R S T : Rw} (h : Dn R S) (g : Dn S T) : Dn R T := by
  obtain ⟨h0, h1, h2, h3, h4, h5, h6⟩ := h
  obtain ⟨g0, g1, g2, g3, g4, g5, g6⟩ := g
  refine ⟨g0.trans h0, g1.trans h1, g2.trans h2, fun p a b => ?_, fun t a => ?_, fun t a => ?_, fun k hk => (g6 k hk).trans (h6 k hk)⟩
  · obtain ⟨a1, a2, a3⟩ := h3 p a b
    obtain ⟨b1, b2, b3⟩ := g3 p a b
    exact ⟨b1.trans a1, b2.trans a2, b3.trans a3⟩
  · obtain ⟨a1, a2, a3⟩ := h4 t a
    obtain ⟨b1, b2, b3⟩ := g4 t a
    exact ⟨b1.trans a1, b2.trans a2, b3.trans a3⟩
  · rcases g5 t a with e | e
    · rcases h5 t a with f | f
      · exact Or.inl (e.trans f)
      · exact Or.inr (e.trans f)
    · exact Or.inr e
theorem Dn.up {R : Rw} {t : Int} (h0 : 0 ≤ t) (h1 : t < 10) : Dn R (wrt R (18 + 4 * t + 3).toNat 0) := by
  obtain ⟨e0, e1, e2⟩ := up_0 (R := R) (v := 0) h0
  refine ⟨e0, e1, e2, fun p a b => up_kd h0 a b, fun u a => up_wt h0 a, fun u a => ?_, fun k hk => wrt_ne (by omega)⟩
  rw [up_uq h0 a]
  split
  · exact Or.inr rfl
  · exact Or.inl rfl
theorem Iv1.dn {R R' : Rw} (h : Iv1 R) (d : Dn R R') : Iv1 R' := by
  obtain ⟨d0, d1, d2, d3, d4, d5, d6⟩ := d
  refine ⟨by unfold Iv0; rw [d0, d1]; exact h.1, fun t a b => ?_⟩
  rw [d1] at b
  have := h.2 t a b
  obtain ⟨e1, e2, e3⟩ := d4 t a
  have e4 := d5 t a
  rw [e1, e2]
  omega
theorem Iv.dn {R R' : Rw} (h : Iv R) (d : Dn R R') : Iv R' := by
  obtain ⟨d0, d1, d2, d3, d4, d5, d6⟩ := d
  obtain ⟨h0, hp, ht, hd⟩ := h
  unfold Iv0 at h0
  refine ⟨by unfold Iv0; rw [d0, d1]; exact h0, fun p a b => ?_, fun t a b => ?_, fun t t' a b a' b' e => ?_⟩
  · rw [d0] at b
    obtain ⟨e1, e2, e3⟩ := d3 p a (by omega)
    rw [e1, e2, e3]
    exact hp p a b
  · rw [d1] at b
    have := ht t a b
    obtain ⟨e1, e2, e3⟩ := d4 t a
    have e4 := d5 t a
    rw [e1, e2, e3, d0]
    omega
  · rw [d1] at b b'
    rw [(d4 t a).2.1, (d4 t' a').2.1] at e
    exact hd t t' a b a' b' e
theorem fellM_dn : ∀ (k : Nat) (R : Rw) (t w n : Int), Iv1 R → (t < 0 ∨ (0 ≤ t ∧ t < R 1)) → Dn R (fellM k R t w n).1 := by
  intro k
  induction k with
  | zero => intro R t w n _ _; exact Dn.rf R
  | succ k ih =>
    intro R t w n hR ht
    unfold fellM
    split
    · exact Dn.rf R
    · rename_i h0
      have ht := ht.resolve_left h0
      have hb := hR.1
      unfold Iv0 at hb
      split
      · split
        · exact Dn.rf R
        · have hd := Dn.up (R := R) ht.1 (by omega)
          refine hd.tr (ih _ _ _ _ (hR.dn hd) ?_)
          rcases who_spec (R := wrt R (18 + 4 * t + 3).toNat 0) (by rw [hd.2.1]; omega) (pl R t + 1) with h | h
          · left; rw [h]; decide
          · right; exact ⟨h.1, h.2.1⟩
      · exact Dn.rf R
theorem fellF_dn {R : Rw} (h : Iv1 R) {t : Int} (h0 : 0 ≤ t) (h1 : t < R 1) : Dn R (fellF R t).1 := fellM_dn 26 R t _ _ h (Or.inr ⟨h0, h1⟩)
/-- a strength written -/
theorem sw_0 {R : Rw} {p v : Int} (h : 0 ≤ p) (h5 : p < 5) : wrt R (3 + 3 * p + 2).toNat v 0 = R 0 ∧ wrt R (3 + 3 * p + 2).toNat v 1 = R 1 ∧ wrt R (3 + 3 * p + 2).toNat v 2 = R 2 := ⟨wrt_ne (by omega), wrt_ne (by omega), wrt_ne (by omega)⟩
theorem sw_wt {R : Rw} {p v t : Int} (h : 0 ≤ p) (h5 : p < 5) (ht : 0 ≤ t) : wt (wrt R (3 + 3 * p + 2).toNat v) t = wt R t ∧ pl (wrt R (3 + 3 * p + 2).toNat v) t = pl R t ∧ on (wrt R (3 + 3 * p + 2).toNat v) t = on R t ∧ uq (wrt R (3 + 3 * p + 2).toNat v) t = uq R t := ⟨wrt_ne (by omega), wrt_ne (by omega), wrt_ne (by omega), wrt_ne (by omega)⟩
theorem sw_kd {R : Rw} {p v u : Int} (h : 0 ≤ p) (hu : 0 ≤ u) : kd (wrt R (3 + 3 * p + 2).toNat v) u = kd R u ∧ fg (wrt R (3 + 3 * p + 2).toNat v) u = fg R u ∧ sg (wrt R (3 + 3 * p + 2).toNat v) u = if u = p then v else sg R u := by
  refine ⟨wrt_ne (by omega), wrt_ne (by omega), ?_⟩
  by_cases e : u = p
  · rw [if_pos e]; exact wrt_eq (by rw [e])
  · rw [if_neg e]; exact wrt_ne (by omega)
theorem Iv.sw {R : Rw} (h : Iv R) {p v : Int} (h0 : 0 ≤ p) (h5 : p < 5) (hv : 0 ≤ v ∧ v ≤ 99) : Iv (wrt R (3 + 3 * p + 2).toNat v) := by
  obtain ⟨hi, hp, ht, hd⟩ := h
  obtain ⟨e0, e1, e2⟩ := sw_0 (R := R) (v := v) h0 h5
  refine ⟨by unfold Iv0; rw [e0, e1]; exact hi, fun u a b => ?_, fun t a b => ?_, fun t t' a b a' b' e => ?_⟩
  · rw [e0] at b
    obtain ⟨f1, f2, f3⟩ := sw_kd (R := R) (v := v) h0 a
    have := hp u a b
    rw [f1, f2, f3]
    split <;> omega
  · rw [e1] at b
    obtain ⟨f1, f2, f3, f4⟩ := sw_wt (R := R) (v := v) h0 h5 a
    rw [f1, f2, f3, f4, e0]
    exact ht t a b
  · rw [e1] at b b'
    rw [(sw_wt h0 h5 a).2.1, (sw_wt h0 h5 a').2.1] at e
    exact hd t t' a b a' b' e
/-- the day's number written -/
theorem dw_all {R : Rw} {v : Int} : (wrt R 2 v) 0 = R 0 ∧ (wrt R 2 v) 1 = R 1 ∧ (wrt R 2 v) 2 = v ∧ (∀ p, 0 ≤ p → kd (wrt R 2 v) p = kd R p ∧ fg (wrt R 2 v) p = fg R p ∧ sg (wrt R 2 v) p = sg R p) ∧ (∀ t, 0 ≤ t → wt (wrt R 2 v) t = wt R t ∧ pl (wrt R 2 v) t = pl R t ∧ on (wrt R 2 v) t = on R t ∧ uq (wrt R 2 v) t = uq R t) :=
  ⟨wrt_ne (by decide), wrt_ne (by decide), wrt_eq rfl, fun p h => ⟨wrt_ne (by omega), wrt_ne (by omega), wrt_ne (by omega)⟩, fun t h => ⟨wrt_ne (by omega), wrt_ne (by omega), wrt_ne (by omega), wrt_ne (by omega)⟩⟩
theorem Iv.dw {R : Rw} (h : Iv R) (v : Int) : Iv (wrt R 2 v) := by
  obtain ⟨hi, hp, ht, hd⟩ := h
  obtain ⟨e0, e1, e2, e3, e4⟩ := dw_all (R := R) (v := v)
  refine ⟨by unfold Iv0; rw [e0, e1]; exact hi, fun u a b => ?_, fun t a b => ?_, fun t t' a b a' b' e => ?_⟩
  · rw [e0] at b
    obtain ⟨f1, f2, f3⟩ := e3 u a
    rw [f1, f2, f3]
    exact hp u a b
  · rw [e1] at b
    obtain ⟨f1, f2, f3, f4⟩ := e4 t a
    rw [f1, f2, f3, f4, e0]
    exact ht t a b
  · rw [e1] at b b'
    rw [(e4 t a).2.1, (e4 t' a').2.1] at e
    exact hd t t' a b a' b' e
theorem lessF_bd {R : Rw} {p : Int} (h : Iv R) (h0 : 0 ≤ p) (h1 : p < R 0) (day : Int) : 0 ≤ lessF R p day ∧ lessF R p day ≤ 20 := by
  have hp := h.2.1 p h0 h1
  have hl := loadF_bd h.to1 p
  have h3 : 0 ≤ (fg R p).tdiv 3 ∧ (fg R p).tdiv 3 ≤ 9 := ⟨Int.tdiv_nonneg hp.2.2.1 (by decide), Int.le_trans (Int.tdiv_le_self _ hp.2.2.1) hp.2.2.2.1⟩
  unfold lessF
  dsimp only
  repeat' split
  all_goals omega
/-- behind n strengths of a day -/
theorem wkG_ok {R0 : Rw} (h : Iv R0) : ∀ n : Nat, (n : Int) ≤ R0 0 → Iv (wkG R0 n R0) ∧ (wkG R0 n R0) 0 = R0 0 ∧ (wkG R0 n R0) 1 = R0 1 ∧ (wkG R0 n R0) 2 = R0 2 ∧ (∀ u : Int, (n : Int) ≤ u → sg (wkG R0 n R0) u = sg R0 u) ∧ (∀ k : Nat, 58 ≤ k → (wkG R0 n R0) k = R0 k) := by
  intro n
  have hb := h.1
  unfold Iv0 at hb
  induction n with
  | zero => intro _; exact ⟨h, rfl, rfl, rfl, fun _ _ => rfl, fun _ _ => rfl⟩
  | succ n ih =>
    intro hn
    obtain ⟨i1, i2, i3, i4, i5, i6⟩ := ih (by omega)
    obtain ⟨e0, e1, e2⟩ := sw_0 (R := wkG R0 n R0) (p := n) (v := if 0 < sg (wkG R0 n R0) n - lessF R0 n (R0 2) then sg (wkG R0 n R0) n - lessF R0 n (R0 2) else 0) (by omega) (by omega)
    have hl := lessF_bd h (p := n) (by omega) (by omega) (R0 2)
    have hs := i1.2.1 n (by omega) (by omega)
    rw [wkG_s]
    refine ⟨i1.sw (by omega) (by omega) (by split <;> omega), e0.trans i2, e1.trans i3, e2.trans i4, fun u hu => ?_, fun k hk => ?_⟩
    · rw [(sw_kd (by omega) (by omega)).2.2, if_neg (by omega)]
      exact i5 u (by omega)
    · rw [wrt_ne (by omega)]; exact i6 k hk
theorem flG_dn {R : Rw} (h : Iv R) : ∀ n : Nat, Dn R (flG n R) := by
  intro n
  induction n with
  | zero => exact Dn.rf R
  | succ n ih =>
    rw [flG_s]
    split
    · split
      · exact ih
      · rename_i h2
        have hb := (h.dn ih).1
        unfold Iv0 at hb
        have hr := (heavF_rg (R := flG n R) hb.2.2.1 n).resolve_left h2
        exact ih.tr (fellF_dn (h.dn ih).to1 hr.1 hr.2)
    · exact ih
theorem dayF_ok {R : Rw} (h : Iv R) : Iv (dayF R) ∧ (dayF R) 0 = R 0 ∧ (dayF R) 1 = R 1 ∧ (dayF R) 2 = R 2 + 1 ∧ (∀ k : Nat, 58 ≤ k → (dayF R) k = R k) := by
  have hb := h.1
  unfold Iv0 at hb
  obtain ⟨e0, e1, e2, e3, e4⟩ := dw_all (R := R) (v := R 2 + 1)
  have hw := wkG_ok (h.dw (R 2 + 1)) (R 0).toNat (by rw [e0]; omega)
  obtain ⟨i1, i2, i3, i4, i5, i6⟩ := hw
  have hd := flG_dn i1 (R 0).toNat
  refine ⟨i1.dn hd, (hd.1.trans i2).trans e0, (hd.2.1.trans i3).trans e1, (hd.2.2.1.trans i4).trans e2, fun k hk => ?_⟩
  exact ((hd.2.2.2.2.2.2 k hk).trans (i6 k hk)).trans (wrt_ne (by omega))
theorem daysF_ok : ∀ (n : Nat) {R : Rw}, Iv R → Iv (daysF n R) ∧ (daysF n R) 0 = R 0 ∧ (daysF n R) 1 = R 1 ∧ (daysF n R) 2 = R 2 + n ∧ (∀ k : Nat, 58 ≤ k → (daysF n R) k = R k) := by
  intro n
  induction n with
  | zero => intro R h; exact ⟨h, rfl, rfl, (Int.add_zero _).symm, fun _ _ => rfl⟩
  | succ n ih =>
    intro R h
    obtain ⟨d1, d2, d3, d4, d5⟩ := dayF_ok h
    obtain ⟨i1, i2, i3, i4, i5⟩ := ih d1
    rw [daysF_s]
    exact ⟨i1, i2.trans d2, i3.trans d3, by rw [i4, d4]; omega, fun k hk => (i5 k hk).trans (d5 k hk)⟩
/-! the scratch row of the day -/
def set18 (σ : St) (g : Nat → Int) : St := fun t r k => if t = 18 ∧ r = 0 then g k else σ t r k
theorem s18_t (σ : St) (g : Nat → Int) {t : Nat} (h : t ≠ 18) : set18 σ g t = σ t := by funext r k; unfold set18; rw [if_neg (fun z => h z.1)]
theorem s18_at (σ : St) (g : Nat → Int) : set18 σ g 18 0 = g := by funext k; unfold set18; rw [if_pos ⟨rfl, rfl⟩]
theorem s18_s (σ : St) (g g' : Nat → Int) : set18 (set18 σ g) g' = set18 σ g' := by
  funext t r k
  unfold set18
  split <;> rfl
theorem s18_self (σ : St) : set18 σ (σ 18 0) = σ := by
  funext t r k
  unfold set18
  split
  · rename_i h; rw [h.1, h.2]
  · rfl
theorem up18 (σ : St) (k : Nat) (v : Int) : up σ 18 0 k v = set18 σ (wrt (σ 18 0) k v) := by
  funext t r j
  unfold up set18 wrt
  by_cases h : t = 18 ∧ r = 0
  · obtain ⟨rfl, rfl⟩ := h
    simp
  · rw [if_neg (fun z => h ⟨z.1, z.2.1⟩), if_neg h]
theorem up18s (σ : St) (g : Nat → Int) (k : Nat) (v : Int) : up (set18 σ g) 18 0 k v = set18 σ (wrt g k v) := by rw [up18, s18_at, s18_s]
theorem setR_18 (σ : St) (g : Nat → Int) (q : Nat) (R : Rw) : setR (set18 σ g) q R = set18 (setR σ q R) g := by
  funext t r k
  unfold setR set18
  dsimp only
  by_cases h : t = 17 ∧ r = q
  · rw [if_pos h, if_neg (fun z => by omega), if_pos h]
  · rw [if_neg h, if_neg h]
/-- a row and the scratch -/
def sR (σ : St) (q : Nat) (R : Rw) (g : Nat → Int) : St := set18 (setR σ q R) g
theorem sR_17 (σ : St) (q : Nat) (R : Rw) (g : Nat → Int) : sR σ q R g 17 q = R := by unfold sR; rw [s18_t _ _ (by decide), setR_at]
theorem sR_18 (σ : St) (q : Nat) (R : Rw) (g : Nat → Int) : sR σ q R g 18 0 = g := s18_at _ _
theorem sR_set (σ : St) (q : Nat) (R R' : Rw) (g : Nat → Int) : setR (sR σ q R g) q R' = sR σ q R' g := by unfold sR; rw [setR_18, setR_set]
theorem sR_up17 (σ : St) (q : Nat) (R : Rw) (g : Nat → Int) (k : Nat) (v : Int) : up (sR σ q R g) 17 q k v = sR σ q (wrt R k v) g := by rw [up17, sR_17, sR_set]
theorem sR_up18 (σ : St) (q : Nat) (R : Rw) (g : Nat → Int) (k : Nat) (v : Int) : up (sR σ q R g) 18 0 k v = sR σ q R (wrt g k v) := up18s _ _ _ _
theorem L_day1 (q : Nat) (σ : St) (R : Rw) (hR : Iv R) (hd : 0 ≤ R 2) (hd2 : R 2 ≤ 100000) : ∀ (n m : Nat) (g : Nat → Int) (u3 u4 : AV), (m : Int) + n = R 0 → (∀ j : Nat, j < m → g j = lessF R j (R 2)) →
    ∃ g' : Nat → Int, (∀ j : Nat, (j : Int) < R 0 → g' j = lessF R j (R 2)) ∧ Rx k_X5_day 9 [.inr (.inl (16, 0)), .inr (.inl (17, q)), .inl m, u3, u4] [] (sR σ q R g) = Rx k_X5_day 38 [.inr (.inl (16, 0)), .inr (.inl (17, q)), .inl 0, u3, u4] [] (sR σ q R g') := by
  have hb := hR.1
  unfold Iv0 at hb
  intro n
  induction n with
  | zero =>
    intro m g u3 u4 h1 hg
    refine ⟨g, fun j hj => hg j (by omega), ?_⟩
    rw [b_X5_day_9, if_neg (by rw [sR_17]; omega), b_X5_day_36]
  | succ n ih =>
    intro m g u3 u4 h1 hg
    have hp := hR.2.1 m (by omega) (by omega)
    obtain ⟨g', hg', e⟩ := ih (m + 1) (wrt g m (lessF R m (R 2))) u3 u4 (by omega) (fun j hj => by
      by_cases z : j = m
      · rw [wrt_eq z, z]
      · rw [wrt_ne z]; exact hg j (by omega))
    refine ⟨g', hg', ?_⟩
    have hc := C_lessBy q m (R 2) (sR σ q R g) (by rw [sR_17]; exact hR.to1) (by omega) (by omega) (by rw [sR_17]; omega) (by rw [sR_17]; omega) (by rw [sR_17]; omega)
    rw [b_X5_day_9, if_pos (by rw [sR_17]; omega), b_X5_day_16, sR_17, hc, sR_17]
    simp only [Option.bind_some, Option.toList_some, Option.toList_none, List.cons_append, List.nil_append, List.append_nil]
    rw [b_X5_day_29 _ _ _ _ _ _ _ (by omega) (by omega) (by omega) (by omega), sR_up18, ← e]
    rfl
theorem L_day2 (q : Nat) (σ : St) (R : Rw) (hR : Iv R) (g : Nat → Int) (hg : ∀ j : Nat, (j : Int) < R 0 → g j = lessF R j (R 2)) : ∀ (n m : Nat) (u3 u4 : AV), (m : Int) + n = R 0 →
    Rx k_X5_day 38 [.inr (.inl (16, 0)), .inr (.inl (17, q)), .inl m, u3, u4] [] (sR σ q (wkG R m R) g) = Rx k_X5_day 80 [.inr (.inl (16, 0)), .inr (.inl (17, q)), .inl 0, u3, u4] [] (sR σ q (wkG R (m + n) R) g) := by
  have hb := hR.1
  unfold Iv0 at hb
  intro n
  induction n with
  | zero =>
    intro m u3 u4 h1
    obtain ⟨i1, i2, i3, i4, i5, i6⟩ := wkG_ok hR m (by omega)
    rw [b_X5_day_38, if_neg (by rw [sR_17]; omega), b_X5_day_78]
    rfl
  | succ n ih =>
    intro m u3 u4 h1
    obtain ⟨i1, i2, i3, i4, i5, i6⟩ := wkG_ok hR m (by omega)
    have hl := lessF_bd hR (p := m) (by omega) (by omega) (R 2)
    have hs := i1.2.1 m (by omega) (by omega)
    have es : sR σ q (wkG R m R) g 17 q (3 + 3 * (m : Int) + 2).toNat = sg (wkG R m R) m := by rw [sR_17]; rfl
    have eg : sR σ q (wkG R m R) g 18 0 (m : Int).toNat = lessF R m (R 2) := by rw [sR_18]; exact hg m (by omega)
    rw [b_X5_day_38, if_pos (by rw [sR_17]; omega), b_X5_day_45, C_ofP _ _ (by omega) (by omega)]
    simp only [Option.bind_some, Option.toList_some, Option.toList_none, List.cons_append, List.nil_append, List.append_nil]
    rw [b_X5_day_50 _ _ _ _ _ _ _ (by omega) (by omega), C_ofP _ _ (by omega) (by omega)]
    simp only [Option.bind_some, Option.toList_some, Option.toList_none, List.cons_append, List.nil_append, List.append_nil]
    rw [b_X5_day_58 _ _ _ _ _ _ _ _ _ _ (by omega) (by omega) (by omega) (by omega) (by omega) (by omega) (by rw [es, eg]; omega) (by rw [es, eg]; omega), es, eg, C_most]
    simp only [Option.bind_some, Option.toList_some, Option.toList_none, List.cons_append, List.nil_append, List.append_nil]
    rw [b_X5_day_71 _ _ _ _ _ _ _ _ (by omega) (by omega) (by omega) (by omega), sR_up17, show m + (n + 1) = m + 1 + n by omega, ← ih (m + 1) u3 u4 (by omega), wkG_s]
    congr 2
    congr 1
    split <;> split <;> first | rfl | omega
theorem L_day3 (q : Nat) (σ : St) (R : Rw) (hR : Iv R) (g : Nat → Int) : ∀ (n m : Nat) (u3 u4 : AV), (m : Int) + n = R 0 →
    Rx k_X5_day 80 [.inr (.inl (16, 0)), .inr (.inl (17, q)), .inl m, u3, u4] [] (sR σ q (flG m R) g) = some (none, sR σ q (flG (m + n) R) g) := by
  have hb := hR.1
  unfold Iv0 at hb
  intro n
  induction n with
  | zero =>
    intro m u3 u4 h1
    have hd := flG_dn hR m
    rw [b_X5_day_80, if_neg (by rw [sR_17, hd.1]; omega), b_X5_day_127]
    rfl
  | succ n ih =>
    intro m u3 u4 h1
    have hd := flG_dn hR m
    have hI := hR.dn hd
    have hp := hI.2.1 m (by omega) (by rw [hd.1]; omega)
    have hb2 := hI.1
    unfold Iv0 at hb2
    rw [show m + (n + 1) = m + 1 + n by omega]
    rw [b_X5_day_80, if_pos (by rw [sR_17, hd.1]; omega), b_X5_day_87, C_spareOf _ _ _ (by rw [sR_17]; exact hI.to1) (by omega) (by omega) (by rw [sR_17]; omega) (by rw [sR_17]; omega), sR_17]
    simp only [Option.bind_some, Option.toList_some, Option.toList_none, List.cons_append, List.nil_append, List.append_nil]
    rw [b_X5_day_92]
    by_cases h2 : spareF (flG m R) m < 0
    · rw [if_pos h2, b_X5_day_95, C_heaviestOn _ _ _ (by rw [sR_17]; exact hI.to1), sR_17]
      simp only [Option.bind_some, Option.toList_some, Option.toList_none, List.cons_append, List.nil_append, List.append_nil]
      rw [b_X5_day_100]
      by_cases h3 : heavF (flG m R) m < 0
      · rw [if_pos h3, b_X5_day_110 _ _ _ _ _ (by omega) (by omega)]
        have e : flG (m + 1) R = flG m R := by rw [flG_s, if_pos h2, if_pos h3]
        rw [← e]
        exact ih (m + 1) _ _ (by omega)
      · have hr := (heavF_rg (R := flG m R) hb2.2.2.1 m).resolve_left h3
        rw [if_neg h3, b_X5_day_114, C_fells _ _ _ (by rw [sR_17]; exact hI.to1) hr.1 (by rw [sR_17]; exact hr.2), sR_17, sR_set]
        simp only [Option.bind_some, Option.toList_some, Option.toList_none, List.cons_append, List.nil_append, List.append_nil]
        rw [b_X5_day_119 _ _ _ _ _ _ (by omega) (by omega)]
        have e : flG (m + 1) R = (fellF (flG m R) (heavF (flG m R) m)).1 := by rw [flG_s, if_pos h2, if_neg h3]
        rw [← e]
        exact ih (m + 1) _ _ (by omega)
    · rw [if_neg h2, b_X5_day_103, if_pos (by decide), b_X5_day_110 _ _ _ _ _ (by omega) (by omega)]
      have e : flG (m + 1) R = flG m R := by rw [flG_s, if_neg h2]
      rw [← e]
      exact ih (m + 1) _ _ (by omega)
theorem C_day (q : Nat) (σ : St) (hR : Iv (σ 17 q)) (hd : 0 ≤ σ 17 q 2) (hd2 : σ 17 q 2 ≤ 50000) : ∃ g : Nat → Int, Rx k_X5_day 0 [.inr (.inl (16, 0)), .inr (.inl (17, q)), uns, uns, uns] [] σ = some (none, sR σ q (dayF (σ 17 q)) g) := by
  have hb := hR.1
  unfold Iv0 at hb
  have hR0 := hR.dw (σ 17 q 2 + 1)
  obtain ⟨e0, e1, e2, e3, e4⟩ := dw_all (R := σ 17 q) (v := σ 17 q 2 + 1)
  have es : up σ 17 q 2 (σ 17 q 2 + 1) = sR σ q (wrt (σ 17 q) 2 (σ 17 q 2 + 1)) (σ 18 0) := by
    rw [up17]
    unfold sR
    rw [← setR_18, s18_self]
  obtain ⟨g', hg', h1⟩ := L_day1 q σ (wrt (σ 17 q) 2 (σ 17 q 2 + 1)) hR0 (by rw [e2]; omega) (by rw [e2]; omega) (σ 17 q 0).toNat 0 (σ 18 0) uns uns (by rw [e0]; omega) (fun j hj => absurd hj (Nat.not_lt_zero j))
  have h2 := L_day2 q σ (wrt (σ 17 q) 2 (σ 17 q 2 + 1)) hR0 g' hg' (σ 17 q 0).toNat 0 uns uns (by rw [e0]; omega)
  obtain ⟨i1, i2, i3, i4, i5, i6⟩ := wkG_ok hR0 (σ 17 q 0).toNat (by rw [e0]; omega)
  have h3 := L_day3 q σ (wkG (wrt (σ 17 q) 2 (σ 17 q 2 + 1)) (σ 17 q 0).toNat (wrt (σ 17 q) 2 (σ 17 q 2 + 1))) i1 g' (σ 17 q 0).toNat 0 uns uns (by rw [i2, e0]; omega)
  rw [Nat.zero_add] at h2 h3
  refine ⟨g', ?_⟩
  rw [b_X5_day_0 _ _ _ _ _ (by omega) (by omega), es]
  exact (h1.trans h2).trans h3
