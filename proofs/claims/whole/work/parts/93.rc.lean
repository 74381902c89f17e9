/-! a rack's changes -/
theorem RKp.w11 {σ : St} {q : Nat} {R : Rw} {L : Int → Int} {U : Int} (h : RKp σ q R L U) {p v : Int} (h0 : 0 ≤ p) : RKp (up σ 11 q p.toNat v) q R (fun x => if x = p then v else L x) U := by
  obtain ⟨h1, h2, h3, h4⟩ := h
  refine ⟨?_, fun x a b => ?_, fun x a b => ?_, fun x a b => ?_⟩
  · rw [up_t (s := 7) (by decide)]; exact h1
  · rw [up_t (s := 8) (by decide), up_t (s := 9) (by decide), up_t (s := 10) (by decide)]
    obtain ⟨a1, a2, a3, a4⟩ := h2 x a b
    refine ⟨a1, a2, a3, ?_⟩
    dsimp only
    by_cases e : x = p
    · rw [e, up_at, if_pos rfl]
    · rw [upx_k (by omega), if_neg e]; exact a4
  · rw [up_t (s := 12) (by decide), up_t (s := 13) (by decide), up_t (s := 14) (by decide)]; exact h3 x a b
  · rw [up_t (s := 15) (by decide)]; exact h4 x a b
theorem K_weigh {σ : St} {q : Nat} {R : Rw} {L : Int → Int} {U : Int} (h : RKp σ q R L U) (hI : Iv R) {t s : Int} (ht : isT R t) (hs : s = 1 ∨ s = -1) (u : AV) (hL : -1000 ≤ L (on R t) ∧ L (on R t) ≤ 1000) : ∃ σ', Rx k_X2_weigh 0 [.inr (.inl (7, q)), .inl t, .inl s, u] [] σ = some (none, σ') ∧ FR q σ σ' ∧ RKp σ' q R (fun p => L p + if on R t = p then s * wt R t else 0) U := by
  have hb := hI.1
  unfold Iv0 at hb
  have hT := hI.2.2.1 t (by omega) (by omega)
  obtain ⟨a1, a2, a3⟩ := h.2.2.1 t (by omega) (by omega)
  obtain ⟨p1, p2, p3, p4⟩ := h.2.1 (on R t) (by omega) (by omega)
  have hm : -9 ≤ s * wt R t ∧ s * wt R t ≤ 9 := by
    rcases hs with rfl | rfl <;> omega
  refine ⟨up σ 11 q (on R t).toNat (L (on R t) + s * wt R t), ?_, FR.up q σ (by decide) (by decide) _ _, ?_⟩
  · rw [b_X2_weigh_0, if_neg (show ¬ t < 0 by omega), b_X2_weigh_4, if_pos (show t < 10 by omega), (b_X2_weigh_11 (h0 := by omega) (h1 := by omega)), a3, if_neg (show ¬ on R t < 0 by omega), b_X2_weigh_22, if_pos (show on R t < 5 by omega), b_X2_weigh_27 (h0 := by omega) (h1 := by omega) (h2 := by omega) (h3 := by omega) (g0a := by rw [a1]; omega) (g0b := by rw [a1]; omega) (g1a := by rw [a1, p4]; omega) (g1b := by rw [a1, p4]; omega), a1, p4]
  · refine (h.w11 (by omega)).ld (fun p b1 b2 => ?_)
    by_cases e : p = on R t
    · rw [if_pos e, if_pos e.symm, e]
    · rw [if_neg e, if_neg (fun z => e z.symm), Int.add_zero]
theorem RKp.w14 {σ : St} {q : Nat} {R : Rw} {L : Int → Int} {U : Int} (h : RKp σ q R L U) {t p : Int} (h0 : 0 ≤ t) (h1 : t < R 1) (hb : Iv0 R) : RKp (up σ 14 q t.toNat p) q (wrt R (18 + 4 * t + 2).toNat p) L U := by
  unfold Iv0 at hb
  obtain ⟨w0, w1, w2, w3, w4⟩ := tw (R := R) (v := p) 2 h0 (by omega)
  obtain ⟨h1, h2, h3, h4⟩ := h
  refine ⟨?_, fun x a b => ?_, fun x a b => ?_, fun x a b => ?_⟩
  · rw [up_t (s := 7) (by decide), w0, w1, w2]; exact h1
  · rw [w0] at b
    obtain ⟨e1, e2, e3⟩ := w4 x a (by omega)
    rw [up_t (s := 8) (by decide), up_t (s := 9) (by decide), up_t (s := 10) (by decide), up_t (s := 11) (by decide), e1, e2, e3]
    exact h2 x a b
  · rw [w1] at b
    have e1 : wt (wrt R (18 + 4 * t + 2).toNat p) x = wt R x := wrt_ne (by omega)
    have e2 : pl (wrt R (18 + 4 * t + 2).toNat p) x = pl R x := wrt_ne (by omega)
    obtain ⟨a1, a2, a3⟩ := h3 x a b
    rw [up_t (s := 12) (by decide), up_t (s := 13) (by decide), e1, e2]
    refine ⟨a1, a2, ?_⟩
    by_cases e : x = t
    · rw [e, up_at]; exact (wrt_eq rfl).symm
    · rw [upx_k (by omega), a3]; exact (wrt_ne (by omega)).symm
  · rw [up_t (s := 15) (by decide), who_cg (by omega) w1 (fun u _ _ => wrt_ne (by omega))]; exact h4 x a b
theorem K_leanOn {σ : St} {q : Nat} {R : Rw} (h : RK σ q R) {t p : Int} (ht : isT R t) (hp : isP R p) : ∃ σ', Rx k_X2_leanOn 0 [.inr (.inl (7, q)), .inl t, .inl p] [] σ = some (some (.inl 1), σ') ∧ FR q σ σ' ∧ RK σ' q (wrt R (18 + 4 * t + 2).toNat p) := by
  have hI := h.1
  have hi := hI.1
  have hb := hI.1
  unfold Iv0 at hb
  obtain ⟨w0, w1, w2, w3, w4⟩ := tw (R := R) (v := p) 2 ht.1 (by omega)
  have hI2 : Iv (wrt R (18 + 4 * t + 2).toNat p) := hI.onw ht.1 ⟨hp.1, by omega⟩
  have hi2 := hI2.1
  have eq1 : ∀ u, 0 ≤ u → uq (wrt R (18 + 4 * t + 2).toNat p) u = uq R u := fun u _ => wrt_ne (by omega)
  have ew1 : ∀ u, 0 ≤ u → wt (wrt R (18 + 4 * t + 2).toNat p) u = wt R u := fun u _ => wrt_ne (by omega)
  have eo1 : ∀ u, 0 ≤ u → u ≠ t → on (wrt R (18 + 4 * t + 2).toNat p) u = on R u := fun u _ _ => wrt_ne (by omega)
  have eo2 : on (wrt R (18 + 4 * t + 2).toNat p) t = p := wrt_eq rfl
  have eU : upF (wrt R (18 + 4 * t + 2).toNat p) = upF R := upF_cg w1 (fun u a _ => eq1 u a)
  have eL : ∀ x, loadF (wrt R (18 + 4 * t + 2).toNat p) x = loadF R x + (cwF (wrt R (18 + 4 * t + 2).toNat p) t x - cwF R t x) := fun x => loadF_one x ht w1 (fun u a b => by unfold cwF; rw [eq1 u a, ew1 u a, eo1 u a b])
  have hT := hI.2.2.1 t ht.1 (by omega)
  have hT2 : isT (wrt R (18 + 4 * t + 2).toNat p) t := by have := ht.2; exact ⟨ht.1, by rw [w1]; omega⟩
  have start : Rx k_X2_leanOn 0 [.inr (.inl (7, q)), .inl t, .inl p] [] σ = Rx k_X2_leanOn 23 [.inr (.inl (7, q)), .inl t, .inl p] [.inl (if isT R t ∧ uq R t = 1 then 1 else 0)] σ := by
    rw [b_X2_leanOn_0, K_isThing h.2 hi, if_pos ht]
    simp only [Option.bind_some, Option.toList_some, Option.toList_none, List.cons_append, List.nil_append, List.append_nil]
    rw [b_X2_leanOn_5, if_neg (by decide), b_X2_leanOn_8, K_isPurpose h.2 hi, if_pos hp]
    simp only [Option.bind_some, Option.toList_some, Option.toList_none, List.cons_append, List.nil_append, List.append_nil]
    rw [b_X2_leanOn_13, if_neg (by decide), b_X2_leanOn_18, K_isUp h.2 hi]
    simp only [Option.bind_some, Option.toList_some, Option.toList_none, List.cons_append, List.nil_append, List.append_nil]
  by_cases hu : uq R t = 1
  · have l0 := loadF_bd hI.to1 (on R t)
    have l1 := loadF_bd hI.to1 p
    obtain ⟨σ1, e1, f1, g1⟩ := K_weigh h.2 hI ht (Or.inr rfl) uns (by omega)
    have g2 := g1.w14 (p := p) ht.1 (by omega) hi
    rw [← eU] at g2
    obtain ⟨σ3, e3, f3, g3⟩ := K_weigh g2 hI2 hT2 (s := 1) (Or.inl rfl) uns (by rw [eo2]; split <;> omega)
    refine ⟨σ3, ?_, (f1.trans (FR.up q σ1 (by decide) (by decide) _ _)).trans f3, hI2, ?_⟩
    · rw [start, if_pos ⟨ht, hu⟩, b_X2_leanOn_23, if_neg (by decide), b_X2_leanOn_26, e1]
      simp only [Option.bind_some, Option.toList_some, Option.toList_none, List.cons_append, List.nil_append, List.append_nil]
      rw [(b_X2_leanOn_32 (h0 := by omega) (h1 := by omega)), K_isUp g2 hi2, if_pos ⟨hT2, by rw [eq1 t ht.1]; exact hu⟩]
      simp only [Option.bind_some, Option.toList_some, Option.toList_none, List.cons_append, List.nil_append, List.append_nil]
      rw [b_X2_leanOn_44, if_neg (by decide), b_X2_leanOn_47, e3]
      simp only [Option.bind_some, Option.toList_some, Option.toList_none, List.cons_append, List.nil_append, List.append_nil]
      rw [b_X2_leanOn_53]
    · refine g3.ld (fun x a b => ?_)
      rw [eL x]
      unfold cwF
      rw [eq1 t ht.1, ew1 t ht.1, eo2]
      by_cases c1 : on R t = x
      · by_cases c2 : p = x
        · rw [if_pos c1, if_pos c2, if_pos ⟨hu, c2⟩, if_pos ⟨hu, c1⟩]; omega
        · rw [if_pos c1, if_neg c2, if_neg (fun z => c2 z.2), if_pos ⟨hu, c1⟩]; omega
      · by_cases c2 : p = x
        · rw [if_neg c1, if_pos c2, if_pos ⟨hu, c2⟩, if_neg (fun z => c1 z.2)]; omega
        · rw [if_neg c1, if_neg c2, if_neg (fun z => c2 z.2), if_neg (fun z => c1 z.2)]; omega
  · have g2 := h.2.w14 (p := p) ht.1 (by omega) hi
    rw [← eU] at g2
    refine ⟨_, ?_, FR.up q σ (t := 14) (by decide) (by decide) t.toNat p, hI2, g2.ld (fun x a b => ?_)⟩
    · rw [start, if_neg (fun z => hu z.2), b_X2_leanOn_23, if_pos rfl, (b_X2_leanOn_32 (h0 := by omega) (h1 := by omega)), K_isUp g2 hi2, if_neg (fun z => hu (by have := z.2; rw [eq1 t ht.1] at this; exact this))]
      simp only [Option.bind_some, Option.toList_some, Option.toList_none, List.cons_append, List.nil_append, List.append_nil]
      rw [b_X2_leanOn_44, if_pos rfl, b_X2_leanOn_53]
    · rw [eL x]
      unfold cwF
      rw [eq1 t ht.1, if_neg (fun z => hu z.1), if_neg (fun z => hu z.1)]
      omega
theorem K_leanNo {σ : St} {q : Nat} {R : Rw} (h : RK σ q R) {t p : Int} (hn : ¬ (isT R t ∧ isP R p)) : Rx k_X2_leanOn 0 [.inr (.inl (7, q)), .inl t, .inl p] [] σ = some (some (.inl 0), σ) := by
  rw [b_X2_leanOn_0, K_isThing h.2 h.1.1]
  simp only [Option.bind_some, Option.toList_some, Option.toList_none, List.cons_append, List.nil_append, List.append_nil]
  rw [b_X2_leanOn_5]
  by_cases ht : isT R t
  · rw [if_pos ht, if_neg (by decide), b_X2_leanOn_8, K_isPurpose h.2 h.1.1, if_neg (fun z => hn ⟨ht, z⟩)]
    simp only [Option.bind_some, Option.toList_some, Option.toList_none, List.cons_append, List.nil_append, List.append_nil]
    rw [b_X2_leanOn_13, if_pos rfl, b_X2_leanOn_16]
  · rw [if_neg ht, if_pos rfl, b_X2_leanOn_16]
/-! set up -/
theorem upF_set {R : Rw} {t : Int} (ht : isT R t) : upF (wrt R (18 + 4 * t + 3).toNat 1) = upF R ||| 2 ^ t.toNat := by
  have e1 : wrt R (18 + 4 * t + 3).toNat 1 1 = R 1 := wrt_ne (by omega)
  apply Nat.eq_of_testBit_eq
  intro i
  rw [Bool.eq_iff_iff, upF_b2, Nat.testBit_or, Bool.or_eq_true, upF_b2, e1, Nat.testBit_two_pow, decide_eq_true_eq, up_uq ht.1 (by omega)]
  by_cases e : (i : Int) = t
  · rw [if_pos e]
    constructor
    · exact fun _ => Or.inr (by omega)
    · exact fun _ => ⟨by omega, rfl⟩
  · rw [if_neg e]
    constructor
    · exact fun z => Or.inl z
    · rintro (z | z)
      · exact z
      · omega
theorem K_raise {σ : St} {q : Nat} {R : Rw} (h : RK σ q R) {t : Int} (ht : isT R t) : ∃ σ', Rx k_X2_raise 0 [.inr (.inl (7, q)), .inl t] [] σ = some (some (.inl 1), σ') ∧ FR q σ σ' ∧ RK σ' q (wrt R (18 + 4 * t + 3).toNat 1) := by
  have hI := h.1
  have hi := hI.1
  have hb := hI.1
  unfold Iv0 at hb
  have hT := hI.2.2.1 t ht.1 (by omega)
  have hI2 : Iv (wrt R (18 + 4 * t + 3).toNat 1) := hI.upw ht.1 (Or.inr rfl)
  by_cases hu : uq R t = 1
  · have e : wrt R (18 + 4 * t + 3).toNat 1 = R := by
      funext j
      by_cases hj : j = (18 + 4 * t + 3).toNat
      · rw [wrt_eq hj, hj]; exact hu.symm
      · rw [wrt_ne hj]
    refine ⟨σ, ?_, FR.refl q σ, by rw [e]; exact h⟩
    rw [b_X2_raise_0, K_isThing h.2 hi, if_pos ht]
    simp only [Option.bind_some, Option.toList_some, Option.toList_none, List.cons_append, List.nil_append, List.append_nil]
    rw [b_X2_raise_5, if_neg (by decide), b_X2_raise_8, K_isUp h.2 hi, if_pos ⟨ht, hu⟩]
    simp only [Option.bind_some, Option.toList_some, Option.toList_none, List.cons_append, List.nil_append, List.append_nil]
    rw [b_X2_raise_13, if_neg (by decide), b_X2_raise_34, K_isThing h.2 hi, if_pos ht]
    simp only [Option.bind_some, Option.toList_some, Option.toList_none, List.cons_append, List.nil_append, List.append_nil]
    rw [b_X2_raise_39 _ _ _ _ (by decide)]
  · obtain ⟨e0, e1, e2⟩ := up_0 (R := R) (v := 1) ht.1
    have hi2 := hI2.1
    have l0 := loadF_bd hI.to1 (on R t)
    have hlt := upF_lt10 hi
    have hp2 : 2 ^ t.toNat ≤ 2 ^ 10 := Nat.pow_le_pow_right (by decide) (by omega)
    have eb : bOr (upF R : Nat) (bShl 1 t) = (upF (wrt R (18 + 4 * t + 3).toNat 1) : Nat) := by
      have es := shl1 (k := t.toNat) (by omega)
      rw [show ((t.toNat : Nat) : Int) = t by omega] at es
      rw [es, bOr_nat (by omega) (by omega), upF_set ht]
    have g1 : RKp (up σ 7 q 3 (bOr (σ 7 q 3) (bShl 1 t))) q (wrt R (18 + 4 * t + 3).toNat 1) (loadF R) (upF (wrt R (18 + 4 * t + 3).toNat 1) : Nat) := by
      obtain ⟨h1, h2, h3, h4⟩ := h.2
      refine ⟨?_, fun x a b => ?_, fun x a b => ?_, fun x a b => ?_⟩
      · rw [upx_k (by decide), upx_k (by decide), upx_k (by decide), up_at, h1.2.2.2, eb, e0, e1, e2]
        exact ⟨h1.1, h1.2.1, h1.2.2.1, rfl⟩
      · rw [e0] at b
        obtain ⟨k1, k2, k3⟩ := up_kd (R := R) (v := 1) ht.1 a (show x < 5 by omega)
        rw [up_t (s := 8) (by decide), up_t (s := 9) (by decide), up_t (s := 10) (by decide), up_t (s := 11) (by decide), k1, k2, k3]
        exact h2 x a b
      · rw [e1] at b
        obtain ⟨k1, k2, k3⟩ := up_wt (R := R) (v := 1) ht.1 a
        rw [up_t (s := 12) (by decide), up_t (s := 13) (by decide), up_t (s := 14) (by decide), k1, k2, k3]
        exact h3 x a b
      · rw [up_t (s := 15) (by decide), who_cg (by omega) e1 (fun u a _ => (up_wt ht.1 a).2.1)]
        exact h4 x a b
    obtain ⟨k1, k2, k3⟩ := up_wt (R := R) (v := 1) ht.1 ht.1
    have ht2 : isT (wrt R (18 + 4 * t + 3).toNat 1) t := by have := ht.2; exact ⟨ht.1, by rw [e1]; omega⟩
    obtain ⟨σ2, s2, f2, g2⟩ := K_weigh g1 hI2 ht2 (s := 1) (Or.inl rfl) uns (by rw [k3]; omega)
    have g3 : RK σ2 q (wrt R (18 + 4 * t + 3).toNat 1) := by
      refine ⟨hI2, g2.ld (fun x a b => ?_)⟩
      rw [loadF_one x ht e1 (fun u a b => by unfold cwF; rw [(up_wt ht.1 a).1, (up_wt ht.1 a).2.2, up_uq ht.1 a, if_neg b])]
      unfold cwF
      rw [up_uq ht.1 ht.1, if_pos rfl, k1, k3, if_neg (show ¬ (uq R t = 1 ∧ on R t = x) from fun z => hu z.1)]
      by_cases c : on R t = x
      · rw [if_pos c, if_pos ⟨rfl, c⟩]; omega
      · rw [if_neg c, if_neg (show ¬ ((1 : Int) = 1 ∧ on R t = x) from fun z => c z.2)]; omega
    refine ⟨σ2, ?_, (FR.up q σ (t := 7) (by decide) (by decide) 3 _).trans f2, g3⟩
    rw [b_X2_raise_0, K_isThing h.2 hi, if_pos ht]
    simp only [Option.bind_some, Option.toList_some, Option.toList_none, List.cons_append, List.nil_append, List.append_nil]
    rw [b_X2_raise_5, if_neg (by decide), b_X2_raise_8, K_isUp h.2 hi, if_neg (fun z => hu z.2)]
    simp only [Option.bind_some, Option.toList_some, Option.toList_none, List.cons_append, List.nil_append, List.append_nil]
    rw [b_X2_raise_13, if_pos rfl, b_X2_raise_16, s2]
    simp only [Option.bind_some, Option.toList_some, Option.toList_none, List.cons_append, List.nil_append, List.append_nil]
    rw [b_X2_raise_34, K_isThing g3.2 hi2, if_pos ht2]
    simp only [Option.bind_some, Option.toList_some, Option.toList_none, List.cons_append, List.nil_append, List.append_nil]
    rw [b_X2_raise_39 _ _ _ _ (by decide)]
theorem K_raiseNo {σ : St} {q : Nat} {R : Rw} (h : RK σ q R) {t : Int} (ht : ¬ isT R t) : Rx k_X2_raise 0 [.inr (.inl (7, q)), .inl t] [] σ = some (some (.inl 0), σ) := by
  rw [b_X2_raise_0, K_isThing h.2 h.1.1, if_neg ht]
  simp only [Option.bind_some, Option.toList_some, Option.toList_none, List.cons_append, List.nil_append, List.append_nil]
  rw [b_X2_raise_5, if_pos rfl, b_X2_raise_34, K_isThing h.2 h.1.1, if_neg ht]
  simp only [Option.bind_some, Option.toList_some, Option.toList_none, List.cons_append, List.nil_append, List.append_nil]
  rw [b_X2_raise_39 _ _ _ _ (by decide)]
