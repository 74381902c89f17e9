/-! the class's mind: what is tried in the second rack -/
abbrev Dk (R : Rw) : Prop := 0 ≤ R 2 ∧ R 2 ≤ 999
theorem RK.bc {σ : St} {R : Rw} (h : RK σ 0 R) : ∃ σ1, Rx k_X2_become 0 [.inr (.inl (7, 1)), .inr (.inl (7, 0))] [] σ = some (none, σ1) ∧ FR 1 σ σ1 ∧ RK σ1 1 R ∧ RK σ1 0 R := by
  obtain ⟨σ1, e, f, g⟩ := K_become h 1 (by decide)
  exact ⟨σ1, e, f, g, h.fr f (by decide)⟩
theorem K_behind {σ : St} {R : Rw} (h : RK σ 0 R) (hd : Dk R) {d : Int} (h0 : 0 ≤ d) (h1 : d ≤ 1000) : ∃ σ', Rx k_X1_behind 0 [.inr (.inl (1, 0)), .inl d] [] σ = some (some (.inr (.inl (7, 1))), σ') ∧ FR 1 σ σ' ∧ RK σ' 1 (daysF d.toNat R) := by
  obtain ⟨σ1, s1, f1, g1, _⟩ := h.bc
  obtain ⟨σ2, s2, f2, g2⟩ := K_passDays g1 h0 hd.1 (by have := hd.2; omega) uns
  refine ⟨σ2, ?_, f1.trans f2, g2⟩
  rw [b_X1_behind_0, s1]
  simp only [Option.bind_some, Option.toList_some, Option.toList_none, List.cons_append, List.nil_append, List.append_nil]
  rw [b_X1_behind_11, s2]
  simp only [Option.bind_some, Option.toList_some, Option.toList_none, List.cons_append, List.nil_append, List.append_nil]
  rw [b_X1_behind_19]
theorem and_bit0 (x k : Nat) : x &&& 2 ^ k = 0 ↔ ¬ x.testBit k = true := by
  constructor
  · intro h z
    have e : (x &&& 2 ^ k).testBit k = true := by rw [Nat.testBit_and, z, Nat.testBit_two_pow_self]; rfl
    rw [h, Nat.zero_testBit] at e
    cases e
  · intro h
    apply Nat.eq_of_testBit_eq
    intro i
    rw [Nat.testBit_and, Nat.testBit_two_pow, Nat.zero_testBit]
    by_cases e : k = i
    · subst e
      cases z : x.testBit k
      · rfl
      · exact absurd z h
    · rw [decide_eq_false e, Bool.and_false]
theorem down1 {R : Rw} {t : Int} (ht : isT R t) : upF R &&& 2 ^ t.toNat = 0 ↔ ¬ uq R t = 1 := by
  rw [and_bit0, upF_bit ht, decide_eq_true_eq]
theorem downG1 (mask n : Nat) (k : Int) (R : Rw) : downG 1 mask (n + 1) k R = if upF R &&& mask = 0 then k else downG 1 mask n (k + 1) (dayF R) := by
  by_cases c : upF R &&& mask = 0
  · rw [downG_s, if_pos (by rw [if_neg (by decide)]; exact c), if_pos c]
  · rw [downG_s, if_neg (by rw [if_neg (by decide)]; exact c), if_neg c]
theorem downG0 (mask n : Nat) (k : Int) (R : Rw) : downG 0 mask (n + 1) k R = if upF R &&& mask = mask then downG 0 mask n (k + 1) (dayF R) else k := by
  by_cases c : upF R &&& mask = mask
  · rw [downG_s, if_neg (by rw [if_pos rfl]; exact fun z => z c), if_pos c]
  · rw [downG_s, if_pos (by rw [if_pos rfl]; exact c), if_neg c]
theorem L_downFrom (t : Int) : ∀ (n m : Nat) (σ : St) (R : Rw), m + n = 100 → RK σ 1 R → isT R t → 0 ≤ R 2 → R 2 + n ≤ 20000 → ∃ σ', Rx k_X1_downFromThen 2 [.inr (.inl (1, 0)), .inl t, .inl (m : Int)] [] σ = some (some (.inl (downG 1 (2 ^ t.toNat) n m R)), σ') ∧ FR 1 σ σ' := by
  intro n
  induction n with
  | zero =>
    intro m σ R h1 hK ht h2 h3
    refine ⟨σ, ?_, FR.refl 1 σ⟩
    rw [b_X1_downFromThen_2, if_pos (by omega), b_X1_downFromThen_34]
    rfl
  | succ n ih =>
    intro m σ R h1 hK ht h2 h3
    have hd := dayF_ok hK.1
    rw [b_X1_downFromThen_2, if_neg (by omega), b_X1_downFromThen_8, K_isUp hK.2 hK.1.1, downG1]
    simp only [Option.bind_some, Option.toList_some, Option.toList_none, List.cons_append, List.nil_append, List.append_nil]
    rw [b_X1_downFromThen_16]
    by_cases hu : uq R t = 1
    · obtain ⟨σ1, s1, f1, g1⟩ := K_passDay hK h2 (by omega) uns uns
      obtain ⟨σ2, s2, f2⟩ := ih (m + 1) σ1 (dayF R) (by omega) g1 ⟨ht.1, by rw [hd.2.2.1]; exact ht.2⟩ (by omega) (by omega)
      refine ⟨σ2, ?_, f1.trans f2⟩
      rw [if_pos (show isT R t ∧ uq R t = 1 from ⟨ht, hu⟩), if_neg (by decide), b_X1_downFromThen_21, s1, if_neg (show ¬ upF R &&& 2 ^ t.toNat = 0 from fun z => (down1 ht).1 z hu)]
      simp only [Option.bind_some, Option.toList_some, Option.toList_none, List.cons_append, List.nil_append, List.append_nil]
      rw [(b_X1_downFromThen_28 (g0a := by omega) (g0b := by omega))]
      exact s2
    · refine ⟨σ, ?_, FR.refl 1 σ⟩
      rw [if_neg (show ¬ (isT R t ∧ uq R t = 1) from fun z => hu z.2), if_pos rfl, b_X1_downFromThen_19, if_pos ((down1 ht).2 hu)]
theorem K_downFrom {σ : St} {R : Rw} (h : RK σ 1 R) {t : Int} (ht : isT R t) (h0 : 0 ≤ R 2) (h1 : R 2 ≤ 10000) (u : AV) : ∃ σ', Rx k_X1_downFromThen 0 [.inr (.inl (1, 0)), .inl t, u] [] σ = some (some (.inl (downF R (2 ^ t.toNat) 1)), σ') ∧ FR 1 σ σ' := by
  rw [b_X1_downFromThen_0]
  exact L_downFrom t 100 0 σ R rfl h ht h0 (by omega)
theorem K_downBehind {σ : St} {R : Rw} (h : RK σ 0 R) (hd : Dk R) {t : Int} (ht : isT R t) : ∃ σ', Rx k_X1_downBehind 0 [.inr (.inl (1, 0)), .inl t] [] σ = some (some (.inl (downF R (2 ^ t.toNat) 1)), σ') ∧ FR 1 σ σ' := by
  obtain ⟨σ1, s1, f1, g1, _⟩ := h.bc
  obtain ⟨σ2, s2, f2⟩ := K_downFrom g1 ht hd.1 (by have := hd.2; omega) uns
  refine ⟨σ2, ?_, f1.trans f2⟩
  rw [b_X1_downBehind_0, s1]
  simp only [Option.bind_some, Option.toList_some, Option.toList_none, List.cons_append, List.nil_append, List.append_nil]
  rw [b_X1_downBehind_11, s2]
  simp only [Option.bind_some, Option.toList_some, Option.toList_none, List.cons_append, List.nil_append, List.append_nil]
  rw [b_X1_downBehind_16]
/-! flat, and the first that is down -/
theorem up_all {R : Rw} (x : Nat) (hx : upF R < 2 ^ x) : upF R &&& (2 ^ x - 1) = upF R := by rw [Nat.and_two_pow_sub_one_eq_mod, Nat.mod_eq_of_lt hx]
theorem L_flat (M : Nat) : ∀ (n m : Nat) (σ : St) (R : Rw), m + n = 100 → RK σ 1 R → R 1 = M → 0 ≤ R 2 → R 2 + n ≤ 20000 → ∃ σ', Rx k_X1_flatBehind 13 [.inr (.inl (1, 0)), .inl (m : Int)] [] σ = some (some (.inl (downG 1 (2 ^ M - 1) n m R)), σ') ∧ FR 1 σ σ' := by
  intro n
  induction n with
  | zero =>
    intro m σ R h1 hK hM h2 h3
    refine ⟨σ, ?_, FR.refl 1 σ⟩
    rw [b_X1_flatBehind_13, if_pos (by omega), b_X1_flatBehind_44]
    rfl
  | succ n ih =>
    intro m σ R h1 hK hM h2 h3
    have hd := dayF_ok hK.1
    have hlt : upF R < 2 ^ M := by
      have := upG_lt R (R 1).toNat
      rw [show (R 1).toNat = M by omega] at this
      unfold upF
      rw [show (R 1).toNat = M by omega]
      exact this
    rw [b_X1_flatBehind_13, if_neg (by omega), b_X1_flatBehind_19, hK.2.1.2.2.2, downG1, up_all M hlt]
    by_cases hu : upF R = 0
    · refine ⟨σ, ?_, FR.refl 1 σ⟩
      rw [if_pos (by omega), b_X1_flatBehind_29, if_pos hu]
    · obtain ⟨σ1, s1, f1, g1⟩ := K_passDay hK h2 (by omega) uns uns
      obtain ⟨σ2, s2, f2⟩ := ih (m + 1) σ1 (dayF R) (by omega) g1 (by rw [hd.2.2.1]; exact hM) (by omega) (by omega)
      refine ⟨σ2, ?_, f1.trans f2⟩
      rw [if_neg (by omega), b_X1_flatBehind_31, s1, if_neg hu]
      simp only [Option.bind_some, Option.toList_some, Option.toList_none, List.cons_append, List.nil_append, List.append_nil]
      rw [(b_X1_flatBehind_38 (g0a := by omega) (g0b := by omega))]
      exact s2
theorem K_flat {σ : St} {R : Rw} (h : RK σ 0 R) (hd : Dk R) (u : AV) : ∃ σ', Rx k_X1_flatBehind 0 [.inr (.inl (1, 0)), u] [] σ = some (some (.inl (downF R (2 ^ (R 1).toNat - 1) 1)), σ') ∧ FR 1 σ σ' := by
  have hb := h.1.1
  unfold Iv0 at hb
  have hd2 := hd.2
  obtain ⟨σ1, s1, f1, g1, _⟩ := h.bc
  obtain ⟨σ2, s2, f2⟩ := L_flat (R 1).toNat 100 0 σ1 R rfl g1 (by omega) hd.1 (by omega)
  refine ⟨σ2, ?_, f1.trans f2⟩
  rw [b_X1_flatBehind_0, s1]
  simp only [Option.bind_some, Option.toList_some, Option.toList_none, List.cons_append, List.nil_append, List.append_nil]
  rw [b_X1_flatBehind_11]
  exact s2
/-- none is up that was not -/
def sbU (R' R : Rw) : Prop := R' 1 = R 1 ∧ ∀ t, 0 ≤ t → uq R' t = 1 → uq R t = 1
theorem sbU.rf (R : Rw) : sbU R R := ⟨rfl, fun _ _ z => z⟩
theorem sbU.tr {A B C : Rw} (h : sbU A B) (k : sbU B C) : sbU A C := ⟨h.1.trans k.1, fun t a z => k.2 t a (h.2 t a z)⟩
theorem sbU.dn {A B : Rw} (d : Dn A B) : sbU B A := ⟨d.2.1, fun t a z => by
  rcases d.2.2.2.2.2.1 t a with e | e
  · rw [← e]; exact z
  · rw [e] at z; exact absurd z (by decide)⟩
theorem sbU.day {R : Rw} (h : Iv R) : sbU (dayF R) R := by
  have hb := h.1
  unfold Iv0 at hb
  obtain ⟨e0, e1, e2, e3, e4⟩ := dw_all (R := R) (v := R 2 + 1)
  have g := h.dw (R 2 + 1)
  obtain ⟨i1, i2, i3, i4, i5, i6⟩ := wkG_ok g (R 0).toNat (by rw [e0]; omega)
  have k := (wkG_kf _ g (R 0).toNat (by rw [e0]; omega)).2
  have s1 : sbU (wkG (wrt R 2 (R 2 + 1)) (R 0).toNat (wrt R 2 (R 2 + 1))) R := ⟨i3.trans e1, fun t a z => by rw [(k t a).2.2.2, (e4 t a).2.2.2] at z; exact z⟩
  exact (sbU.dn (flG_dn i1 (R 0).toNat)).tr s1
theorem sbU.days : ∀ (n : Nat) {R : Rw}, Iv R → sbU (daysF n R) R := by
  intro n
  induction n with
  | zero => intro R _; exact sbU.rf R
  | succ n ih =>
    intro R h
    rw [daysF_s]
    exact (ih (dayF_ok h).1).tr (sbU.day h)
theorem sbU.and {A B : Rw} (h : sbU A B) : upF A &&& upF B = upF A := by
  apply Nat.eq_of_testBit_eq
  intro i
  rw [Nat.testBit_and]
  cases e : (upF A).testBit i
  · rfl
  · have k := upF_b2.1 e
    rw [upF_b2.2 ⟨by rw [← h.1]; exact k.1, h.2 i (by omega) k.2⟩]
    rfl
theorem L_firstDown (B : Rw) : ∀ (n m : Nat) (σ : St) (R : Rw), m + n = 100 → RK σ 1 R → σ 7 0 3 = (upF B : Nat) → sbU R B → 0 ≤ R 2 → R 2 + n ≤ 20000 → ∃ σ', Rx k_X1_firstDownBehind 13 [.inr (.inl (1, 0)), .inl (m : Int)] [] σ = some (some (.inl (downG 0 (upF B) n m (dayF R))), σ') ∧ FR 1 σ σ' := by
  intro n
  induction n with
  | zero =>
    intro m σ R h1 hK hB hs h2 h3
    refine ⟨σ, ?_, FR.refl 1 σ⟩
    rw [b_X1_firstDownBehind_13, if_pos (by omega), b_X1_firstDownBehind_51]
    rfl
  | succ n ih =>
    intro m σ R h1 hK hB hs h2 h3
    have hd := dayF_ok hK.1
    obtain ⟨σ1, s1, f1, g1⟩ := K_passDay hK h2 (by omega) uns uns
    have hs1 := (sbU.day hK.1).tr hs
    have e0 : σ1 7 0 3 = (upF B : Nat) := by rw [f1.inst (by decide)]; exact hB
    rw [b_X1_firstDownBehind_13, if_neg (by omega), b_X1_firstDownBehind_19, s1, downG0, hs1.and]
    simp only [Option.bind_some, Option.toList_some, Option.toList_none, List.cons_append, List.nil_append, List.append_nil]
    rw [b_X1_firstDownBehind_26, g1.2.1.2.2.2, e0]
    by_cases hu : upF (dayF R) = upF B
    · obtain ⟨σ2, s2, f2⟩ := ih (m + 1) σ1 (dayF R) (by omega) g1 e0 hs1 (by omega) (by omega)
      refine ⟨σ2, ?_, f1.trans f2⟩
      rw [if_pos (by omega), (b_X1_firstDownBehind_45 (g0a := by omega) (g0b := by omega)), if_pos hu]
      exact s2
    · refine ⟨σ1, ?_, f1⟩
      rw [if_neg (by omega), b_X1_firstDownBehind_43, if_neg hu]
theorem K_firstDown {σ : St} {R : Rw} (h : RK σ 0 R) (hd : Dk R) (u : AV) : ∃ σ', Rx k_X1_firstDownBehind 0 [.inr (.inl (1, 0)), u] [] σ = some (some (.inl (downF R (upF R) 0)), σ') ∧ FR 1 σ σ' := by
  have hd2 := hd.2
  obtain ⟨σ1, s1, f1, g1, g0⟩ := h.bc
  obtain ⟨σ2, s2, f2⟩ := L_firstDown R 99 1 σ1 R rfl g1 g0.2.1.2.2.2 (sbU.rf R) hd.1 (by omega)
  refine ⟨σ2, ?_, f1.trans f2⟩
  have e : downF R (upF R) 0 = downG 0 (upF R) 99 1 (dayF R) := by
    unfold downF
    rw [downG0, if_pos (Nat.and_self _)]
    rfl
  rw [b_X1_firstDownBehind_0, s1, e]
  simp only [Option.bind_some, Option.toList_some, Option.toList_none, List.cons_append, List.nil_append, List.append_nil]
  rw [b_X1_firstDownBehind_11]
  exact s2
