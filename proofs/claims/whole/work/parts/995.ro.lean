/-! the class's mind: what was, judged, lots -/
theorem kf_all {R : Rw} {p k f : Int} (h0 : 0 ≤ p) (h5 : p < 5) : (wrt (wrt R (3 + 3 * p + 0).toNat k) (3 + 3 * p + 1).toNat f 0 = R 0 ∧ wrt (wrt R (3 + 3 * p + 0).toNat k) (3 + 3 * p + 1).toNat f 1 = R 1 ∧ wrt (wrt R (3 + 3 * p + 0).toNat k) (3 + 3 * p + 1).toNat f 2 = R 2) ∧ (∀ u, 0 ≤ u → kd (wrt (wrt R (3 + 3 * p + 0).toNat k) (3 + 3 * p + 1).toNat f) u = (if u = p then k else kd R u) ∧ fg (wrt (wrt R (3 + 3 * p + 0).toNat k) (3 + 3 * p + 1).toNat f) u = (if u = p then f else fg R u) ∧ sg (wrt (wrt R (3 + 3 * p + 0).toNat k) (3 + 3 * p + 1).toNat f) u = sg R u) ∧ (∀ t, 0 ≤ t → wt (wrt (wrt R (3 + 3 * p + 0).toNat k) (3 + 3 * p + 1).toNat f) t = wt R t ∧ pl (wrt (wrt R (3 + 3 * p + 0).toNat k) (3 + 3 * p + 1).toNat f) t = pl R t ∧ on (wrt (wrt R (3 + 3 * p + 0).toNat k) (3 + 3 * p + 1).toNat f) t = on R t ∧ uq (wrt (wrt R (3 + 3 * p + 0).toNat k) (3 + 3 * p + 1).toNat f) t = uq R t) := by
  refine ⟨⟨(wrt_ne (by omega)).trans (wrt_ne (by omega)), (wrt_ne (by omega)).trans (wrt_ne (by omega)), (wrt_ne (by omega)).trans (wrt_ne (by omega))⟩, fun u hu => ⟨?_, ?_, (wrt_ne (by omega)).trans (wrt_ne (by omega))⟩, fun t ht => ⟨(wrt_ne (by omega)).trans (wrt_ne (by omega)), (wrt_ne (by omega)).trans (wrt_ne (by omega)), (wrt_ne (by omega)).trans (wrt_ne (by omega)), (wrt_ne (by omega)).trans (wrt_ne (by omega))⟩⟩
  · by_cases e : u = p
    · rw [if_pos e]; exact (wrt_ne (by omega)).trans (wrt_eq (by rw [e]))
    · rw [if_neg e]; exact (wrt_ne (by omega)).trans (wrt_ne (by omega))
  · by_cases e : u = p
    · rw [if_pos e]; exact wrt_eq (by rw [e])
    · rw [if_neg e]; exact (wrt_ne (by omega)).trans (wrt_ne (by omega))
theorem RK.wkf {σ : St} {q : Nat} {R : Rw} (h : RK σ q R) {p k f : Int} (hp : isP R p) (hk : 0 ≤ k ∧ k ≤ 5) (hf : 0 ≤ f ∧ f ≤ 9) : RK (up (up σ 8 q p.toNat k) 9 q p.toNat f) q (wrt (wrt R (3 + 3 * p + 0).toNat k) (3 + 3 * p + 1).toNat f) := by
  have hb := h.1.1
  unfold Iv0 at hb
  obtain ⟨⟨e0, e1, e2⟩, e3, e4⟩ := kf_all (R := R) (k := k) (f := f) hp.1 (show p < 5 by have := hp.2; omega)
  obtain ⟨h1, h2, h3, h4⟩ := h.2
  refine ⟨h.1.kfw hp.1 (by have := hp.2; omega) hk hf, ?_, fun x a b => ?_, fun x a b => ?_, fun x a b => ?_⟩
  · rw [up_t (s := 7) (t := 9) (by decide), up_t (s := 7) (t := 8) (by decide), e0, e1, e2, upF_cg e1 (fun u a _ => (e4 u a).2.2.2)]; exact h1
  · rw [e0] at b
    obtain ⟨k1, k2, k3⟩ := e3 x a
    obtain ⟨a1, a2, a3, a4⟩ := h2 x a b
    rw [k1, k2, k3, loadF_cg x e1 (fun u a _ => by obtain ⟨y1, y2, y3, y4⟩ := e4 u a; unfold cwF; rw [y1, y3, y4]), upx_t (s := 8) (by decide), upx_t (s := 10) (by decide), upx_t (s := 10) (by decide), upx_t (s := 11) (by decide), upx_t (s := 11) (by decide)]
    by_cases e : x = p
    · rw [if_pos e, if_pos e, e, up_at, up_at]
      rw [e] at a3 a4
      exact ⟨rfl, rfl, a3, a4⟩
    · rw [if_neg e, if_neg e, upx_k (by have := hp.1; omega), upx_k (by have := hp.1; omega), upx_t (s := 9) (by decide)]
      exact ⟨a1, a2, a3, a4⟩
  · rw [e1] at b
    obtain ⟨y1, y2, y3, y4⟩ := e4 x a
    rw [up_t (s := 12) (t := 9) (by decide), up_t (s := 12) (t := 8) (by decide), up_t (s := 13) (t := 9) (by decide), up_t (s := 13) (t := 8) (by decide), up_t (s := 14) (t := 9) (by decide), up_t (s := 14) (t := 8) (by decide), y1, y2, y3]
    exact h3 x a b
  · rw [up_t (s := 15) (t := 9) (by decide), up_t (s := 15) (t := 8) (by decide), who_cg (by omega) e1 (fun u a _ => (e4 u a).2.1)]
    exact h4 x a b
theorem wwG_0 (V : Nat → Int) (p : Int) : ∀ (n j : Nat) (R : Rw), wwG V p n j R 0 = 0 := by
  intro n
  induction n with
  | zero => intro j R; rfl
  | succ n ih =>
    intro j R
    rw [wwG_s]
    split <;> exact ih _ _
theorem L_weak (V : Nat → Int) (M p x2 x3 : Int) (hM : M ≤ 16) : ∀ (n j : Nat) (σ : St) (R : Rw), (j : Int) + n = M → RK σ 1 R → isP R p → (∀ i : Nat, (i : Int) < M → σ 5 0 i = V i) → 0 ≤ R 2 → R 2 + n ≤ 20000 → ∃ σ', Rx k_X1_weakensAs 47 [.inr (.inl (1, 0)), .inl p, .inl x2, .inl x3, .inr (.inl (5, 0)), .inl M, .inl (j : Int)] [] σ = some (some (.inl (if wwG V p n j R 1 = 0 then 0 else 1)), σ') ∧ FR 1 σ σ' := by
  intro n
  induction n with
  | zero =>
    intro j σ R h1 hK hp hV h2 h3
    refine ⟨σ, ?_, FR.refl 1 σ⟩
    rw [b_X1_weakensAs_47, if_neg (show ¬ (j : Int) < M by omega), b_X1_weakensAs_94]
    rfl
  | succ n ih =>
    intro j σ R h1 hK hp hV h2 h3
    have hb := hK.1.1
    unfold Iv0 at hb
    obtain ⟨a1, a2, a3, a4⟩ := hK.2.2.1 p hp.1 (by have := hp.2; omega)
    have hd := dayF_ok hK.1
    rw [b_X1_weakensAs_47, if_pos (show (j : Int) < M by omega), b_X1_weakensAs_54, if_pos (show (j : Int) < 16 by omega), b_X1_weakensAs_62 (h0 := by have := hp.1; omega) (h1 := by have := hp.2; omega) (h2 := by omega) (h3 := by omega), a3, Int.toNat_natCast, hV j (by omega), wwG_s]
    by_cases e : sg R p = V j
    · obtain ⟨σ1, s1, f1, g1⟩ := K_passDay hK h2 (by omega) uns uns
      obtain ⟨σ2, s2, f2⟩ := ih (j + 1) σ1 (dayF R) (by omega) g1 ⟨hp.1, by rw [hd.2.1]; exact hp.2⟩ (fun i hi => by rw [f1.tag (Or.inl (by decide))]; exact hV i hi) (by omega) (by omega)
      refine ⟨σ2, ?_, f1.trans f2⟩
      rw [if_pos e, if_pos e, b_X1_weakensAs_81, s1]
      simp only [Option.bind_some, Option.toList_some, Option.toList_none, List.cons_append, List.nil_append, List.append_nil]
      rw [(b_X1_weakensAs_88 (g0a := by omega) (g0b := by omega))]
      exact s2
    · refine ⟨σ, ?_, FR.refl 1 σ⟩
      rw [if_neg e, if_neg e, b_X1_weakensAs_79, wwG_0, if_pos rfl]
theorem K_weakensAs {σ : St} {R : Rw} (h : RK σ 0 R) (hd : Dk R) (V : Nat → Int) {M p k f : Int} (hM0 : 0 ≤ M) (hM : M ≤ 16) (hp : isP R p) (hk : 0 ≤ k ∧ k ≤ 5) (hf : 0 ≤ f ∧ f ≤ 9) (hV : ∀ i : Nat, (i : Int) < M → σ 5 0 i = V i) (u : AV) : ∃ σ', Rx k_X1_weakensAs 0 [.inr (.inl (1, 0)), .inl p, .inl k, .inl f, .inr (.inl (5, 0)), .inl M, u] [] σ = some (some (.inl (if wwG V p M.toNat 0 (wrt (wrt R (3 + 3 * p + 0).toNat k) (3 + 3 * p + 1).toNat f) 1 = 0 then 0 else 1)), σ') ∧ FR 1 σ σ' := by
  have hb := h.1.1
  unfold Iv0 at hb
  have hd2 := hd.2
  have hd1 := hd.1
  obtain ⟨σ1, s1, f1, g1, _⟩ := h.bc
  obtain ⟨⟨e0, e1, e2⟩, e3, e4⟩ := kf_all (R := R) (k := k) (f := f) hp.1 (show p < 5 by have := hp.2; omega)
  have g2 := g1.wkf hp hk hf
  have f2 : FR 1 σ (up (up σ1 8 1 p.toNat k) 9 1 p.toNat f) := (f1.trans (FR.up 1 σ1 (by decide) (by decide) _ _)).trans (FR.up 1 _ (by decide) (by decide) _ _)
  obtain ⟨σ3, s3, f3⟩ := L_weak V M p k f hM M.toNat 0 (up (up σ1 8 1 p.toNat k) 9 1 p.toNat f) _ (by omega) g2 ⟨hp.1, by rw [e0]; exact hp.2⟩ (fun i hi => by rw [f2.tag (Or.inl (by decide))]; exact hV i hi) (by omega) (by omega)
  refine ⟨σ3, ?_, f2.trans f3⟩
  rw [b_X1_weakensAs_0, s1]
  simp only [Option.bind_some, Option.toList_some, Option.toList_none, List.cons_append, List.nil_append, List.append_nil]
  rw [b_X1_weakensAs_11, K_isPurpose g1.2 g1.1.1, if_pos hp]
  simp only [Option.bind_some, Option.toList_some, Option.toList_none, List.cons_append, List.nil_append, List.append_nil]
  rw [b_X1_weakensAs_19, if_neg (by decide), b_X1_weakensAs_24 (h0 := by have := hp.1; omega) (h1 := by have := hp.2; omega)]
  exact s3
theorem kfE {R : Rw} {p v : Int} (h0 : 0 ≤ p) : wrt (wrt R (3 + 3 * p + 0).toNat v) (3 + 3 * p + 1).toNat (fg R p) = wrt R (3 + 3 * p + 0).toNat v := by
  funext j
  by_cases hj : j = (3 + 3 * p + 1).toNat
  · rw [wrt_eq hj, wrt_ne (by omega), hj]; rfl
  · rw [wrt_ne hj]
theorem kfE2 {R : Rw} {p v : Int} (_h0 : 0 ≤ p) : wrt (wrt R (3 + 3 * p + 0).toNat (kd R p)) (3 + 3 * p + 1).toNat v = wrt R (3 + 3 * p + 1).toNat v := by
  have e : wrt R (3 + 3 * p + 0).toNat (kd R p) = R := by
    funext j
    by_cases hj : j = (3 + 3 * p + 0).toNat
    · rw [wrt_eq hj, hj]; rfl
    · rw [wrt_ne hj]
  rw [e]
theorem wwFl_c (S : Rw) (V : Nat → Int) (M : Nat) (p w v : Int) (h : wwFl S V M p w v = wwG V p M 0 (wrt S (3 + 3 * p + w).toNat v) 1) : wwFl S V M p w v = wwG V p M 0 (wrt S (3 + 3 * p + w).toNat v) 1 := h
theorem L_kinds {R : Rw} (hI : Iv R) (hd : Dk R) (V : Nat → Int) {M p : Int} (hM0 : 0 ≤ M) (hM : M ≤ 16) (hp : isP R p) : ∀ (n v b : Nat) (σ : St), v + n = 6 → b < 1024 → RK σ 0 R → σ 0 0 6 = M → (∀ i : Nat, (i : Int) < M → σ 5 0 i = V i) → ∃ σ', Rx k_X4_kindsThatFit 4 [.inr (.inl (0, 0)), .inl p, .inl (b : Int), .inl (v : Int)] [] σ = some (some (.inl (wwO R V M.toNat p 0 n v b : Nat)), σ') ∧ FR 1 σ σ' := by
  have hb := hI.1
  unfold Iv0 at hb
  have hP := hI.2.1 p hp.1 (by have := hp.2; omega)
  intro n
  induction n with
  | zero =>
    intro v b σ h1 hbb hK hc hV
    refine ⟨σ, ?_, FR.refl 1 σ⟩
    rw [b_X4_kindsThatFit_4, if_neg (by omega), b_X4_kindsThatFit_51]
    rfl
  | succ n ih =>
    intro v b σ h1 hbb hK hc hV
    obtain ⟨a1, a2, a3, a4⟩ := hK.2.2.1 p hp.1 (by have := hp.2; omega)
    obtain ⟨σ1, s1, f1⟩ := K_weakensAs hK hd V hM0 hM hp (k := (v : Int)) (f := fg R p) (by omega) (by omega) hV uns
    rw [kfE hp.1] at s1
    have hK1 := hK.fr f1 (by decide)
    have hc1 : σ1 0 0 6 = M := by rw [f1.tag (Or.inl (by decide))]; exact hc
    have hV1 : ∀ i : Nat, (i : Int) < M → σ1 5 0 i = V i := fun i hi => by rw [f1.tag (Or.inl (by decide))]; exact hV i hi
    have hp2 : 2 ^ v ≤ 2 ^ 9 := Nat.pow_le_pow_right (by decide) (by omega)
    have hor : b ||| 2 ^ v < 2 ^ 10 := Nat.or_lt_two_pow (by omega) (by omega)
    have eF : wwFl R V M.toNat p 0 v = wwG V p M.toNat 0 (wrt R (3 + 3 * p + 0).toNat v) 1 := rfl
    rw [b_X4_kindsThatFit_4, if_pos (by omega), b_X4_kindsThatFit_10 (h0 := by have := hp.1; omega) (h1 := by have := hp.2; omega), a2, hc, s1, wwO_s, eF]
    simp only [Option.bind_some, Option.toList_some, Option.toList_none, List.cons_append, List.nil_append, List.append_nil]
    rw [b_X4_kindsThatFit_36]
    by_cases e : wwG V p M.toNat 0 (wrt R (3 + 3 * p + 0).toNat v) 1 = 0
    · obtain ⟨σ2, s2, f2⟩ := ih (v + 1) b σ1 (by omega) hbb hK1 hc1 hV1
      refine ⟨σ2, ?_, f1.trans f2⟩
      rw [if_pos e, if_pos rfl, (b_X4_kindsThatFit_45 (g0a := by omega) (g0b := by omega)), if_pos e]
      exact s2
    · obtain ⟨σ2, s2, f2⟩ := ih (v + 1) (b ||| 2 ^ v) σ1 (by omega) (by omega) hK1 hc1 hV1
      refine ⟨σ2, ?_, f1.trans f2⟩
      rw [if_neg e, if_neg (by decide), (b_X4_kindsThatFit_39 (g0a := by omega) (g0b := by omega)), if_neg e, shl1 (by omega), bOr_nat (by omega) (by omega)]
      exact s2
theorem L_figures {R : Rw} (hI : Iv R) (hd : Dk R) (V : Nat → Int) {M p : Int} (hM0 : 0 ≤ M) (hM : M ≤ 16) (hp : isP R p) : ∀ (n v b : Nat) (σ : St), v + n = 10 → b < 1024 → RK σ 0 R → σ 0 0 6 = M → (∀ i : Nat, (i : Int) < M → σ 5 0 i = V i) → ∃ σ', Rx k_X4_figuresThatFit 4 [.inr (.inl (0, 0)), .inl p, .inl (b : Int), .inl (v : Int)] [] σ = some (some (.inl (wwO R V M.toNat p 1 n v b : Nat)), σ') ∧ FR 1 σ σ' := by
  have hb := hI.1
  unfold Iv0 at hb
  have hP := hI.2.1 p hp.1 (by have := hp.2; omega)
  intro n
  induction n with
  | zero =>
    intro v b σ h1 hbb hK hc hV
    refine ⟨σ, ?_, FR.refl 1 σ⟩
    rw [b_X4_figuresThatFit_4, if_pos (by omega), b_X4_figuresThatFit_51]
    rfl
  | succ n ih =>
    intro v b σ h1 hbb hK hc hV
    obtain ⟨a1, a2, a3, a4⟩ := hK.2.2.1 p hp.1 (by have := hp.2; omega)
    obtain ⟨σ1, s1, f1⟩ := K_weakensAs hK hd V hM0 hM hp (k := kd R p) (f := (v : Int)) (by omega) (by omega) hV uns
    rw [kfE2 hp.1] at s1
    have hK1 := hK.fr f1 (by decide)
    have hc1 : σ1 0 0 6 = M := by rw [f1.tag (Or.inl (by decide))]; exact hc
    have hV1 : ∀ i : Nat, (i : Int) < M → σ1 5 0 i = V i := fun i hi => by rw [f1.tag (Or.inl (by decide))]; exact hV i hi
    have hp2 : 2 ^ v ≤ 2 ^ 9 := Nat.pow_le_pow_right (by decide) (by omega)
    have hor : b ||| 2 ^ v < 2 ^ 10 := Nat.or_lt_two_pow (by omega) (by omega)
    have eF : wwFl R V M.toNat p 1 v = wwG V p M.toNat 0 (wrt R (3 + 3 * p + 1).toNat v) 1 := rfl
    rw [b_X4_figuresThatFit_4, if_neg (by omega), b_X4_figuresThatFit_10 (h0 := by have := hp.1; omega) (h1 := by have := hp.2; omega), a1, hc, s1, wwO_s, eF]
    simp only [Option.bind_some, Option.toList_some, Option.toList_none, List.cons_append, List.nil_append, List.append_nil]
    rw [b_X4_figuresThatFit_36]
    by_cases e : wwG V p M.toNat 0 (wrt R (3 + 3 * p + 1).toNat v) 1 = 0
    · obtain ⟨σ2, s2, f2⟩ := ih (v + 1) b σ1 (by omega) hbb hK1 hc1 hV1
      refine ⟨σ2, ?_, f1.trans f2⟩
      rw [if_pos e, if_pos rfl, (b_X4_figuresThatFit_45 (g0a := by omega) (g0b := by omega)), if_pos e]
      exact s2
    · obtain ⟨σ2, s2, f2⟩ := ih (v + 1) (b ||| 2 ^ v) σ1 (by omega) (by omega) hK1 hc1 hV1
      refine ⟨σ2, ?_, f1.trans f2⟩
      rw [if_neg e, if_neg (by decide), (b_X4_figuresThatFit_39 (g0a := by omega) (g0b := by omega)), if_neg e, shl1 (by omega), bOr_nat (by omega) (by omega)]
      exact s2
theorem L_misjudged (V : Nat → Int) (M : Int) (hM : M ≤ 16) : ∀ (n j : Nat) (σ : St) (R : Rw), (j : Int) + n = M → RK σ 1 R → (∀ i : Nat, (i : Int) < M → σ 5 0 i = V i) → 0 ≤ R 2 → R 2 + n ≤ 20000 → ∃ σ', Rx k_X1_firstMisjudged 13 [.inr (.inl (1, 0)), .inr (.inl (5, 0)), .inl M, .inl (j : Int)] [] σ = some (some (.inl (judG V n j R)), σ') ∧ FR 1 σ σ' := by
  intro n
  induction n with
  | zero =>
    intro j σ R h1 hK hV h2 h3
    refine ⟨σ, ?_, FR.refl 1 σ⟩
    rw [b_X1_firstMisjudged_13, if_neg (show ¬ (j : Int) < M by omega), b_X1_firstMisjudged_52]
    rfl
  | succ n ih =>
    intro j σ R h1 hK hV h2 h3
    have hd := dayF_ok hK.1
    rw [b_X1_firstMisjudged_13, if_pos (show (j : Int) < M by omega), b_X1_firstMisjudged_18, if_pos (show (j : Int) < 16 by omega), b_X1_firstMisjudged_24, K_standing hK.2 hK.1.1, judG_s]
    simp only [Option.bind_some, Option.toList_some, Option.toList_none, List.cons_append, List.nil_append, List.append_nil]
    rw [(b_X1_firstMisjudged_31 (h0 := by omega) (h1 := by omega)), Int.toNat_natCast, hV j (by omega)]
    by_cases e : ((pc10 (upF R) : Nat) : Int) = V j
    · obtain ⟨σ1, s1, f1, g1⟩ := K_passDay hK h2 (by omega) uns uns
      obtain ⟨σ2, s2, f2⟩ := ih (j + 1) σ1 (dayF R) (by omega) g1 (fun i hi => by rw [f1.tag (Or.inl (by decide))]; exact hV i hi) (by omega) (by omega)
      refine ⟨σ2, ?_, f1.trans f2⟩
      rw [if_pos e, if_pos e, b_X1_firstMisjudged_39, s1]
      simp only [Option.bind_some, Option.toList_some, Option.toList_none, List.cons_append, List.nil_append, List.append_nil]
      rw [(b_X1_firstMisjudged_46 (g0a := by omega) (g0b := by omega))]
      exact s2
    · refine ⟨σ, ?_, FR.refl 1 σ⟩
      rw [if_neg e, if_neg e, b_X1_firstMisjudged_37]
theorem K_misjudged {σ : St} {R : Rw} (h : RK σ 0 R) (hd : Dk R) (V : Nat → Int) {M : Int} (hM0 : 0 ≤ M) (hM : M ≤ 16) (hV : ∀ i : Nat, (i : Int) < M → σ 5 0 i = V i) (u : AV) : ∃ σ', Rx k_X1_firstMisjudged 0 [.inr (.inl (1, 0)), .inr (.inl (5, 0)), .inl M, u] [] σ = some (some (.inl (judG V M.toNat 0 R)), σ') ∧ FR 1 σ σ' := by
  have hd2 := hd.2
  obtain ⟨σ1, s1, f1, g1, _⟩ := h.bc
  obtain ⟨σ2, s2, f2⟩ := L_misjudged V M hM M.toNat 0 σ1 R (by omega) g1 (fun i hi => by rw [f1.tag (Or.inl (by decide))]; exact hV i hi) hd.1 (by omega)
  refine ⟨σ2, ?_, f1.trans f2⟩
  rw [b_X1_firstMisjudged_0, s1]
  simp only [Option.bind_some, Option.toList_some, Option.toList_none, List.cons_append, List.nil_append, List.append_nil]
  rw [b_X1_firstMisjudged_11]
  exact s2
/-! lots -/
theorem L_lotIK {P T : Int} (hP : 0 < P) (x1 x2 x3 x4 x6 : Int) : ∀ (n m : Nat) (R : Rw) (s : Int) (σ : St), (m : Int) + n = T → R 0 = P → R 1 = T → σ 7 0 0 = P → σ 7 0 1 = T → RK σ 1 R → ∃ σ', Rx k_X1_termsByLot 29 [.inr (.inl (1, 0)), .inl x1, .inl x2, .inl x3, .inl x4, .inl s, .inl x6, .inl (m : Int)] [] σ = Rx k_X1_termsByLot 76 [.inr (.inl (1, 0)), .inl x1, .inl x2, .inl x3, .inl x4, .inl (lotR P n m R s).2, .inl x6, .inl T] [] σ' ∧ FR 1 σ σ' ∧ RK σ' 1 (lotR P n m R s).1 := by
  intro n
  induction n with
  | zero =>
    intro m R s σ h1 hP0 hT h70 h71 hK
    refine ⟨σ, ?_, FR.refl 1 σ, hK⟩
    rw [b_X1_termsByLot_29, h71, if_neg (show ¬ (m : Int) < T by omega), show (m : Int) = T by omega]
    rfl
  | succ n ih =>
    intro m R s σ h1 hP0 hT h70 h71 hK
    have hb := hK.1.1
    unfold Iv0 at hb
    have hdr := drF_bd s hP
    obtain ⟨σ1, s1, f1, g1⟩ := K_leanOn hK (t := (m : Int)) (p := drF s P) ⟨by omega, by omega⟩ ⟨hdr.1, by omega⟩
    obtain ⟨e0, e1, e2⟩ := on_2 (R := R) (t := (m : Int)) (p := drF s P) (by omega)
    obtain ⟨σ2, s2, f2, g2⟩ := ih (m + 1) (wrt R (18 + 4 * (m : Int) + 2).toNat (drF s P)) (sdF s) σ1 (by omega) (e0.trans hP0) (e1.trans hT) (by rw [f1.inst (by decide)]; exact h70) (by rw [f1.inst (by decide)]; exact h71) g1
    have ed : (wr ((bAnd (sdF s) 2147483647).tdiv 256)).tmod P = drF s P := rfl
    refine ⟨σ2, ?_, f1.trans f2, by rw [lotR_s]; exact g2⟩
    rw [b_X1_termsByLot_29, h71, if_pos (show (m : Int) < T by omega), b_X1_termsByLot_41, b_X1_nextSeed_0, show wr ((wr (s * 1664525)) + 1013904223) = sdF s from rfl]
    simp only [Option.bind_some, Option.toList_some, Option.toList_none, List.cons_append, List.nil_append, List.append_nil]
    rw [b_X1_termsByLot_46, h70, b_X1_drawBelow_0, if_pos hP, (b_X1_drawBelow_4 (h0 := by omega)), ed]
    simp only [Option.bind_some, Option.toList_some, Option.toList_none, List.cons_append, List.nil_append, List.append_nil]
    rw [b_X1_termsByLot_66, s1]
    simp only [Option.bind_some, Option.toList_some, Option.toList_none, List.cons_append, List.nil_append, List.append_nil]
    rw [(b_X1_termsByLot_69 (g0a := by omega) (g0b := by omega)), lotR_s]
    exact s2
theorem L_lotOK {R : Rw} (hI : Iv R) (hd : Dk R) (hP : 0 < R 0) (N x2 w : Int) (hN : N ≤ 20) : ∀ (n m : Nat) (a s : Int) (u7 : AV) (σ : St), (m : Int) + n = N → 0 ≤ a → a ≤ 500 * m → RK σ 0 R → ∃ σ', Rx k_X1_termsByLot 9 [.inr (.inl (1, 0)), .inl N, .inl x2, .inl w, .inl a, .inl s, .inl (m : Int), u7] [] σ = some (some (.inl (lotO R w n s a)), σ') ∧ FR 1 σ σ' := by
  have hb := hI.1
  unfold Iv0 at hb
  have hd1 := hd.1
  have hd2 := hd.2
  intro n
  induction n with
  | zero =>
    intro m a s u7 σ h1 ha0 ha hK
    refine ⟨σ, ?_, FR.refl 1 σ⟩
    rw [b_X1_termsByLot_9, if_neg (show ¬ (m : Int) < N by omega), b_X1_termsByLot_117]
    rfl
  | succ n ih =>
    intro m a s u7 σ h1 ha0 ha hK
    obtain ⟨σ1, s1, f1, g1, g10⟩ := hK.bc
    obtain ⟨σ2, s2, f2, g2⟩ := L_lotIK hP N x2 w a (m : Int) (R 1).toNat 0 R s σ1 (by omega) rfl rfl g10.2.1.1 g10.2.1.2.1 g1
    obtain ⟨i1, i2, i3, i4, i5⟩ := lotR_ok hP (R 1).toNat 0 R s (by omega) hI rfl
    obtain ⟨σ3, s3, f3, g3⟩ := K_passDays g2 (d := 20) (by decide) (by omega) (by omega) uns
    have f4 := (f1.trans f2).trans f3
    have hK3 := hK.fr f4 (by decide)
    have hu := updF_bd (lotR (R 0) (R 1).toNat 0 R s).1 20
    have hs := strF_bd g3.1
    rw [show ((0 : Nat) : Int) = 0 from rfl] at s2
    rw [b_X1_termsByLot_9, if_pos (show (m : Int) < N by omega), b_X1_termsByLot_15, s1, lotO_s]
    simp only [Option.bind_some, Option.toList_some, Option.toList_none, List.cons_append, List.nil_append, List.append_nil]
    rw [b_X1_termsByLot_26, s2, b_X1_termsByLot_76, s3]
    simp only [Option.bind_some, Option.toList_some, Option.toList_none, List.cons_append, List.nil_append, List.append_nil]
    rw [b_X1_termsByLot_85]
    by_cases hw : w = 0
    · have eV : lotV w (lotR (R 0) (R 1).toNat 0 R s).1 = updF (lotR (R 0) (R 1).toNat 0 R s).1 20 := if_pos hw
      obtain ⟨σ5, s5, f5⟩ := ih (m + 1) (a + lotV w (lotR (R 0) (R 1).toNat 0 R s).1) (lotR (R 0) (R 1).toNat 0 R s).2 (.inl (R 1)) σ3 (by omega) (by omega) (by omega) hK3
      refine ⟨σ5, ?_, f4.trans f5⟩
      have eK := K_standing g3.2 g3.1.1
      rw [show ((pc10 (upF (daysF (20 : Int).toNat (lotR (R 0) (R 1).toNat 0 R s).1)) : Nat) : Int) = updF (lotR (R 0) (R 1).toNat 0 R s).1 20 from rfl, ← eV] at eK
      rw [if_pos hw, b_X1_termsByLot_91, eK]
      simp only [Option.bind_some, Option.toList_some, Option.toList_none, List.cons_append, List.nil_append, List.append_nil]
      rw [(b_X1_termsByLot_98 (g0a := by omega) (g0b := by omega) (g1a := by omega) (g1b := by omega))]
      exact s5
    · have eV : lotV w (lotR (R 0) (R 1).toNat 0 R s).1 = strF (daysF 20 (lotR (R 0) (R 1).toNat 0 R s).1) := if_neg hw
      have hs2 : 0 ≤ lotV w (lotR (R 0) (R 1).toNat 0 R s).1 ∧ lotV w (lotR (R 0) (R 1).toNat 0 R s).1 ≤ 495 := by rw [eV]; exact hs
      obtain ⟨σ5, s5, f5⟩ := ih (m + 1) (a + lotV w (lotR (R 0) (R 1).toNat 0 R s).1) (lotR (R 0) (R 1).toNat 0 R s).2 (.inl (R 1)) σ3 (by omega) (by omega) (by omega) hK3
      refine ⟨σ5, ?_, f4.trans f5⟩
      have eK := K_allStrength g3.2 g3.1 uns uns
      rw [show strF (daysF (20 : Int).toNat (lotR (R 0) (R 1).toNat 0 R s).1) = strF (daysF 20 (lotR (R 0) (R 1).toNat 0 R s).1) from rfl, ← eV] at eK
      rw [if_neg hw, b_X1_termsByLot_101, eK]
      simp only [Option.bind_some, Option.toList_some, Option.toList_none, List.cons_append, List.nil_append, List.append_nil]
      rw [(b_X1_termsByLot_108 (g0a := by omega) (g0b := by omega) (g1a := by omega) (g1b := by omega))]
      exact s5
theorem K_termsByLot {σ : St} {R : Rw} (h : RK σ 0 R) (hd : Dk R) (hP : 0 < R 0) {N z w : Int} (hN0 : 0 ≤ N) (hN : N ≤ 20) (u4 u5 u6 u7 : AV) : ∃ σ', Rx k_X1_termsByLot 0 [.inr (.inl (1, 0)), .inl N, .inl z, .inl w, u4, u5, u6, u7] [] σ = some (some (.inl (lotA R N z w)), σ') ∧ FR 1 σ σ' := by
  obtain ⟨σ1, s1, f1⟩ := L_lotOK h.1 hd hP N z w hN N.toNat 0 0 z u7 σ (by omega) (Int.le_refl 0) (by omega) h
  refine ⟨σ1, ?_, f1⟩
  rw [b_X1_termsByLot_0]
  exact s1
