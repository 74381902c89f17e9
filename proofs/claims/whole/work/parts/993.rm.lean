/-! the class's mind: places, thieves, two who push -/
theorem pl_2 {R : Rw} {t p : Int} (h : 0 ≤ t) : wrt R (18 + 4 * t + 1).toNat p 0 = R 0 ∧ wrt R (18 + 4 * t + 1).toNat p 1 = R 1 ∧ wrt R (18 + 4 * t + 1).toNat p 2 = R 2 := ⟨wrt_ne (by omega), wrt_ne (by omega), wrt_ne (by omega)⟩
theorem bplN_tp {R : Rw} (h : Iv R) {t c : Int} (ht : isT R t) (hu : uq R t = 1) (hc : 0 ≤ c ∧ c ≤ 19) (hf : whoF R c < 0 ∨ whoF R c = t) : tpN (wrt R (18 + 4 * t + 1).toNat c) t = bplN R t c ∧ 0 ≤ bplN R t c ∧ bplN R t c ≤ 10 := by
  have hI := h.mv ht hc hf
  obtain ⟨e0, e1, e2⟩ := pl_2 (R := R) (p := c) ht.1
  have ht2 : isT (wrt R (18 + 4 * t + 1).toNat c) t := ⟨ht.1, by rw [e1]; exact ht.2⟩
  have hu2 : uq (wrt R (18 + 4 * t + 1).toNat c) t = 1 := (wrt_ne (by have := ht.1; omega)).trans hu
  obtain ⟨_, _, _, _, _, x4⟩ := tp_ok hI t
  have k := (tp_up ht2 hu2).1
  have hp := pcG_le (tpX (wrt R (18 + 4 * t + 1).toNat c) t) 10
  unfold pc10 at x4
  unfold bplN
  rw [← k, x4]
  exact ⟨rfl, by omega, by omega⟩
theorem K_felledFrom {σ : St} {R : Rw} (h : RK σ 0 R) {t c : Int} (ht : isT R t) (hu : uq R t = 1) (hc : 0 ≤ c ∧ c ≤ 19) (hf : whoF R c < 0 ∨ whoF R c = t) : ∃ σ', Rx k_X1_felledFrom 0 [.inr (.inl (1, 0)), .inl t, .inl c] [] σ = some (some (.inl (bplN R t c)), σ') ∧ FR 1 σ σ' := by
  obtain ⟨σ1, s1, f1, g1, _⟩ := h.bc
  obtain ⟨σ2, s2, f2, g2⟩ := K_moveTo g1 ht hc hf
  obtain ⟨k1, k2⟩ := K_felledN g2.2 g2.1 t
  rw [(bplN_tp h.1 ht hu hc hf).1] at k2
  refine ⟨σ2, ?_, f1.trans f2⟩
  rw [b_X1_felledFrom_0, s1]
  simp only [Option.bind_some, Option.toList_some, Option.toList_none, List.cons_append, List.nil_append, List.append_nil]
  rw [b_X1_felledFrom_11, s2]
  simp only [Option.bind_some, Option.toList_some, Option.toList_none, List.cons_append, List.nil_append, List.append_nil]
  rw [b_X1_felledFrom_20, k1]
  simp only [Option.bind_some, Option.toList_some, Option.toList_none, List.cons_append, List.nil_append, List.append_nil]
  rw [b_X1_felledFrom_29, k2]
  simp only [Option.bind_some, Option.toList_some, Option.toList_none, List.cons_append, List.nil_append, List.append_nil]
  rw [b_X1_felledFrom_32]
theorem L_safest {R : Rw} (hI : Iv R) {t : Int} (ht : isT R t) (hu : uq R t = 1) : ∀ (n : Nat) (c f y x : Int) (u5 : AV) (σ : St), 0 ≤ c → c + n = 20 → ((y = x ∧ x ≤ 10) ∨ (y = 11 ∧ x = 1000000000)) → RK σ 0 R → ∃ σ', Rx k_X1_safestPlace 9 [.inr (.inl (1, 0)), .inl t, .inl f, .inl y, .inl c, u5] [] σ = some (some (.inl (bplG R t n c f x).1), σ') ∧ FR 1 σ σ' := by
  intro n
  induction n with
  | zero =>
    intro c f y x u5 σ h0 h1 hx hK
    refine ⟨σ, ?_, FR.refl 1 σ⟩
    rw [b_X1_safestPlace_9, if_neg (show ¬ c < 20 by omega), b_X1_safestPlace_61]
    rfl
  | succ n ih =>
    intro c f y x u5 σ h0 h1 hx hK
    rw [b_X1_safestPlace_9, if_pos (show c < 20 by omega), b_X1_safestPlace_16, K_isFreeFor hK.2 hI.1, bplG_s]
    simp only [Option.bind_some, Option.toList_some, Option.toList_none, List.cons_append, List.nil_append, List.append_nil]
    rw [b_X1_safestPlace_26]
    by_cases hf : whoF R c < 0 ∨ whoF R c = t
    · obtain ⟨σ1, s1, f1⟩ := K_felledFrom hK ht hu (c := c) ⟨h0, by omega⟩ hf
      obtain ⟨_, b1, b2⟩ := bplN_tp hI ht hu (c := c) ⟨h0, by omega⟩ hf
      have hK1 := hK.fr f1 (by decide)
      rw [if_pos (show (0 ≤ c ∧ c ≤ 19) ∧ (whoF R c < 0 ∨ whoF R c = t) from ⟨by omega, hf⟩), if_neg (by decide), b_X1_safestPlace_29, s1]
      simp only [Option.bind_some, Option.toList_some, Option.toList_none, List.cons_append, List.nil_append, List.append_nil]
      rw [b_X1_safestPlace_36]
      by_cases hl : bplN R t c < x
      · obtain ⟨σ2, s2, f2⟩ := ih (c + 1) c (bplN R t c) (bplN R t c) (.inl (bplN R t c)) σ1 (by omega) (by omega) (Or.inl ⟨rfl, b2⟩) hK1
        exact ⟨σ2, by rw [if_pos (show bplN R t c < y by omega), (b_X1_safestPlace_49 (g0a := by omega) (g0b := by omega)), s2, if_pos ⟨hf, hl⟩], f1.trans f2⟩
      · obtain ⟨σ2, s2, f2⟩ := ih (c + 1) f y x (.inl (bplN R t c)) σ1 (by omega) (by omega) hx hK1
        exact ⟨σ2, by rw [if_neg (show ¬ bplN R t c < y by omega), (b_X1_safestPlace_55 (g0a := by omega) (g0b := by omega)), s2, if_neg (fun z => hl z.2)], f1.trans f2⟩
    · obtain ⟨σ2, s2, f2⟩ := ih (c + 1) f y x (.inl 11) σ (by omega) (by omega) hx hK
      refine ⟨σ2, ?_, f2⟩
      rw [if_neg (show ¬ ((0 ≤ c ∧ c ≤ 19) ∧ (whoF R c < 0 ∨ whoF R c = t)) from fun z => hf z.2), if_pos rfl, b_X1_safestPlace_39, if_neg (show ¬ 11 < y by omega), (b_X1_safestPlace_55 (g0a := by omega) (g0b := by omega)), s2, if_neg (fun z => hf z.1)]
theorem K_safestPlace {σ : St} {R : Rw} (h : RK σ 0 R) {t : Int} (ht : isT R t) (hu : uq R t = 1) (u2 u3 u4 u5 : AV) : ∃ σ', Rx k_X1_safestPlace 0 [.inr (.inl (1, 0)), .inl t, u2, u3, u4, u5] [] σ = some (some (.inl (bplG R t 20 0 (-9) 1000000000).1), σ') ∧ FR 1 σ σ' := by
  rw [b_X1_safestPlace_0]
  exact L_safest h.1 ht hu 20 0 (-9) 11 1000000000 u5 σ (Int.le_refl 0) (by omega) (Or.inr ⟨rfl, rfl⟩) h
theorem bplG_ok {R : Rw} (hI : Iv R) {t : Int} (ht : isT R t) (hu : uq R t = 1) : ∀ (n : Nat) (c f x : Int), 0 ≤ c → c + n = 20 → (((0 ≤ f ∧ f ≤ 19) ∧ (whoF R f < 0 ∨ whoF R f = t) ∧ x = bplN R t f) ∨ (c ≤ pl R t ∧ x = 1000000000)) → (0 ≤ (bplG R t n c f x).1 ∧ (bplG R t n c f x).1 ≤ 19) ∧ (whoF R (bplG R t n c f x).1 < 0 ∨ whoF R (bplG R t n c f x).1 = t) ∧ (bplG R t n c f x).2 = bplN R t (bplG R t n c f x).1 := by
  have hb := hI.1
  unfold Iv0 at hb
  have hT := hI.2.2.1 t ht.1 (by have := ht.2; omega)
  intro n
  induction n with
  | zero =>
    intro c f x h0 h1 h
    rcases h with h | h
    · exact h
    · omega
  | succ n ih =>
    intro c f x h0 h1 h
    rw [bplG_s]
    by_cases e : (whoF R c < 0 ∨ whoF R c = t) ∧ bplN R t c < x
    · rw [if_pos e]
      exact ih _ _ _ (by omega) (by omega) (Or.inl ⟨by omega, e.1, rfl⟩)
    · rw [if_neg e]
      refine ih _ _ _ (by omega) (by omega) ?_
      rcases h with h | h
      · exact Or.inl h
      · right
        refine ⟨?_, h.2⟩
        by_cases ec : c = pl R t
        · have w := who_un hI ht ec.symm
          have := (bplN_tp hI ht hu (c := c) (by omega) (Or.inr w)).2.2
          exact absurd ⟨Or.inr w, by omega⟩ e
        · omega
/-! thieves -/
theorem push_tp {R : Rw} (hb : Iv0 R) (fl : Int) : pushF R fl = tpF R (leastF R fl) := by
  have hc : leastF R fl = -9 ∨ (isT R (leastF R fl) ∧ uq R (leastF R fl) = 1) := by
    unfold leastF
    unfold Iv0 at hb
    have key : ∀ (n : Nat) (c : Int), leastG R fl n c = -9 ∨ (isT R (leastG R fl n c) ∧ uq R (leastG R fl n c) = 1) := by
      intro n
      induction n with
      | zero => intro c; exact Or.inl rfl
      | succ n ih =>
        intro c
        rw [leastG_s]
        by_cases e : 0 ≤ whoF R c ∧ uq R (whoF R c) = 1 ∧ (fl = 0 → spareF R (on R (whoF R c)) ≤ 0)
        · rw [if_pos e]
          have := who_spec (R := R) hb.2.2.1 c
          exact Or.inr ⟨by omega, e.2.1⟩
        · rw [if_neg e]
          exact ih (c + 1)
    exact key 20 0
  unfold pushF tpF
  rcases hc with k | k
  · rw [k, if_pos (by decide), if_neg (fun z => by have := z.1.1; omega)]
  · rw [if_neg (show ¬ leastF R fl < 0 by have := k.1.1; omega), if_pos k]
theorem least_c {R : Rw} (hb : Iv0 R) (fl : Int) : leastF R fl = -9 ↔ leastF R fl < 0 := by
  unfold Iv0 at hb
  have := leastF_bd (R := R) hb.2.2.1 fl
  omega
theorem K_st {σ : St} {q : Nat} {R : Rw} (h : RK σ q R) (h0 : 0 ≤ R 2) (h1 : R 2 ≤ 100000) {fl t : Int} (ht : leastF R fl = t) : ∃ σ1 σ2, Rx k_X2_topple 0 [.inr (.inl (7, q)), .inl t, uns, uns] [] σ = some (some (.inl (tpN R t)), σ1) ∧ Rx k_X2_passDay 0 [.inr (.inl (7, q)), uns, uns] [] σ1 = some (none, σ2) ∧ FR q σ σ2 ∧ RK σ2 q (stF R fl) := by
  obtain ⟨σ1, s1, f1, g1⟩ := K_topple h t uns uns
  obtain ⟨d, _⟩ := tp_ok h.1 t
  obtain ⟨σ2, s2, f2, g2⟩ := K_passDay g1 (by rw [d.2.2.1]; exact h0) (by rw [d.2.2.1]; exact h1) uns uns
  refine ⟨σ1, σ2, s1, s2, f1.trans f2, ?_⟩
  unfold stF
  rw [push_tp h.1.1, ht]
  exact g2
theorem L_robbedK (N : Int) (hN : N ≤ 1000) : ∀ (n m : Nat) (σ : St) (R : Rw), (m : Int) + n = N → RK σ 1 R → 0 ≤ R 2 → R 2 + n ≤ 20000 → ∃ σ', Rx k_X1_standingRobbed 13 [.inr (.inl (1, 0)), .inl N, .inl (m : Int)] [] σ = some (some (.inl (pc10 (upF (thiF n R)) : Nat)), σ') ∧ FR 1 σ σ' := by
  intro n
  induction n with
  | zero =>
    intro m σ R h1 hK h2 h3
    refine ⟨σ, ?_, FR.refl 1 σ⟩
    rw [b_X1_standingRobbed_13, if_neg (show ¬ (m : Int) < N by omega), b_X1_standingRobbed_46, K_standing hK.2 hK.1.1]
    simp only [Option.bind_some, Option.toList_some, Option.toList_none, List.cons_append, List.nil_append, List.append_nil]
    rw [b_X1_standingRobbed_53]
    rfl
  | succ n ih =>
    intro m σ R h1 hK h2 h3
    have hs := stF_ok hK.1 0
    obtain ⟨σ1, σ2, s1, s2, f2, g2⟩ := K_st hK h2 (by omega) (fl := 0) rfl
    obtain ⟨σ3, s3, f3⟩ := ih (m + 1) σ2 (stF R 0) (by omega) g2 (by omega) (by omega)
    refine ⟨σ3, ?_, f2.trans f3⟩
    rw [b_X1_standingRobbed_13, if_pos (show (m : Int) < N by omega), b_X1_standingRobbed_18, K_leastWS hK]
    simp only [Option.bind_some, Option.toList_some, Option.toList_none, List.cons_append, List.nil_append, List.append_nil]
    rw [b_X1_standingRobbed_29, s1]
    simp only [Option.bind_some, Option.toList_some, Option.toList_none, List.cons_append, List.nil_append, List.append_nil]
    rw [b_X1_standingRobbed_32, s2]
    simp only [Option.bind_some, Option.toList_some, Option.toList_none, List.cons_append, List.nil_append, List.append_nil]
    rw [(b_X1_standingRobbed_40 (g0a := by omega) (g0b := by omega))]
    exact s3
theorem K_standingRobbed {σ : St} {R : Rw} (h : RK σ 0 R) (hd : Dk R) {d : Int} (h0 : 0 ≤ d) (h1 : d ≤ 99) (u : AV) : ∃ σ', Rx k_X1_standingRobbed 0 [.inr (.inl (1, 0)), .inl d, u] [] σ = some (some (.inl (thiA R d)), σ') ∧ FR 1 σ σ' := by
  have hd2 := hd.2
  obtain ⟨σ1, s1, f1, g1, _⟩ := h.bc
  obtain ⟨σ2, s2, f2⟩ := L_robbedK d (by omega) d.toNat 0 σ1 R (by omega) g1 hd.1 (by omega)
  refine ⟨σ2, ?_, f1.trans f2⟩
  rw [b_X1_standingRobbed_0, s1]
  simp only [Option.bind_some, Option.toList_some, Option.toList_none, List.cons_append, List.nil_append, List.append_nil]
  rw [b_X1_standingRobbed_11]
  exact s2
theorem L_norob : ∀ (n m : Nat) (u : AV) (σ : St) (R : Rw), m + n = 100 → RK σ 1 R → 0 ≤ R 2 → R 2 + n ≤ 20000 → ∃ σ', Rx k_X1_nothingToRobBehind 13 [.inr (.inl (1, 0)), .inl (m : Int), u] [] σ = some (some (.inl (robG n R m)), σ') ∧ FR 1 σ σ' := by
  intro n
  induction n with
  | zero =>
    intro m u σ R h1 hK h2 h3
    refine ⟨σ, ?_, FR.refl 1 σ⟩
    rw [b_X1_nothingToRobBehind_13, if_pos (by omega), b_X1_nothingToRobBehind_57]
    rfl
  | succ n ih =>
    intro m u σ R h1 hK h2 h3
    rw [b_X1_nothingToRobBehind_13, if_neg (by omega), b_X1_nothingToRobBehind_19, K_leastWS hK, robG_s]
    simp only [Option.bind_some, Option.toList_some, Option.toList_none, List.cons_append, List.nil_append, List.append_nil]
    rw [b_X1_nothingToRobBehind_26]
    by_cases e : leastF R 0 = -9
    · refine ⟨σ, ?_, FR.refl 1 σ⟩
      rw [if_pos e, b_X1_nothingToRobBehind_33, if_pos ((least_c hK.1.1 0).1 e)]
    · have hs := stF_ok hK.1 0
      obtain ⟨σ1, σ2, s1, s2, f2, g2⟩ := K_st hK h2 (by omega) (fl := 0) rfl
      obtain ⟨σ3, s3, f3⟩ := ih (m + 1) (.inl (leastF R 0)) σ2 (stF R 0) (by omega) g2 (by omega) (by omega)
      refine ⟨σ3, ?_, f2.trans f3⟩
      rw [if_neg e, b_X1_nothingToRobBehind_35, s1, if_neg (fun z => e ((least_c hK.1.1 0).2 z))]
      simp only [Option.bind_some, Option.toList_some, Option.toList_none, List.cons_append, List.nil_append, List.append_nil]
      rw [b_X1_nothingToRobBehind_43, s2]
      simp only [Option.bind_some, Option.toList_some, Option.toList_none, List.cons_append, List.nil_append, List.append_nil]
      rw [(b_X1_nothingToRobBehind_51 (g0a := by omega) (g0b := by omega))]
      exact s3
theorem K_norob {σ : St} {R : Rw} (h : RK σ 0 R) (hd : Dk R) (u v : AV) : ∃ σ', Rx k_X1_nothingToRobBehind 0 [.inr (.inl (1, 0)), u, v] [] σ = some (some (.inl (robA R)), σ') ∧ FR 1 σ σ' := by
  have hd2 := hd.2
  obtain ⟨σ1, s1, f1, g1, _⟩ := h.bc
  obtain ⟨σ2, s2, f2⟩ := L_norob 100 0 v σ1 R rfl g1 hd.1 (by omega)
  refine ⟨σ2, ?_, f1.trans f2⟩
  rw [b_X1_nothingToRobBehind_0, s1]
  simp only [Option.bind_some, Option.toList_some, Option.toList_none, List.cons_append, List.nil_append, List.append_nil]
  rw [b_X1_nothingToRobBehind_11]
  exact s2
/-! two who push -/
/-- only the second rack and the outcomes may differ -/
def XS (σ σ' : St) : Prop := ∀ t r k, (7 ≤ t ∧ t ≤ 15 ∧ r = 1) ∨ t = 2 ∨ σ' t r k = σ t r k
theorem XS.refl (σ : St) : XS σ σ := fun _ _ _ => Or.inr (Or.inr rfl)
theorem XS.trans {a b c : St} (h : XS a b) (g : XS b c) : XS a c := by
  intro t r k
  rcases h t r k with x | x | x
  · exact Or.inl x
  · exact Or.inr (Or.inl x)
  · rcases g t r k with y | y | y
    · exact Or.inl y
    · exact Or.inr (Or.inl y)
    · exact Or.inr (Or.inr (y.trans x))
theorem FR.xs {σ σ' : St} (h : FR 1 σ σ') : XS σ σ' := fun t r k => by
  rcases h t r k with x | x
  · exact Or.inl x
  · exact Or.inr (Or.inr x)
theorem XS.up2 (σ : St) (r k : Nat) (v : Int) : XS σ (up σ 2 r k v) := by
  intro t q j
  by_cases e : t = 2
  · exact Or.inr (Or.inl e)
  · exact Or.inr (Or.inr (upx_t e))
theorem XS.tag {σ σ' : St} (h : XS σ σ') {t : Nat} (ht : t < 7 ∨ 15 < t) (h2 : t ≠ 2) : σ' t = σ t := by
  funext r k
  rcases h t r k with x | x | x
  · omega
  · exact absurd x h2
  · exact x
theorem XS.inst {σ σ' : St} (h : XS σ σ') {t r : Nat} (h2 : t ≠ 2) (hr : r ≠ 1) : σ' t r = σ t r := by
  funext k
  rcases h t r k with x | x | x
  · exact absurd x.2.2 hr
  · exact absurd x h2
  · exact x
theorem RK.xs {σ σ' : St} {q : Nat} {R : Rw} (h : RK σ q R) (k : XS σ σ') (hq : q ≠ 1) : RK σ' q R := h.tg fun _ _ _ => k.inst (by omega) hq
theorem ps_tp {R : Rw} {t x : Int} (ht : isT R t) : psF R t x = tpF R (if x = 1 then t else -9) := by
  unfold psF tpF
  by_cases h1 : x = 1
  · rw [if_pos h1]
    by_cases h2 : uq R t = 1
    · rw [if_pos ⟨h1, h2⟩, if_pos ⟨ht, h2⟩]
    · rw [if_neg (fun z => h2 z.2), if_neg (fun z => h2 z.2)]
  · rw [if_neg h1, if_neg (fun z => h1 z.1), if_neg (fun z => by have := z.1.1; omega)]
theorem K_standingPushed {σ : St} {R : Rw} (h : RK σ 0 R) (hd : Dk R) {a b d x y : Int} (ha : isT R a) (hb : isT R b) (h0 : 0 ≤ d) (h1 : d ≤ 1000) : ∃ σ', Rx k_X1_standingPushed 0 [.inr (.inl (1, 0)), .inl (if x = 1 then a else -9), .inl (if y = 1 then b else -9), .inl d] [] σ = some (some (.inl (uppF R a x b y d)), σ') ∧ FR 1 σ σ' := by
  have hd1 := hd.1
  have hd2 := hd.2
  obtain ⟨σ1, s1, f1, g1, _⟩ := h.bc
  obtain ⟨σ2, s2, f2, g2⟩ := K_topple g1 (if x = 1 then a else -9) uns uns
  rw [← ps_tp ha] at g2
  have d1 := psF_dn h.1 x ha.1 (show a < R 1 by have := ha.2; omega)
  obtain ⟨σ3, s3, f3, g3⟩ := K_topple g2 (if y = 1 then b else -9) uns uns
  rw [← ps_tp (t := b) ⟨hb.1, by rw [d1.2.1]; exact hb.2⟩] at g3
  have d2 := psF_dn g2.1 y hb.1 (show b < psF R a x 1 by rw [d1.2.1]; have := hb.2; omega)
  have e2 : psF (psF R a x) b y 2 = R 2 := d2.2.2.1.trans d1.2.2.1
  obtain ⟨σ4, s4, f4, g4⟩ := K_passDays g3 h0 (by rw [e2]; omega) (by rw [e2]; omega) uns
  refine ⟨σ4, ?_, ((f1.trans f2).trans f3).trans f4⟩
  rw [b_X1_standingPushed_0, s1]
  simp only [Option.bind_some, Option.toList_some, Option.toList_none, List.cons_append, List.nil_append, List.append_nil]
  rw [b_X1_standingPushed_11, s2]
  simp only [Option.bind_some, Option.toList_some, Option.toList_none, List.cons_append, List.nil_append, List.append_nil]
  rw [b_X1_standingPushed_19, s3]
  simp only [Option.bind_some, Option.toList_some, Option.toList_none, List.cons_append, List.nil_append, List.append_nil]
  rw [b_X1_standingPushed_28, s4]
  simp only [Option.bind_some, Option.toList_some, Option.toList_none, List.cons_append, List.nil_append, List.append_nil]
  rw [b_X1_standingPushed_37, K_standing g4.2 g4.1.1]
  simp only [Option.bind_some, Option.toList_some, Option.toList_none, List.cons_append, List.nil_append, List.append_nil]
  rw [b_X1_standingPushed_44]
  rfl
/-- the outcome of a pair -/
def ouF (R : Rw) (a b d : Int) (k : Nat) : Int := uppF R a (((k : Nat) : Int).tdiv 2) b (((k : Nat) : Int).tmod 2) d
theorem L_settled1 {R : Rw} (hd : Dk R) {a b d : Int} (ha : isT R a) (hb : isT R b) (h0 : 0 ≤ d) (h1 : d ≤ 1000) : ∀ (n m : Nat) (σ : St), m + n = 4 → RK σ 0 R → (∀ j : Nat, j < m → σ 2 0 j = ouF R a b d j) → ∃ σ', Rx k_X1_settled 3 [.inr (.inl (1, 0)), .inl a, .inl b, .inl d, .inl (m : Int)] [] σ = Rx k_X1_settled 55 [.inr (.inl (1, 0)), .inl a, .inl b, .inl d, .inl 4] [] σ' ∧ XS σ σ' ∧ (∀ j : Nat, j < 4 → σ' 2 0 j = ouF R a b d j) := by
  intro n
  induction n with
  | zero =>
    intro m σ hm hK hj
    have e : m = 4 := by omega
    subst e
    refine ⟨σ, ?_, XS.refl σ, hj⟩
    rw [b_X1_settled_3, if_neg (by decide)]
    rfl
  | succ n ih =>
    intro m σ hm hK hj
    obtain ⟨σ1, s1, f1⟩ := K_standingPushed hK hd ha hb h0 h1 (x := (m : Int).tdiv 2) (y := (m : Int).tmod 2)
    have hq : 0 ≤ (m : Int).tdiv 2 ∧ (m : Int).tdiv 2 ≤ 2 := by
      rw [Int.tdiv_eq_ediv_of_nonneg (by omega)]
      omega
    have x1 : XS σ (up σ1 2 0 m (ouF R a b d m)) := f1.xs.trans (XS.up2 σ1 0 m _)
    obtain ⟨σ2, s2, x2, k2⟩ := ih (m + 1) (up σ1 2 0 m (ouF R a b d m)) (by omega) (hK.xs x1 (by decide)) (fun j hjm => by
      by_cases e : j = m
      · rw [e, up_at]
      · rw [upx_k e, f1.tag (Or.inl (by decide))]; exact hj j (by omega))
    refine ⟨σ2, ?_, x1.trans x2, k2⟩
    have done : ∀ A : Option (Option AV × St), A = some (some (.inl (uppF R a ((m : Int).tdiv 2) b ((m : Int).tmod 2) d)), σ1) → (A.bind fun q => Rx k_X1_settled 48 [.inr (.inl (1, 0)), .inl a, .inl b, .inl d, .inl (m : Int)] (q.1.toList ++ [.inl (m : Int), .inr (.inl (2, 0))]) q.2) = Rx k_X1_settled 55 [.inr (.inl (1, 0)), .inl a, .inl b, .inl d, .inl 4] [] σ2 := by
      intro A hA
      rw [hA]
      simp only [Option.bind_some, Option.toList_some, Option.toList_none, List.cons_append, List.nil_append, List.append_nil]
      rw [(b_X1_settled_48 (h0 := by omega) (h1 := by omega) (g0a := by omega) (g0b := by omega)), Int.toNat_natCast]
      exact s2
    have pick : ∀ s3 : Int, s3 = (if (m : Int).tdiv 2 = 1 then a else -9) → (if (m : Int).tmod 2 = 1 then Rx k_X1_settled 38 [.inr (.inl (1, 0)), .inl a, .inl b, .inl d, .inl (m : Int)] [.inl s3, .inr (.inl (1, 0)), .inl (m : Int), .inr (.inl (2, 0))] σ else Rx k_X1_settled 42 [.inr (.inl (1, 0)), .inl a, .inl b, .inl d, .inl (m : Int)] [.inl s3, .inr (.inl (1, 0)), .inl (m : Int), .inr (.inl (2, 0))] σ) = Rx k_X1_settled 55 [.inr (.inl (1, 0)), .inl a, .inl b, .inl d, .inl 4] [] σ2 := by
      intro s3 e3
      rw [← e3] at s1
      by_cases hy : (m : Int).tmod 2 = 1
      · rw [if_pos hy] at s1 ⊢
        rw [b_X1_settled_38]
        exact done _ s1
      · rw [if_neg hy] at s1 ⊢
        rw [b_X1_settled_42]
        exact done _ s1
    rw [b_X1_settled_3, if_pos (by omega), (b_X1_settled_9 (g0a := by omega) (g0b := by omega))]
    by_cases hx : (m : Int).tdiv 2 = 1
    · rw [if_pos hx, b_X1_settled_24]
      exact pick a (by rw [if_pos hx])
    · rw [if_neg hx, b_X1_settled_28]
      exact pick (-9) (by rw [if_neg hx])
