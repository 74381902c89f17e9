/-! the reference reads -/
/-- the reference stands at the place i of the text W of M letters -/
def At (σ : St) (W : Nat → Int) (M i : Nat) : Prop := σ 16 0 11 = i ∧ σ 16 0 9 = M ∧ M ≤ 96 ∧ σ 19 0 = W ∧ (∀ k : Nat, k < M → 0 ≤ W k ∧ W k ≤ 255) ∧ i ≤ M
/-- only the place and the numbers may differ -/
def PS (σ σ' : St) : Prop := ∀ t r k, (t = 16 ∧ r = 0 ∧ k = 11) ∨ t = 22 ∨ σ' t r k = σ t r k
theorem PS.refl (σ : St) : PS σ σ := fun _ _ _ => Or.inr (Or.inr rfl)
theorem PS.trans {a b c : St} (h : PS a b) (g : PS b c) : PS a c := by
  intro t r k
  rcases h t r k with x | x | x
  · exact Or.inl x
  · exact Or.inr (Or.inl x)
  · rcases g t r k with y | y | y
    · exact Or.inl y
    · exact Or.inr (Or.inl y)
    · exact Or.inr (Or.inr (y.trans x))
theorem PS.tag {σ σ' : St} (h : PS σ σ') {t : Nat} (h1 : t ≠ 16) (h2 : t ≠ 22) : σ' t = σ t := by
  funext r k
  rcases h t r k with x | x | x
  · exact absurd x.1 h1
  · exact absurd x h2
  · exact x
theorem PS.c16 {σ σ' : St} (h : PS σ σ') {k : Nat} (hk : k ≠ 11) : σ' 16 0 k = σ 16 0 k := by
  rcases h 16 0 k with x | x | x
  · exact absurd x.2.2 hk
  · exact absurd x (by decide)
  · exact x
theorem PS.pl (σ : St) (v : Int) : PS σ (up σ 16 0 11 v) := by
  intro t r k
  by_cases e : t = 16 ∧ r = 0 ∧ k = 11
  · exact Or.inl e
  · exact Or.inr (Or.inr (up_no e))
theorem PS.nm (σ : St) (k : Nat) (v : Int) : PS σ (up σ 22 0 k v) := by
  intro t r j
  by_cases e : t = 22
  · exact Or.inr (Or.inl e)
  · exact Or.inr (Or.inr (upx_t e))
theorem At.ps {σ σ' : St} {W : Nat → Int} {M i j : Nat} (h : At σ W M i) (p : PS σ σ') (e : σ' 16 0 11 = j) (hj : j ≤ M) : At σ' W M j := by
  obtain ⟨h1, h2, h3, h4, h5, h6⟩ := h
  exact ⟨e, by rw [p.c16 (by decide)]; exact h2, h3, by rw [p.tag (by decide) (by decide)]; exact h4, h5, hj⟩
theorem R_here {σ : St} {W : Nat → Int} {M i : Nat} (h : At σ W M i) : Rx k_X5_here 0 [.inr (.inl (16, 0))] [] σ = some (some (.inl (if i < M then W i else -1)), σ) := by
  obtain ⟨h1, h2, h3, h4, h5, h6⟩ := h
  rw [b_X5_here_0, h1, h2]
  by_cases e : i < M
  · rw [if_pos (by omega), b_X5_here_11 (h0 := by omega) (h1 := by omega), h1, h4, Int.toNat_natCast, if_pos e]
  · rw [if_neg (by omega), b_X5_here_23, if_neg e]
theorem here_bd {W : Nat → Int} {M i : Nat} (h : ∀ k : Nat, k < M → 0 ≤ W k ∧ W k ≤ 255) : -1 ≤ (if i < M then W i else -1) ∧ (if i < M then W i else -1) ≤ 255 := by
  by_cases e : i < M
  · rw [if_pos e]; have := h i e; omega
  · rw [if_neg e]; omega
theorem R_dig {σ : St} {W : Nat → Int} {M i : Nat} (h : At σ W M i) (k : Nat) (hk : k < 3) (d j : Int) (hj : j < d) (hj2 : -10 ≤ j ∧ j ≤ 10) (ha : -1000 ≤ σ 22 0 k ∧ σ 22 0 k ≤ 1000) : Rx k_X5_readsNumber 9 [.inr (.inl (16, 0)), .inl (k : Int), .inl d, .inl j] [] σ = if Dg W M i then Rx k_X5_readsNumber 9 [.inr (.inl (16, 0)), .inl (k : Int), .inl d, .inl (j + 1)] [] (up (up σ 22 0 k (10 * σ 22 0 k + dg W i)) 16 0 11 ((i : Int) + 1)) else some (some (.inl 0), σ) := by
  have hh := R_here h
  have bd := here_bd (i := i) h.2.2.2.2.1
  have hc : (48 ≤ (if i < M then W i else -1) ∧ (if i < M then W i else -1) ≤ 57) ↔ Dg W M i := by
    unfold Dg dg
    by_cases e : i < M
    · rw [if_pos e]; omega
    · rw [if_neg e]; omega
  rw [b_X5_readsNumber_9, if_pos hj, b_X5_readsNumber_14, hh]
  simp only [Option.bind_some, Option.toList_some, Option.toList_none, List.cons_append, List.nil_append, List.append_nil]
  rw [b_X5_readsNumber_18, C_isIn]
  simp only [Option.bind_some, Option.toList_some, Option.toList_none, List.cons_append, List.nil_append, List.append_nil]
  rw [b_X5_readsNumber_25]
  by_cases e : Dg W M i
  · have e1 := e.1
    have e2 := e.2
    have hi := h.1
    have hM := h.2.2.1
    have ew : (if i < M then W i else -1) = dg W i + 48 := by rw [if_pos e1]; unfold dg; omega
    rw [if_pos (hc.2 e), if_neg (by decide), if_pos e, b_X5_readsNumber_30 (h0 := by omega) (h1 := by omega) (g0a := by rw [Int.toNat_natCast]; omega) (g0b := by rw [Int.toNat_natCast]; omega), hh, Int.toNat_natCast]
    simp only [Option.bind_some, Option.toList_some, Option.toList_none, List.cons_append, List.nil_append, List.append_nil]
    rw [ew, b_X5_readsNumber_48 (h0 := by omega) (h1 := by omega) (g0a := by omega) (g0b := by omega) (g1a := by omega) (g1b := by omega) (g2a := by omega) (g2b := by omega) (g3a := by rw [upx_t (by decide)]; omega) (g3b := by rw [upx_t (by decide)]; omega), upx_t (s := 16) (by decide), hi, Int.toNat_natCast, show 10 * σ 22 0 k + (dg W i + 48) - 48 = 10 * σ 22 0 k + dg W i by omega]
  · rw [if_neg (fun z => e (hc.1 z)), if_pos rfl, b_X5_readsNumber_28, if_neg e]
/-- what reading a number of one or two digits leaves -/
def NP (σ σ' : St) (k : Nat) : Prop := PS σ σ' ∧ ∀ j : Nat, j ≠ k → σ' 22 0 j = σ 22 0 j
theorem R_num1 {σ : St} {W : Nat → Int} {M i : Nat} (h : At σ W M i) (k : Nat) (hk : k < 3) : ∃ σ', Rx k_X5_readsNumber 0 [.inr (.inl (16, 0)), .inl (k : Int), .inl 1, uns] [] σ = some (some (.inl (if Dg W M i then 1 else 0)), σ') ∧ NP σ σ' k ∧ (Dg W M i → At σ' W M (i + 1) ∧ σ' 22 0 k = dg W i) ∧ (¬ Dg W M i → At σ' W M i) := by
  have p0 := PS.nm σ k 0
  have a0 := h.ps p0 (j := i) (by rw [upx_t (by decide)]; exact h.1) h.2.2.2.2.2
  have s := R_dig a0 k hk 1 0 (by decide) (by decide) (by rw [up_at]; decide)
  rw [up_at] at s
  rw [b_X5_readsNumber_0 (h0 := by omega) (h1 := by omega), Int.toNat_natCast, s]
  by_cases e : Dg W M i
  · rw [if_pos e, if_pos e]
    have p1 := PS.nm (up σ 22 0 k 0) k (10 * 0 + dg W i)
    have p2 := PS.pl (up (up σ 22 0 k 0) 22 0 k (10 * 0 + dg W i)) ((i : Int) + 1)
    refine ⟨_, ?_, ⟨(p0.trans p1).trans p2, fun j hj => ?_⟩, fun _ => ⟨a0.ps (p1.trans p2) (by rw [up_at]; omega) e.1, ?_⟩, fun z => absurd e z⟩
    · rw [b_X5_readsNumber_9, if_neg (by decide), b_X5_readsNumber_69]
    · rw [upx_t (by decide), upx_k hj, upx_k hj]
    · rw [upx_t (by decide), up_at]; omega
  · rw [if_neg e, if_neg e]
    exact ⟨_, rfl, ⟨p0, fun j hj => upx_k hj⟩, fun z => absurd z e, fun _ => a0⟩
theorem R_num2 {σ : St} {W : Nat → Int} {M i : Nat} (h : At σ W M i) (k : Nat) (hk : k < 3) : ∃ σ', Rx k_X5_readsNumber 0 [.inr (.inl (16, 0)), .inl (k : Int), .inl 2, uns] [] σ = some (some (.inl (if Dg W M i ∧ Dg W M (i + 1) then 1 else 0)), σ') ∧ NP σ σ' k ∧ (Dg W M i → Dg W M (i + 1) → At σ' W M (i + 1 + 1) ∧ σ' 22 0 k = 10 * dg W i + dg W (i + 1)) ∧ (Dg W M i → ¬ Dg W M (i + 1) → At σ' W M (i + 1)) ∧ (¬ Dg W M i → At σ' W M i) := by
  have p0 := PS.nm σ k 0
  have a0 := h.ps p0 (j := i) (by rw [upx_t (by decide)]; exact h.1) h.2.2.2.2.2
  have s := R_dig a0 k hk 2 0 (by decide) (by decide) (by rw [up_at]; decide)
  rw [up_at] at s
  rw [b_X5_readsNumber_0 (h0 := by omega) (h1 := by omega), Int.toNat_natCast, s]
  by_cases e : Dg W M i
  · have e2 := e.2
    have p1 := PS.nm (up σ 22 0 k 0) k (10 * 0 + dg W i)
    have p2 := PS.pl (up (up σ 22 0 k 0) 22 0 k (10 * 0 + dg W i)) ((i : Int) + 1)
    have a1 := a0.ps (p1.trans p2) (j := i + 1) (by rw [up_at]; omega) e.1
    have q1 : up (up (up σ 22 0 k 0) 22 0 k (10 * 0 + dg W i)) 16 0 11 ((i : Int) + 1) 22 0 k = dg W i := by rw [upx_t (by decide), up_at]; omega
    have q2 : ∀ j : Nat, j ≠ k → up (up (up σ 22 0 k 0) 22 0 k (10 * 0 + dg W i)) 16 0 11 ((i : Int) + 1) 22 0 j = σ 22 0 j := fun j hj => by rw [upx_t (by decide), upx_k hj, upx_k hj]
    generalize up (up (up σ 22 0 k 0) 22 0 k (10 * 0 + dg W i)) 16 0 11 ((i : Int) + 1) = τ at p2 a1 q1 q2 ⊢
    have s2 := R_dig a1 k hk 2 (0 + 1) (by decide) (by decide) (by rw [q1]; omega)
    rw [if_pos e, s2]
    by_cases f : Dg W M (i + 1)
    · have p3 := PS.nm τ k (10 * τ 22 0 k + dg W (i + 1))
      have p4 := PS.pl (up τ 22 0 k (10 * τ 22 0 k + dg W (i + 1))) (((i + 1 : Nat) : Int) + 1)
      rw [if_pos f, if_pos (show Dg W M i ∧ Dg W M (i + 1) from ⟨e, f⟩)]
      refine ⟨_, ?_, ⟨((p0.trans p1).trans p2).trans (p3.trans p4), fun j hj => ?_⟩, fun _ _ => ⟨a1.ps (p3.trans p4) (by rw [up_at]; omega) f.1, ?_⟩, fun _ z => absurd f z, fun z => absurd e z⟩
      · rw [b_X5_readsNumber_9, if_neg (by decide), b_X5_readsNumber_69]
      · rw [upx_t (by decide), upx_k hj, q2 j hj]
      · rw [upx_t (by decide), up_at, q1]
    · rw [if_neg f, if_neg (show ¬ (Dg W M i ∧ Dg W M (i + 1)) from fun z => f z.2)]
      exact ⟨τ, rfl, ⟨(p0.trans p1).trans p2, q2⟩, fun _ z => absurd z f, fun _ _ => a1, fun z => absurd e z⟩
  · rw [if_neg e, if_neg (show ¬ (Dg W M i ∧ Dg W M (i + 1)) from fun z => e z.1)]
    exact ⟨_, rfl, ⟨p0, fun j hj => upx_k hj⟩, fun z => absurd z e, fun z => absurd z e, fun _ => a0⟩
theorem R_kindBy (x : Int) (σ : St) : Rx k_X5_kindBy 0 [.inl x] [] σ = some (some (.inl (kbF x)), σ) := by
  unfold kbF
  rw [b_X5_kindBy_0]
  by_cases e1 : x = 104
  · rw [if_pos e1, if_pos e1, b_X5_kindBy_82]
  rw [if_neg e1, if_neg e1]
  by_cases e2 : x = 108
  · rw [if_pos e2, if_pos e2, b_X5_kindBy_90]
  rw [if_neg e2, if_neg e2]
  by_cases e3 : x = 111
  · rw [if_pos e3, if_pos e3, b_X5_kindBy_86]
  rw [if_neg e3, if_neg e3]
  by_cases e4 : x = 112
  · rw [if_pos e4, if_pos e4, b_X5_kindBy_80]
  rw [if_neg e4, if_neg e4]
  by_cases e5 : x = 118
  · rw [if_pos e5, if_pos e5, b_X5_kindBy_84]
  rw [if_neg e5, if_neg e5]
  by_cases e6 : x = 119
  · rw [if_pos e6, if_pos e6, b_X5_kindBy_88]
  rw [if_neg e6, if_neg e6, b_X5_kindBy_92]
theorem R_kind {σ : St} {W : Nat → Int} {M i : Nat} (h : At σ W M i) : ∃ σ', Rx k_X5_readsKind 0 [.inr (.inl (16, 0))] [] σ = some (some (.inl (if i < M ∧ kbF (W i) ≠ -9 then 1 else 0)), σ') ∧ NP σ σ' 0 ∧ (i < M ∧ kbF (W i) ≠ -9 → At σ' W M (i + 1) ∧ σ' 22 0 0 = kbF (W i)) ∧ (¬ (i < M ∧ kbF (W i) ≠ -9) → At σ' W M i) := by
  have hi := h.1
  have hM := h.2.2.1
  have hiM := h.2.2.2.2.2
  have start : ∀ x : Int, x = kbF (if i < M then W i else -1) → Rx k_X5_readsKind 0 [.inr (.inl (16, 0))] [] σ = if x < 0 then Rx k_X5_readsKind 27 [.inr (.inl (16, 0))] [.inl (i : Int), .inr (.inl (16, 0))] (up σ 22 0 0 x) else Rx k_X5_readsKind 31 [.inr (.inl (16, 0))] [.inl (i : Int), .inr (.inl (16, 0))] (up σ 22 0 0 x) := by
    intro x hx
    rw [b_X5_readsKind_0, R_here h]
    simp only [Option.bind_some, Option.toList_some, Option.toList_none, List.cons_append, List.nil_append, List.append_nil]
    rw [b_X5_readsKind_9, R_kindBy, ← hx]
    simp only [Option.bind_some, Option.toList_some, Option.toList_none, List.cons_append, List.nil_append, List.append_nil]
    rw [b_X5_readsKind_12 (h0 := by decide) (h1 := by decide), show (0 : Int).toNat = 0 from rfl, up_at, upx_t (s := 16) (by decide), hi]
  have p0 : ∀ x, PS σ (up σ 22 0 0 x) := fun x => PS.nm σ 0 x
  have q0 : ∀ (x v : Int) (j : Nat), j ≠ 0 → up (up σ 22 0 0 x) 16 0 11 v 22 0 j = σ 22 0 j := fun x v j hj => by rw [upx_t (by decide), upx_k hj]
  have z0 : ∀ (x v : Int), up (up σ 22 0 0 x) 16 0 11 v 22 0 0 = x := fun x v => by rw [upx_t (by decide), up_at]
  by_cases e : i < M ∧ kbF (W i) ≠ -9
  · have k := kb_c (W i)
    have e2 := e.2
    rw [start (kbF (W i)) (by rw [if_pos e.1]), if_pos e, if_neg (by omega), b_X5_readsKind_31 (g0a := by omega) (g0b := by omega), z0, if_neg (by omega), b_X5_readsKind_45]
    exact ⟨_, rfl, ⟨(p0 _).trans (PS.pl _ _), q0 _ _⟩, fun _ => ⟨h.ps ((p0 _).trans (PS.pl _ _)) (by rw [up_at]; omega) e.1, z0 _ _⟩, fun z => absurd e z⟩
  · have hx : kbF (if i < M then W i else -1) = -9 := by
      by_cases f : i < M
      · rw [if_pos f]
        exact Classical.not_not.1 (fun z => e ⟨f, z⟩)
      · rw [if_neg f]; rfl
    rw [start (-9) hx.symm, if_neg e, if_pos (by decide), b_X5_readsKind_27 (g0a := by omega) (g0b := by omega), z0, if_pos (by decide), b_X5_readsKind_49]
    exact ⟨_, rfl, ⟨(p0 _).trans (PS.pl _ _), q0 _ _⟩, fun z => absurd z e, fun _ => h.ps ((p0 _).trans (PS.pl _ _)) (by rw [up_at]; omega) h.2.2.2.2.2⟩
theorem ftD {W : Nat → Int} {M i : Nat} : (i < M ∧ ftB 57 (W i) = true) ↔ Dg W M i := by
  unfold ftB Dg dg
  rw [if_pos rfl, decide_eq_true_eq]
  omega
theorem ftK {W : Nat → Int} {M i : Nat} : (i < M ∧ ftB 75 (W i) = true) ↔ (i < M ∧ kbF (W i) ≠ -9) := by
  unfold ftB
  rw [if_neg (by decide), if_pos rfl, decide_eq_true_eq]
theorem ftS {W : Nat → Int} {M i : Nat} : (i < M ∧ ftB 59 (W i) = true) ↔ (i < M ∧ W i = 59) := by
  unfold ftB
  rw [if_neg (by decide), if_neg (by decide), decide_eq_true_eq]
/-- what reading a statement leaves -/
def SP (σ : St) (W : Nat → Int) (M : Nat) (x : Option (Option AV × St)) (p : Nat × Bool) (N : St → Prop) : Prop := ∃ σ', x = some (some (.inl (if p.2 = true then 1 else 0)), σ') ∧ PS σ σ' ∧ At σ' W M p.1 ∧ (p.2 = true → N σ')
theorem SP.no {σ τ : St} {W : Nat → Int} {M i : Nat} {x : Option (Option AV × St)} {N : St → Prop} (p : PS σ τ) (a : At τ W M i) (e : x = some (some (.inl 0), τ)) : SP σ W M x (i, false) N := ⟨τ, by rw [e]; rfl, p, a, fun z => by cases z⟩
theorem R_semi {σ τ : St} {W : Nat → Int} {M i : Nat} (p : PS σ τ) (a : At τ W M i) (q s : Nat) (hs : sbyt q s = 59) (x1 : Int) (y : Int) (N : St → Prop) (hN : ∀ ρ, PS τ ρ → (∀ j, ρ 22 0 j = τ 22 0 j) → N ρ) : SP σ W M (Rx k_X5_readsStatement 264 [.inr (.inl (16, 0)), .inl x1, .inl y] [] τ) (smG W M q 1 s i) N := by
  have hi := a.1
  have hM := a.2.2.1
  have start : Rx k_X5_readsStatement 264 [.inr (.inl (16, 0)), .inl x1, .inl y] [] τ = if (if i < M then W i else -1) = 59 then Rx k_X5_readsStatement 275 [.inr (.inl (16, 0)), .inl x1, .inl y] [] τ else Rx k_X5_readsStatement 273 [.inr (.inl (16, 0)), .inl x1, .inl y] [] τ := by
    rw [b_X5_readsStatement_264, R_here a]
    simp only [Option.bind_some, Option.toList_some, Option.toList_none, List.cons_append, List.nil_append, List.append_nil]
    rw [b_X5_readsStatement_268]
  by_cases e : i < M ∧ W i = 59
  · have es : smG W M q 1 s i = (i + 1, true) := by rw [smG_s, hs, if_pos (ftS.2 e)]; rfl
    have p1 := PS.pl τ ((i : Int) + 1)
    rw [start, es, if_pos (by rw [if_pos e.1]; exact e.2), b_X5_readsStatement_275 (g0a := by omega) (g0b := by omega), hi]
    exact ⟨_, rfl, p.trans p1, a.ps p1 (by rw [up_at]; omega) e.1, fun _ => hN _ p1 (fun j => upx_t (by decide))⟩
  · have es : smG W M q 1 s i = (i, false) := by rw [smG_s, hs, if_neg (fun z => e (ftS.1 z))]
    rw [start, es, if_neg]
    · exact SP.no p a (by rw [b_X5_readsStatement_273])
    · by_cases f : i < M
      · rw [if_pos f]; exact fun z => e ⟨f, z⟩
      · rw [if_neg f]; decide
