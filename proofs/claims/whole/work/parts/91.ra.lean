/-! the class's racks: frames and the coupling with a row -/
/-- all but the rack q is as it was -/
def FR (q : Nat) (σ σ' : St) : Prop := ∀ t r k, (7 ≤ t ∧ t ≤ 15 ∧ r = q) ∨ σ' t r k = σ t r k
theorem FR.refl (q : Nat) (σ : St) : FR q σ σ := fun _ _ _ => Or.inr rfl
theorem FR.trans {q : Nat} {a b c : St} (h : FR q a b) (g : FR q b c) : FR q a c := by
  intro t r k
  rcases h t r k with x | x
  · exact Or.inl x
  · rcases g t r k with y | y
    · exact Or.inl y
    · exact Or.inr (y.trans x)
theorem up_at (σ : St) (t r k : Nat) (v : Int) : up σ t r k v t r k = v := by unfold up; rw [if_pos ⟨rfl, rfl, rfl⟩]
theorem up_no {σ : St} {t r k s q j : Nat} {v : Int} (h : ¬ (s = t ∧ q = r ∧ j = k)) : up σ t r k v s q j = σ s q j := by unfold up; rw [if_neg h]
theorem FR.up (q : Nat) (σ : St) {t : Nat} (h : 7 ≤ t) (h2 : t ≤ 15) (k : Nat) (v : Int) : FR q σ (up σ t q k v) := by
  intro s r j
  by_cases e : s = t ∧ r = q ∧ j = k
  · exact Or.inl ⟨by omega, by omega, e.2.1⟩
  · exact Or.inr (up_no e)
theorem FR.tag {q : Nat} {σ σ' : St} (h : FR q σ σ') {t : Nat} (ht : t < 7 ∨ 15 < t) : σ' t = σ t := by
  funext r k
  rcases h t r k with x | x
  · omega
  · exact x
theorem FR.inst {q : Nat} {σ σ' : St} (h : FR q σ σ') {t r : Nat} (hr : r ≠ q) : σ' t r = σ t r := by
  funext k
  rcases h t r k with x | x
  · exact absurd x.2.2 hr
  · exact x
/-- the rack q holds the row R, but for its loads L and the bits U of what is up -/
def RKp (σ : St) (q : Nat) (R : Rw) (L : Int → Int) (U : Int) : Prop :=
  (σ 7 q 0 = R 0 ∧ σ 7 q 1 = R 1 ∧ σ 7 q 2 = R 2 ∧ σ 7 q 3 = U) ∧ (∀ p : Int, 0 ≤ p → p < R 0 → σ 8 q p.toNat = kd R p ∧ σ 9 q p.toNat = fg R p ∧ σ 10 q p.toNat = sg R p ∧ σ 11 q p.toNat = L p) ∧ (∀ t : Int, 0 ≤ t → t < R 1 → σ 12 q t.toNat = wt R t ∧ σ 13 q t.toNat = pl R t ∧ σ 14 q t.toNat = on R t) ∧ ∀ c : Int, 0 ≤ c → c < 20 → σ 15 q c.toNat = whoF R c
/-- the rack q holds the row R -/
def RK (σ : St) (q : Nat) (R : Rw) : Prop := Iv R ∧ RKp σ q R (loadF R) (upF R : Nat)
theorem RKp.fr {σ σ' : St} {q : Nat} {R : Rw} {L : Int → Int} {U : Int} (h : RKp σ q R L U) (k : ∀ t, 7 ≤ t → t ≤ 15 → σ' t q = σ t q) : RKp σ' q R L U := by
  obtain ⟨h1, h2, h3, h4⟩ := h
  refine ⟨?_, ?_, ?_, ?_⟩
  · rw [k 7 (by decide) (by decide)]; exact h1
  · intro p a b
    rw [k 8 (by decide) (by decide), k 9 (by decide) (by decide), k 10 (by decide) (by decide), k 11 (by decide) (by decide)]
    exact h2 p a b
  · intro t a b
    rw [k 12 (by decide) (by decide), k 13 (by decide) (by decide), k 14 (by decide) (by decide)]
    exact h3 t a b
  · intro c a b
    rw [k 15 (by decide) (by decide)]
    exact h4 c a b
theorem RK.fr {σ σ' : St} {q r : Nat} {R : Rw} (h : RK σ q R) (k : FR r σ σ') (hr : q ≠ r) : RK σ' q R := ⟨h.1, h.2.fr fun _ _ _ => k.inst hr⟩
theorem RK.tg {σ σ' : St} {q : Nat} {R : Rw} (h : RK σ q R) (k : ∀ t, 7 ≤ t → t ≤ 15 → σ' t q = σ t q) : RK σ' q R := ⟨h.1, h.2.fr k⟩
theorem RKp.ld {σ : St} {q : Nat} {R : Rw} {L M : Int → Int} {U : Int} (h : RKp σ q R L U) (k : ∀ p, 0 ≤ p → p < R 0 → L p = M p) : RKp σ q R M U := by
  obtain ⟨h1, h2, h3, h4⟩ := h
  refine ⟨h1, fun p a b => ?_, h3, h4⟩
  obtain ⟨a1, a2, a3, a4⟩ := h2 p a b
  exact ⟨a1, a2, a3, a4.trans (k p a b)⟩
/-! small methods of a rack -/
theorem K_isPurpose {σ : St} {q : Nat} {R : Rw} {L : Int → Int} {U : Int} (h : RKp σ q R L U) (hb : Iv0 R) (p : Int) : Rx k_X2_isPurpose 0 [.inr (.inl (7, q)), .inl p] [] σ = some (some (.inl (if isP R p then 1 else 0)), σ) := by
  unfold Iv0 at hb
  have e := h.1.1
  rw [b_X2_isPurpose_0]
  by_cases h1 : p < 0
  · rw [if_pos h1, b_X2_isPurpose_21, if_neg (show ¬ isP R p by omega)]
  · rw [if_neg h1, b_X2_isPurpose_4, e]
    by_cases h2 : p < R 0
    · rw [if_pos h2, b_X2_isPurpose_12, if_pos (show p < 5 by omega), b_X2_isPurpose_17, if_pos (show isP R p by omega)]
    · rw [if_neg h2, b_X2_isPurpose_21, if_neg (show ¬ isP R p by omega)]
theorem K_isThing {σ : St} {q : Nat} {R : Rw} {L : Int → Int} {U : Int} (h : RKp σ q R L U) (hb : Iv0 R) (p : Int) : Rx k_X2_isThing 0 [.inr (.inl (7, q)), .inl p] [] σ = some (some (.inl (if isT R p then 1 else 0)), σ) := by
  unfold Iv0 at hb
  have e := h.1.2.1
  rw [b_X2_isThing_0]
  by_cases h1 : p < 0
  · rw [if_pos h1, b_X2_isThing_22, if_neg (show ¬ isT R p by omega)]
  · rw [if_neg h1, b_X2_isThing_4, e]
    by_cases h2 : p < R 1
    · rw [if_pos h2, b_X2_isThing_12, if_pos (show p < 10 by omega), b_X2_isThing_18, if_pos (show isT R p by omega)]
    · rw [if_neg h2, b_X2_isThing_22, if_neg (show ¬ isT R p by omega)]
theorem upF_bit {R : Rw} {t : Int} (h : isT R t) : (upF R).testBit t.toNat = decide (uq R t = 1) := by
  unfold upF
  have e : ((t.toNat : Nat) : Int) = t := by omega
  rw [upG_bit, e, show decide (t.toNat < (R 1).toNat) = true from decide_eq_true (by omega), Bool.true_and]
theorem upF_b2 {R : Rw} {n : Nat} : (upF R).testBit n = true ↔ ((n : Int) < R 1 ∧ uq R n = 1) := by
  unfold upF
  rw [upG_bit, Bool.and_eq_true, decide_eq_true_eq, decide_eq_true_eq]
  constructor
  · exact fun z => ⟨by omega, z.2⟩
  · exact fun z => ⟨by omega, z.2⟩
theorem K_isUp {σ : St} {q : Nat} {R : Rw} {L : Int → Int} (h : RKp σ q R L (upF R : Nat)) (hb : Iv0 R) (t : Int) : Rx k_X2_isUp 0 [.inr (.inl (7, q)), .inl t] [] σ = some (some (.inl (if isT R t ∧ uq R t = 1 then 1 else 0)), σ) := by
  unfold Iv0 at hb
  have hx := upF_lt hb.2.2.2
  by_cases h1 : isT R t
  · have e : t = ((t.toNat : Nat) : Int) := by omega
    have hbit := bitU (x := upF R) (k := t.toNat) hx (by omega)
    rw [← e, upF_bit h1] at hbit
    rw [b_X2_isUp_0, if_neg (show ¬ t < 0 by omega), b_X2_isUp_4, h.1.2.1, if_pos (show t < R 1 by omega), b_X2_isUp_12, if_pos (show t < 10 by omega), b_X2_isUp_18, h.1.2.2.2, hbit]
    by_cases h2 : uq R t = 1
    · rw [if_pos (decide_eq_true h2), if_pos rfl, b_X2_isUp_30, if_pos ⟨h1, h2⟩]
    · rw [if_neg (fun z => h2 (of_decide_eq_true z)), if_neg (by decide), b_X2_isUp_34, if_neg (fun z => h2 z.2)]
  · rw [if_neg (fun z => h1 z.1), b_X2_isUp_0]
    by_cases h2 : t < 0
    · rw [if_pos h2, b_X2_isUp_34]
    · rw [if_neg h2, b_X2_isUp_4, h.1.2.1, if_neg (show ¬ t < R 1 by omega), b_X2_isUp_34]
theorem K_spareOf {σ : St} {q : Nat} {R : Rw} (h : RK σ q R) (p : Int) : Rx k_X2_spareOf 0 [.inr (.inl (7, q)), .inl p] [] σ = some (some (.inl (if isP R p then spareF R p else 0)), σ) := by
  have hb := h.1.1
  rw [b_X2_spareOf_0, K_isPurpose h.2 hb]
  unfold Iv0 at hb
  simp only [Option.bind_some, Option.toList_some, Option.toList_none, List.cons_append, List.nil_append, List.append_nil]
  rw [b_X2_spareOf_5]
  by_cases h1 : isP R p
  · have hl := loadF_bd h.1.to1 p
    have hp := h.1.2.1 p (by omega) (by omega)
    obtain ⟨a1, a2, a3, a4⟩ := h.2.2.1 p (by omega) (by omega)
    rw [if_pos h1, if_neg (by decide), b_X2_spareOf_8 _ _ _ (by omega) (by omega) (by rw [a3, a4]; omega) (by rw [a3, a4]; omega), a3, a4, if_pos h1]
    rfl
  · rw [if_neg h1, if_pos rfl, b_X2_spareOf_24, if_neg h1]
/-! counting bits -/
def bq1 (x : Int) : Int := x - bAnd (bUshr x 1) 1431655765
def bq2 (y : Int) : Int := bAnd y 858993459 + bAnd (bUshr y 2) 858993459
def bq3 (y : Int) : Int := y + bUshr y 4
def bq4 (y : Int) : Int := y + bUshr y 8
def bq5 (y : Int) : Int := y + bUshr y 16
def bqP (x : Nat) (e1 e2 e3 e4 e5 : Int) : Bool := decide ((-2147483648 ≤ e1 ∧ e1 < 2147483648) ∧ (-2147483648 ≤ e2 ∧ e2 < 2147483648) ∧ (-2147483648 ≤ e3 ∧ e3 < 2147483648) ∧ (-2147483648 ≤ e4 ∧ e4 < 2147483648) ∧ (-2147483648 ≤ e5 ∧ e5 < 2147483648) ∧ bAnd e5 63 = (pc10 x : Nat))
def bqO (x : Nat) : Bool := bqP x (bq1 x) (bq2 (bq1 x)) (bq3 (bq2 (bq1 x))) (bq4 (bAnd (bq3 (bq2 (bq1 x))) 252645135)) (bq5 (bq4 (bAnd (bq3 (bq2 (bq1 x))) 252645135)))
theorem bq_all : ∀ a, a < 32 → ∀ b, b < 32 → bqO (32 * a + b) = true := by decide +kernel
theorem K_bitCount (x : Nat) (h : x < 1024) (σ : St) : Rx k_J6_bitCount_0f7a4 0 [.inl (x : Int)] [] σ = some (some (.inl (pc10 x : Nat)), σ) := by
  have k := bq_all (x / 32) (by omega) (x % 32) (by omega)
  rw [Nat.div_add_mod] at k
  unfold bqO bqP at k
  obtain ⟨k1, k2, k3, k4, k5, k6⟩ := of_decide_eq_true k
  rw [← k6]
  exact b_J6_bitCount_0f7a4_0 (x : Int) σ k1.1 k1.2 k2.1 k2.2 k3.1 k3.2 k4.1 k4.2 k5.1 k5.2
theorem upF_lt10 {R : Rw} (h : Iv0 R) : upF R < 1024 := upG_lt10 R (by unfold Iv0 at h; omega)
theorem K_standing {σ : St} {q : Nat} {R : Rw} {L : Int → Int} (h : RKp σ q R L (upF R : Nat)) (hb : Iv0 R) : Rx k_X2_standing 0 [.inr (.inl (7, q))] [] σ = some (some (.inl (pc10 (upF R) : Nat)), σ) := by
  rw [b_X2_standing_0, h.1.2.2.2, K_bitCount _ (upF_lt10 hb)]
  simp only [Option.bind_some, Option.toList_some, Option.toList_none, List.cons_append, List.nil_append, List.append_nil]
  rw [b_X2_standing_7]
