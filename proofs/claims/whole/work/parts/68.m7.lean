/-! the reference's public methods: what they are refused with, and what they answer -/
/-- the reference stands well -/
def Mok (σ : St) : Prop := Iv (σ 17 0) ∧ 0 ≤ σ 17 0 2 ∧ σ 17 0 2 ≤ 999 ∧ (∀ r k : Nat, r < 4 → 58 ≤ k → σ 17 r k = 0) ∧ (∀ k : Nat, k < 7 → 0 ≤ σ 21 0 k ∧ σ 21 0 k < 2147483600)
def noS (σ : St) (c : Int) : St := up σ 21 0 (-c).toNat (σ 21 0 (-c).toNat + 1)
theorem Mok.no {σ : St} (h : Mok σ) {c : Int} (h0 : -6 ≤ c) (h1 : c ≤ 0) : Rx k_X5_no 0 [.inr (.inl (16, 0)), .inl c] [] σ = some (some (.inl c), noS σ c) := by
  have k := h.2.2.2.2 (-c).toNat (by omega)
  exact C_no c σ h0 h1 k.1 k.2
theorem Mok.noFar {σ : St} (h : Mok σ) {c : Int} (h0 : -6 ≤ c) (h1 : c ≤ 0) : Rx k_X5_noFar 0 [.inr (.inl (16, 0)), .inl c] [] σ = some (some (.inl (1000000000 - c)), noS σ c) := by
  have k := h.2.2.2.2 (-c).toNat (by omega)
  exact C_noFar c σ h0 h1 k.1 k.2
theorem Mok.noWide {σ : St} (h : Mok σ) {c : Int} (h0 : -6 ≤ c) (h1 : c ≤ 0) : Rx k_X5_noWide 0 [.inr (.inl (16, 0)), .inl c] [] σ = some (some (.inr (.inr (4000000000000000000 - c))), noS σ c) := by
  have k := h.2.2.2.2 (-c).toNat (by omega)
  exact C_noWide c σ h0 h1 k.1 k.2
theorem Mok.z {σ : St} (h : Mok σ) : ∀ k : Nat, 58 ≤ k → σ 17 1 k = σ 17 0 k := fun k hk => by rw [h.2.2.2.1 1 k (by decide) hk, h.2.2.2.1 0 k (by decide) hk]
theorem Mok.cp {σ : St} (h : Mok σ) (u : AV) : Rx k_X5_copies 0 [.inr (.inl (17, 0)), .inr (.inl (17, 1)), u] [] σ = some (none, setR σ 1 (σ 17 0)) := C_copies 0 1 σ (by decide) h.z u
theorem Mok.cpS {σ : St} (h : Mok σ) : MS σ (setR σ 1 (σ 17 0)) := MS.set (fun k hk => (h.z k hk).symm)
/-- a question: refused with B, or answered A with only scratch changed -/
def Q (v : Option AV × St → Prop) (σ : St) (B A : Int) : Prop := ∃ σ', MS (if B = 0 then σ else noS σ B) σ' ∧ v (some (.inl (if B = 0 then A else B)), σ')
theorem Q_no {v : Option AV × St → Prop} {σ : St} {B A : Int} (h : B ≠ 0) (k : v (some (.inl B), noS σ B)) : Q v σ B A := ⟨noS σ B, by rw [if_neg h]; exact MS.refl _, by rw [if_neg h]; exact k⟩
theorem Q_ok {v : Option AV × St → Prop} {σ σ' : St} {A : Int} (h : MS σ σ') (k : v (some (.inl A), σ')) : Q v σ 0 A := ⟨σ', by rw [if_pos rfl]; exact h, by rw [if_pos rfl]; exact k⟩
abbrev isP (R : Rw) (p : Int) : Prop := 0 ≤ p ∧ p ≤ R 0 - 1
abbrev isT (R : Rw) (t : Int) : Prop := 0 ≤ t ∧ t ≤ R 1 - 1
theorem Mok.purp {σ : St} (h : Mok σ) (p : Int) : Rx k_X5_isPurpose 0 [.inr (.inl (16, 0)), .inl p] [] σ = some (some (.inl (if isP (σ 17 0) p then 1 else 0)), σ) := C_isPurpose p σ h.1.1
theorem Mok.thin {σ : St} (h : Mok σ) (p : Int) : Rx k_X5_isThing 0 [.inr (.inl (16, 0)), .inl p] [] σ = some (some (.inl (if isT (σ 17 0) p then 1 else 0)), σ) := C_isThing p σ h.1.1
theorem Mok.ct {σ : St} (h : Mok σ) : 0 ≤ σ 17 0 0 ∧ σ 17 0 0 ≤ 5 ∧ 0 ≤ σ 17 0 1 ∧ σ 17 0 1 ≤ 10 := h.1.1
/-- at -/
def atB (c : Int) : Int := if 0 ≤ c ∧ c ≤ 19 then 0 else -1
theorem M_at (c : Int) (σ : St) (h : Mok σ) : Q (fun z => Rx k_X5_at 0 [.inr (.inl (16, 0)), .inl c] [] σ = some z) σ (atB c) (whoF (σ 17 0) c) := by
  have hb := h.ct
  unfold atB
  by_cases h1 : 0 ≤ c ∧ c ≤ 19
  · rw [if_pos h1]
    refine Q_ok (MS.refl σ) ?_
    rw [b_X5_at_0, C_isPlace, if_pos h1]
    simp only [Option.bind_some, Option.toList_some, Option.toList_none, List.cons_append, List.nil_append, List.append_nil]
    rw [b_X5_at_4, if_neg (by decide), b_X5_at_7, C_whoAt _ _ _ hb.2.2.1 hb.2.2.2]
    simp only [Option.bind_some, Option.toList_some, Option.toList_none, List.cons_append, List.nil_append, List.append_nil]
    rw [b_X5_at_15]
  · rw [if_neg h1]
    refine Q_no (by decide) ?_
    rw [b_X5_at_0, C_isPlace, if_neg h1]
    simp only [Option.bind_some, Option.toList_some, Option.toList_none, List.cons_append, List.nil_append, List.append_nil]
    rw [b_X5_at_4, if_pos rfl, b_X5_at_18, h.no (by decide) (by decide)]
    simp only [Option.bind_some, Option.toList_some, Option.toList_none, List.cons_append, List.nil_append, List.append_nil]
    rw [b_X5_at_23]
/-- spare -/
def pB (R : Rw) (p : Int) : Int := if isP R p then 0 else -1
def tB (R : Rw) (t : Int) : Int := if isT R t then 0 else -1
theorem M_spare (p : Int) (σ : St) (h : Mok σ) : ∃ σ', MS (if pB (σ 17 0) p = 0 then σ else noS σ (-1)) σ' ∧ Rx k_X5_spare 0 [.inr (.inl (16, 0)), .inl p] [] σ = some (some (.inl (if pB (σ 17 0) p = 0 then spareF (σ 17 0) p else 1000000001)), σ') := by
  have hb := h.ct
  unfold pB
  by_cases h1 : isP (σ 17 0) p
  · rw [if_pos h1, if_pos rfl, if_pos rfl]
    refine ⟨σ, MS.refl σ, ?_⟩
    obtain ⟨p1, p2, p3, p4, p5, p6⟩ := h.1.2.1 p h1.1 (by omega)
    rw [b_X5_spare_0, h.purp, if_pos h1]
    simp only [Option.bind_some, Option.toList_some, Option.toList_none, List.cons_append, List.nil_append, List.append_nil]
    rw [b_X5_spare_5, if_neg (by decide), b_X5_spare_8, C_spareOf _ _ _ h.1.to1 h1.1 (by omega) p5 p6]
    simp only [Option.bind_some, Option.toList_some, Option.toList_none, List.cons_append, List.nil_append, List.append_nil]
    rw [b_X5_spare_16]
  · rw [if_neg h1, if_neg (by decide), if_neg (by decide)]
    refine ⟨noS σ (-1), MS.refl _, ?_⟩
    rw [b_X5_spare_0, h.purp, if_neg h1]
    simp only [Option.bind_some, Option.toList_some, Option.toList_none, List.cons_append, List.nil_append, List.append_nil]
    rw [b_X5_spare_5, if_pos rfl, b_X5_spare_19, h.noFar (by decide) (by decide)]
    simp only [Option.bind_some, Option.toList_some, Option.toList_none, List.cons_append, List.nil_append, List.append_nil]
    rw [b_X5_spare_24]
    rfl
/-- purpose: what of it -/
def purpB (R : Rw) (p w : Int) : Int := if isP R p then (if 0 ≤ w ∧ w ≤ 4 then 0 else -2) else -1
def purpA (R : Rw) (p w : Int) : Int := if w = 0 then kd R p else if w = 1 then fg R p else if w = 2 then sg R p else if w = 3 then loadF R p else lessF R p (R 2 + 1)
theorem M_purpose (p w : Int) (σ : St) (h : Mok σ) : Q (fun z => Rx k_X5_purpose 0 [.inr (.inl (16, 0)), .inl p, .inl w] [] σ = some z) σ (purpB (σ 17 0) p w) (purpA (σ 17 0) p w) := by
  have hb := h.ct
  unfold purpB
  by_cases h1 : isP (σ 17 0) p
  · have hl : Rx k_X5_purpose 0 [.inr (.inl (16, 0)), .inl p, .inl w] [] σ = Rx k_X5_purpose 14 [.inr (.inl (16, 0)), .inl p, .inl w] [] σ := by
      rw [b_X5_purpose_0, h.purp, if_pos h1]
      simp only [Option.bind_some, Option.toList_some, Option.toList_none, List.cons_append, List.nil_append, List.append_nil]
      rw [b_X5_purpose_5, if_neg (by decide)]
    rw [if_pos h1, hl]
    obtain ⟨p1, p2, p3, p4, p5, p6⟩ := h.1.2.1 p h1.1 (by omega)
    by_cases h2 : 0 ≤ w ∧ w ≤ 2
    · rw [if_pos (by omega)]
      refine Q_ok (MS.refl σ) ?_
      rw [b_X5_purpose_14, C_isIn, if_pos h2]
      simp only [Option.bind_some, Option.toList_some, Option.toList_none, List.cons_append, List.nil_append, List.append_nil]
      rw [b_X5_purpose_20, if_neg (by decide), b_X5_purpose_23, C_ofP _ _ (by omega) (by omega)]
      simp only [Option.bind_some, Option.toList_some, Option.toList_none, List.cons_append, List.nil_append, List.append_nil]
      rw [b_X5_purpose_31 _ _ _ _ (by omega) (by omega) (by omega) (by omega)]
      have hw : w = 0 ∨ w = 1 ∨ w = 2 := by omega
      rcases hw with rfl | rfl | rfl <;> rfl
    · have hm : Rx k_X5_purpose 14 [.inr (.inl (16, 0)), .inl p, .inl w] [] σ = Rx k_X5_purpose 35 [.inr (.inl (16, 0)), .inl p, .inl w] [] σ := by
        rw [b_X5_purpose_14, C_isIn, if_neg h2]
        simp only [Option.bind_some, Option.toList_some, Option.toList_none, List.cons_append, List.nil_append, List.append_nil]
        rw [b_X5_purpose_20, if_pos rfl]
      rw [hm]
      by_cases h3 : w = 3
      · subst h3
        rw [if_pos (by decide)]
        refine Q_ok (MS.refl σ) ?_
        rw [b_X5_purpose_35, if_pos rfl, b_X5_purpose_40, C_loadOf _ _ _ h.1.to1]
        simp only [Option.bind_some, Option.toList_some, Option.toList_none, List.cons_append, List.nil_append, List.append_nil]
        rw [b_X5_purpose_48]
        rfl
      · by_cases h4 : w = 4
        · subst h4
          rw [if_pos (by decide)]
          refine Q_ok (MS.refl σ) ?_
          have hd := h.2.1
          have hd2 := h.2.2.1
          rw [b_X5_purpose_35, if_neg (by decide), b_X5_purpose_51, if_pos rfl, b_X5_purpose_56 _ _ _ (by omega) (by omega), C_lessBy _ _ _ _ h.1.to1 h1.1 (by omega) ⟨p1, p2⟩ ⟨p3, p4⟩ ⟨p5, p6⟩]
          simp only [Option.bind_some, Option.toList_some, Option.toList_none, List.cons_append, List.nil_append, List.append_nil]
          rw [b_X5_purpose_72]
          rfl
        · rw [if_neg (by omega)]
          refine Q_no (by decide) ?_
          rw [b_X5_purpose_35, if_neg h3, b_X5_purpose_51, if_neg h4, b_X5_purpose_75, h.no (by decide) (by decide)]
          simp only [Option.bind_some, Option.toList_some, Option.toList_none, List.cons_append, List.nil_append, List.append_nil]
          rw [b_X5_purpose_81]
  · rw [if_neg h1]
    refine Q_no (by decide) ?_
    rw [b_X5_purpose_0, h.purp, if_neg h1]
    simp only [Option.bind_some, Option.toList_some, Option.toList_none, List.cons_append, List.nil_append, List.append_nil]
    rw [b_X5_purpose_5, if_pos rfl, b_X5_purpose_8, h.no (by decide) (by decide)]
    simp only [Option.bind_some, Option.toList_some, Option.toList_none, List.cons_append, List.nil_append, List.append_nil]
    rw [b_X5_purpose_13]
/-- thing: what of it -/
def thinB (R : Rw) (t w : Int) : Int := if isT R t then (if 0 ≤ w ∧ w ≤ 3 then 0 else -2) else -1
def thinA (R : Rw) (t w : Int) : Int := if w = 0 then wt R t else if w = 1 then pl R t else if w = 2 then on R t else uq R t
theorem M_thing (t w : Int) (σ : St) (h : Mok σ) : Q (fun z => Rx k_X5_thing 0 [.inr (.inl (16, 0)), .inl t, .inl w] [] σ = some z) σ (thinB (σ 17 0) t w) (thinA (σ 17 0) t w) := by
  have hb := h.ct
  unfold thinB
  by_cases h1 : isT (σ 17 0) t
  · have hl : Rx k_X5_thing 0 [.inr (.inl (16, 0)), .inl t, .inl w] [] σ = Rx k_X5_thing 14 [.inr (.inl (16, 0)), .inl t, .inl w] [] σ := by
      rw [b_X5_thing_0, h.thin, if_pos h1]
      simp only [Option.bind_some, Option.toList_some, Option.toList_none, List.cons_append, List.nil_append, List.append_nil]
      rw [b_X5_thing_5, if_neg (by decide)]
    rw [if_pos h1, hl, b_X5_thing_14, C_isIn]
    by_cases h2 : 0 ≤ w ∧ w ≤ 3
    · rw [if_pos h2, if_pos h2]
      refine Q_ok (MS.refl σ) ?_
      simp only [Option.bind_some, Option.toList_some, Option.toList_none, List.cons_append, List.nil_append, List.append_nil]
      rw [b_X5_thing_20, if_neg (by decide), b_X5_thing_23, C_ofT _ _ (by omega) (by omega)]
      simp only [Option.bind_some, Option.toList_some, Option.toList_none, List.cons_append, List.nil_append, List.append_nil]
      rw [b_X5_thing_31 _ _ _ _ (by omega) (by omega) (by omega) (by omega)]
      have hw : w = 0 ∨ w = 1 ∨ w = 2 ∨ w = 3 := by omega
      rcases hw with rfl | rfl | rfl | rfl <;> rfl
    · rw [if_neg h2, if_neg h2]
      refine Q_no (by decide) ?_
      simp only [Option.bind_some, Option.toList_some, Option.toList_none, List.cons_append, List.nil_append, List.append_nil]
      rw [b_X5_thing_20, if_pos rfl, b_X5_thing_37, h.no (by decide) (by decide)]
      simp only [Option.bind_some, Option.toList_some, Option.toList_none, List.cons_append, List.nil_append, List.append_nil]
      rw [b_X5_thing_43]
  · rw [if_neg h1]
    refine Q_no (by decide) ?_
    rw [b_X5_thing_0, h.thin, if_neg h1]
    simp only [Option.bind_some, Option.toList_some, Option.toList_none, List.cons_append, List.nil_append, List.append_nil]
    rw [b_X5_thing_5, if_pos rfl, b_X5_thing_8, h.no (by decide) (by decide)]
    simp only [Option.bind_some, Option.toList_some, Option.toList_none, List.cons_append, List.nil_append, List.append_nil]
    rw [b_X5_thing_13]
/-- falls -/
theorem M_falls (t : Int) (σ : St) (h : Mok σ) : Q (fun z => Rx k_X5_falls 0 [.inr (.inl (16, 0)), .inl t] [] σ = some z) σ (tB (σ 17 0) t) (downF (σ 17 0) (2 ^ t.toNat) 1) := by
  have hb := h.ct
  unfold tB
  by_cases h1 : isT (σ 17 0) t
  · rw [if_pos h1]
    obtain ⟨n, rfl⟩ : ∃ n : Nat, t = n := ⟨t.toNat, by omega⟩
    have hd := h.2.1
    have hd2 := h.2.2.1
    obtain ⟨σ', k1, k2⟩ := C_fallsOf n σ (by omega) h.1 h.z hd (by omega)
    refine Q_ok k1 ?_
    rw [b_X5_falls_0, h.thin, if_pos h1]
    simp only [Option.bind_some, Option.toList_some, Option.toList_none, List.cons_append, List.nil_append, List.append_nil]
    rw [b_X5_falls_5, if_neg (by decide), b_X5_falls_8, k2]
    simp only [Option.bind_some, Option.toList_some, Option.toList_none, List.cons_append, List.nil_append, List.append_nil]
    rw [b_X5_falls_13, Int.toNat_natCast]
  · rw [if_neg h1]
    refine Q_no (by decide) ?_
    rw [b_X5_falls_0, h.thin, if_neg h1]
    simp only [Option.bind_some, Option.toList_some, Option.toList_none, List.cons_append, List.nil_append, List.append_nil]
    rw [b_X5_falls_5, if_pos rfl, b_X5_falls_16, h.no (by decide) (by decide)]
    simp only [Option.bind_some, Option.toList_some, Option.toList_none, List.cons_append, List.nil_append, List.append_nil]
    rw [b_X5_falls_21]
