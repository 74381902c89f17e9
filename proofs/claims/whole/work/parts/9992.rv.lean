/-! class and reference beside each other -/
/-- all but the rack now: refusals, image, row, letters -/
def CMr (σ : St) (b : Int) : Prop :=
  (∀ r k : Nat, r < 4 → 58 ≤ k → σ 17 r k = 0) ∧ (∀ k : Nat, k < 7 → (0 ≤ σ 21 0 k ∧ σ 21 0 k ≤ b) ∧ σ 6 0 k = σ 21 0 k) ∧
  (σ 0 0 4 = σ 16 0 5 ∧ (σ 16 0 5 ≠ 0 → RK σ 2 (σ 17 2) ∧ Dk (σ 17 2))) ∧
  ((0 ≤ σ 16 0 10 ∧ σ 16 0 10 ≤ 16) ∧ σ 0 0 6 = σ 16 0 10 ∧ ∀ i : Nat, (i : Int) < σ 16 0 10 → σ 5 0 i = σ 20 0 i) ∧
  ((0 ≤ σ 16 0 9 ∧ σ 16 0 9 ≤ 96) ∧ σ 3 0 1 = σ 16 0 9 ∧ ∀ i : Nat, (i : Int) < σ 16 0 9 → σ 4 0 i = σ 19 0 i ∧ 0 ≤ σ 19 0 i ∧ σ 19 0 i ≤ 255)
def CM (σ : St) (b : Int) : Prop := RK σ 0 (σ 17 0) ∧ Dk (σ 17 0) ∧ CMr σ b
theorem CM.mok {σ : St} {b : Int} (h : CM σ b) (hb : b ≤ 1000000) : Mok σ := by
  obtain ⟨h1, h2, h3, h4, _⟩ := h
  refine ⟨h1.1, h2.1, h2.2, h3, fun k hk => ?_⟩
  have := (h4 k hk).1
  omega
theorem CM.xok {σ : St} {b : Int} (h : CM σ b) (hb : b ≤ 1000000) : Xok σ := by
  obtain ⟨h1, h2, h3, h4, _⟩ := h
  intro k hk
  have := h4 k hk
  omega
/-- what a question of the class may change: nothing that the rest speaks of -/
def WS (σ σ' : St) : Prop := ∀ t r k, (7 ≤ t ∧ t ≤ 15 ∧ (r = 0 ∨ r = 1)) ∨ t = 2 ∨ σ' t r k = σ t r k
theorem XS.ws {σ σ' : St} (h : XS σ σ') : WS σ σ' := fun t r k => by
  rcases h t r k with x | x | x
  · exact Or.inl ⟨x.1, x.2.1, Or.inr x.2.2⟩
  · exact Or.inr (Or.inl x)
  · exact Or.inr (Or.inr x)
theorem FR.ws {σ σ' : St} (h : FR 0 σ σ') : WS σ σ' := fun t r k => by
  rcases h t r k with x | x
  · exact Or.inl ⟨x.1, x.2.1, Or.inl x.2.2⟩
  · exact Or.inr (Or.inr x)
theorem WS.tag {σ σ' : St} (h : WS σ σ') {t : Nat} (ht : t < 7 ∨ 15 < t) (h2 : t ≠ 2) : σ' t = σ t := by
  funext r k
  rcases h t r k with x | x | x
  · omega
  · exact absurd x h2
  · exact x
theorem WS.two {σ σ' : St} (h : WS σ σ') {t : Nat} (h2 : t ≠ 2) : σ' t 2 = σ t 2 := by
  funext k
  rcases h t 2 k with x | x | x
  · omega
  · exact absurd x h2
  · exact x
theorem CMr.ws {σ σ' : St} {b : Int} (h : CMr σ b) (k : WS σ σ') : CMr σ' b := by
  obtain ⟨h3, h4, h5, h6, h7⟩ := h
  have e0 := k.tag (t := 0) (Or.inl (by decide)) (by decide)
  have e3 := k.tag (t := 3) (Or.inl (by decide)) (by decide)
  have e4 := k.tag (t := 4) (Or.inl (by decide)) (by decide)
  have e5 := k.tag (t := 5) (Or.inl (by decide)) (by decide)
  have e6 := k.tag (t := 6) (Or.inl (by decide)) (by decide)
  have e16 := k.tag (t := 16) (Or.inr (by decide)) (by decide)
  have e17 := k.tag (t := 17) (Or.inr (by decide)) (by decide)
  have e19 := k.tag (t := 19) (Or.inr (by decide)) (by decide)
  have e20 := k.tag (t := 20) (Or.inr (by decide)) (by decide)
  have e21 := k.tag (t := 21) (Or.inr (by decide)) (by decide)
  unfold CMr
  rw [e0, e3, e4, e5, e6, e16, e17, e19, e20, e21]
  refine ⟨h3, h4, ⟨h5.1, fun z => ⟨(h5.2 z).1.tg fun t a b => k.two (by omega), (h5.2 z).2⟩⟩, h6, h7⟩
theorem CMr.ms {σ σ' : St} {b : Int} (h : CMr σ b) (k : MS σ σ') : CMr σ' b := by
  obtain ⟨h3, h4, h5, h6, h7⟩ := h
  have e : ∀ t : Nat, t ≠ 17 → t ≠ 18 → t ≠ 22 → σ' t = σ t := fun t a b c => k.tag a b c
  have e2 := k.row (r := 2) (by decide)
  unfold CMr
  rw [e 0 (by decide) (by decide) (by decide), e 3 (by decide) (by decide) (by decide), e 4 (by decide) (by decide) (by decide), e 5 (by decide) (by decide) (by decide), e 6 (by decide) (by decide) (by decide), e 16 (by decide) (by decide) (by decide), e 19 (by decide) (by decide) (by decide), e 20 (by decide) (by decide) (by decide), e 21 (by decide) (by decide) (by decide), e2]
  refine ⟨fun r j hr hj => ?_, h4, ⟨h5.1, fun z => ⟨(h5.2 z).1.tg fun t a b => by rw [e t (by omega) (by omega) (by omega)], (h5.2 z).2⟩⟩, h6, h7⟩
  by_cases z : r = 1
  · rw [z, k.out hj]; exact h3 1 j (by decide) hj
  · rw [k.row z]; exact h3 r j hr hj
theorem CM.ms {σ σ' : St} {b : Int} (h : CM σ b) (k : MS σ σ') : CM σ' b := by
  have e0 := k.row (r := 0) (by decide)
  unfold CM
  rw [e0]
  exact ⟨h.1.tg fun t a b => by rw [k.tag (by omega) (by omega) (by omega)], h.2.1, h.2.2.ms k⟩
theorem CM.xs {σ σ' : St} {b : Int} (h : CM σ b) (k : XS σ σ') : CM σ' b := by
  have e17 := k.tag (t := 17) (Or.inr (by decide)) (by decide)
  unfold CM
  rw [e17]
  exact ⟨h.1.xs k (by decide), h.2.1, h.2.2.ws k.ws⟩
theorem CM.le {σ : St} {b c : Int} (h : CM σ b) (k : b ≤ c) : CM σ c := by
  obtain ⟨h1, h2, h3, h4, h5⟩ := h
  refine ⟨h1, h2, h3, fun j hj => ?_, h5⟩
  have := h4 j hj
  exact ⟨⟨this.1.1, by omega⟩, this.2⟩
/-- both refuse alike -/
theorem CM.no {σ : St} {b c : Int} (h : CM σ b) (h0 : -6 ≤ c) (h1 : c ≤ 0) : CM (noS (noX σ c) c) (b + 1) := by
  obtain ⟨hK, hd, h3, h4, h5, h6, h7⟩ := h
  have e : ∀ t : Nat, t ≠ 6 → t ≠ 21 → noS (noX σ c) c t = σ t := fun t a b => by unfold noS noX; rw [up_t b, up_t a]
  unfold CM CMr
  rw [e 0 (by decide) (by decide), e 3 (by decide) (by decide), e 4 (by decide) (by decide), e 5 (by decide) (by decide), e 16 (by decide) (by decide), e 17 (by decide) (by decide), e 19 (by decide) (by decide), e 20 (by decide) (by decide)]
  refine ⟨hK.tg fun t a b => by rw [e t (by omega) (by omega)], hd, h3, fun k hk => ?_, ⟨h5.1, fun z => ⟨(h5.2 z).1.tg fun t a b => by rw [e t (by omega) (by omega)], (h5.2 z).2⟩⟩, h6, h7⟩
  have e21 : noS (noX σ c) c 21 0 k = if k = (-c).toNat then σ 21 0 k + 1 else σ 21 0 k := by
    unfold noS
    by_cases z : k = (-c).toNat
    · rw [if_pos z, z, up_at]; unfold noX; rw [upx_t (by decide)]
    · rw [if_neg z, upx_k z]; unfold noX; rw [upx_t (by decide)]
  have e6 : noS (noX σ c) c 6 0 k = if k = (-c).toNat then σ 6 0 k + 1 else σ 6 0 k := by
    unfold noS
    rw [upx_t (by decide)]
    unfold noX
    by_cases z : k = (-c).toNat
    · rw [if_pos z, z, up_at]
    · rw [if_neg z, upx_k z]
  have := h4 k hk
  rw [e21, e6]
  split <;> omega
theorem XS_keep {σ σ' : St} (h : XS σ σ') {t : Nat} (ht : t < 7 ∨ 15 < t) (h2 : t ≠ 2) (r k : Nat) (v : Int) : XS (up σ t r k v) (up σ' t r k v) := by
  intro s q j
  by_cases e : s = t ∧ q = r ∧ j = k
  · right; right
    obtain ⟨rfl, rfl, rfl⟩ := e
    rw [up_at, up_at]
  · rw [up_no e, up_no e]
    exact h s q j
/-- the script is as it was -/
def Sc (σ σ' : St) : Prop := σ' 32 = σ 32
/-- a step: both answer alike, and stand beside each other behind it -/
def StpC (y5 y4 : Nat) (l4 l5 : List AV) (σ : St) (b : Int) : Prop := ∃ (v : AV) (σ1 σ2 : St), Rx y4 0 l4 [] σ = some (some v, σ1) ∧ Rx y5 0 l5 [] σ1 = some (some v, σ2) ∧ CM σ2 (b + 1) ∧ σ1 32 = σ 32 ∧ σ2 32 = σ 32
