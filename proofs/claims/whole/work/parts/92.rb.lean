/-! a rack becomes another -/
theorem cpy_t {σ : St} {t0 r0 sp t r dp n s q j : Nat} (h : s ≠ t) : cpy σ t0 r0 sp t r dp n s q j = σ s q j := by unfold cpy; rw [if_neg (fun z => h z.1)]
theorem cpy_r {σ : St} {t0 r0 sp t r dp n s q j : Nat} (h : q ≠ r) : cpy σ t0 r0 sp t r dp n s q j = σ s q j := by unfold cpy; rw [if_neg (fun z => h z.2.1)]
theorem cpy_a {σ : St} {t0 r0 t r n k : Nat} (h : k < n) : cpy σ t0 r0 0 t r 0 n t r k = σ t0 r0 k := by
  unfold cpy
  rw [if_pos ⟨rfl, rfl, Nat.zero_le k, by omega⟩, Nat.zero_add, Nat.sub_zero]
theorem upx_t {σ : St} {t r k s q j : Nat} {v : Int} (h : s ≠ t) : up σ t r k v s q j = σ s q j := up_no (fun z => h z.1)
theorem upx_r {σ : St} {t r k s q j : Nat} {v : Int} (h : q ≠ r) : up σ t r k v s q j = σ s q j := up_no (fun z => h z.2.1)
theorem upx_k {σ : St} {t r k s q j : Nat} {v : Int} (h : j ≠ k) : up σ t r k v s q j = σ s q j := up_no (fun z => h z.2.2)
theorem FR.cp (q : Nat) (σ : St) {t : Nat} (h : 7 ≤ t) (h2 : t ≤ 15) (t0 r0 sp dp n : Nat) : FR q σ (cpy σ t0 r0 sp t q dp n) := by
  intro s r j
  by_cases e : s = t ∧ r = q
  · exact Or.inl ⟨by omega, by omega, e.2⟩
  · right
    unfold cpy
    rw [if_neg (fun z => e ⟨z.1, z.2.1⟩)]
theorem C_become (p q : Nat) (σ : St) (hn : q ≠ p) : ∃ σ', Rx k_X2_become 0 [.inr (.inl (7, p)), .inr (.inl (7, q))] [] σ = some (none, σ') ∧ FR p σ σ' ∧ (∀ k : Nat, k < 4 → σ' 7 p k = σ 7 q k) ∧ (∀ k : Nat, k < 5 → σ' 8 p k = σ 8 q k ∧ σ' 9 p k = σ 9 q k ∧ σ' 10 p k = σ 10 q k ∧ σ' 11 p k = σ 11 q k) ∧ (∀ k : Nat, k < 10 → σ' 12 p k = σ 12 q k ∧ σ' 13 p k = σ 13 q k ∧ σ' 14 p k = σ 14 q k) ∧ (∀ k : Nat, k < 20 → σ' 15 p k = σ 15 q k) := by
  refine ⟨_, b_X2_become_0 p q σ, ?_, ?_, ?_, ?_, ?_⟩
  · refine FR.trans (FR.trans (FR.trans (FR.trans (FR.trans (FR.trans (FR.trans (FR.trans (FR.trans (FR.trans (FR.trans (FR.up p σ (by decide) (by decide) _ _) (FR.up p _ (by decide) (by decide) _ _)) (FR.up p _ (by decide) (by decide) _ _)) (FR.up p _ (by decide) (by decide) _ _)) (FR.cp p _ (by decide) (by decide) _ _ _ _ _)) (FR.cp p _ (by decide) (by decide) _ _ _ _ _)) (FR.cp p _ (by decide) (by decide) _ _ _ _ _)) (FR.cp p _ (by decide) (by decide) _ _ _ _ _)) (FR.cp p _ (by decide) (by decide) _ _ _ _ _)) (FR.cp p _ (by decide) (by decide) _ _ _ _ _)) (FR.cp p _ (by decide) (by decide) _ _ _ _ _)) (FR.cp p _ (by decide) (by decide) _ _ _ _ _)
  · intro k hk
    have hc : k = 0 ∨ k = 1 ∨ k = 2 ∨ k = 3 := by omega
    rcases hc with rfl | rfl | rfl | rfl <;>
      simp (disch := first | assumption | decide) only [cpy_t, upx_k, upx_r, up_at]
  · intro k hk
    refine ⟨?_, ?_, ?_, ?_⟩ <;>
      simp (disch := first | assumption | decide) only [cpy_t, cpy_r, cpy_a, upx_t, upx_r]
  · intro k hk
    refine ⟨?_, ?_, ?_⟩ <;>
      simp (disch := first | assumption | decide) only [cpy_t, cpy_r, cpy_a, upx_t, upx_r]
  · intro k hk
    simp (disch := first | assumption | decide) only [cpy_t, cpy_r, cpy_a, upx_t, upx_r]
theorem K_become {σ : St} {q : Nat} {R : Rw} (h : RK σ q R) (p : Nat) (hn : q ≠ p) : ∃ σ', Rx k_X2_become 0 [.inr (.inl (7, p)), .inr (.inl (7, q))] [] σ = some (none, σ') ∧ FR p σ σ' ∧ RK σ' p R := by
  obtain ⟨σ', e, f, a, b, c, d⟩ := C_become p q σ hn
  obtain ⟨hI, h1, h2, h3, h4⟩ := h
  have hb := hI.1
  unfold Iv0 at hb
  refine ⟨σ', e, f, hI, ?_, ?_, ?_, ?_⟩
  · rw [a 0 (by decide), a 1 (by decide), a 2 (by decide), a 3 (by decide)]; exact h1
  · intro x x0 x1
    obtain ⟨b1, b2, b3, b4⟩ := b x.toNat (by omega)
    rw [b1, b2, b3, b4]
    exact h2 x x0 x1
  · intro x x0 x1
    obtain ⟨c1, c2, c3⟩ := c x.toNat (by omega)
    rw [c1, c2, c3]
    exact h3 x x0 x1
  · intro x x0 x1
    rw [d x.toNat (by omega)]
    exact h4 x x0 x1
/-! rows that agree -/
theorem whoG_cg {R R' : Rw} (c : Int) : ∀ (n : Nat) (t : Int), (∀ u, t ≤ u → u < t + n → pl R' u = pl R u) → whoG R' c n t = whoG R c n t := by
  intro n
  induction n with
  | zero => intro t _; rfl
  | succ n ih =>
    intro t h
    rw [whoG_s, whoG_s, h t (by omega) (by omega), ih (t + 1) (fun u a b => h u (by omega) (by omega))]
theorem who_cg {R R' : Rw} (h0 : 0 ≤ R 1) (h1 : R' 1 = R 1) (h : ∀ u, 0 ≤ u → u < R 1 → pl R' u = pl R u) (c : Int) : whoF R' c = whoF R c := by
  unfold whoF
  rw [h1]
  exact whoG_cg c _ 0 (fun u a b => h u a (by omega))
theorem who_un {R : Rw} (h : Iv R) {t c : Int} (ht : isT R t) (hc : pl R t = c) : whoF R c = t := by
  have hb := h.1
  unfold Iv0 at hb
  rcases who_spec (R := R) hb.2.2.1 c with k | k
  · exact absurd hc (who_none hb.2.2.1 (by omega) t ht.1 (by omega))
  · exact h.2.2.2 _ _ k.1 k.2.1 ht.1 (by omega) (k.2.2.trans hc.symm)
theorem upG_cg {R R' : Rw} : ∀ n : Nat, (∀ u : Nat, u < n → (uq R' u = 1 ↔ uq R u = 1)) → upG R' n = upG R n := by
  intro n
  induction n with
  | zero => intro _; rfl
  | succ n ih =>
    intro h
    rw [upG_s, upG_s, ih (fun u hu => h u (by omega))]
    by_cases e : uq R n = 1
    · rw [if_pos e, if_pos ((h n (by omega)).2 e)]
    · rw [if_neg e, if_neg (fun z => e ((h n (by omega)).1 z))]
theorem upF_cg {R R' : Rw} (h1 : R' 1 = R 1) (h : ∀ u, 0 ≤ u → u < R 1 → uq R' u = uq R u) : upF R' = upF R := by
  unfold upF
  rw [h1]
  exact upG_cg _ (fun u hu => by rw [h u (by omega) (by omega)])
/-- what a thing weighs on a purpose -/
def cwF (R : Rw) (t p : Int) : Int := if uq R t = 1 ∧ on R t = p then wt R t else 0
theorem loadG_w (R : Rw) (p : Int) (n : Nat) : loadG R p (n + 1) = loadG R p n + cwF R n p := rfl
theorem loadG_cg {R R' : Rw} (p : Int) : ∀ n : Nat, (∀ u : Nat, u < n → cwF R' u p = cwF R u p) → loadG R' p n = loadG R p n := by
  intro n
  induction n with
  | zero => intro _; rfl
  | succ n ih =>
    intro h
    rw [loadG_w, loadG_w, ih (fun u hu => h u (by omega)), h n (by omega)]
theorem loadF_cg {R R' : Rw} (p : Int) (h1 : R' 1 = R 1) (h : ∀ u, 0 ≤ u → u < R 1 → cwF R' u p = cwF R u p) : loadF R' p = loadF R p := by
  unfold loadF
  rw [h1]
  exact loadG_cg p _ (fun u hu => h u (by omega) (by omega))
theorem loadG_one {R R' : Rw} (p : Int) (t : Nat) : ∀ n : Nat, (∀ u : Nat, u ≠ t → u < n → cwF R' u p = cwF R u p) → loadG R' p n = loadG R p n + if t < n then cwF R' t p - cwF R t p else 0 := by
  intro n
  induction n with
  | zero => intro _; rw [if_neg (Nat.not_lt_zero t)]; rfl
  | succ n ih =>
    intro h
    rw [loadG_w, loadG_w, ih (fun u hu hn => h u hu (by omega))]
    by_cases e : n = t
    · subst e
      rw [if_neg (Nat.lt_irrefl n), if_pos (Nat.lt_succ_self n)]
      omega
    · rw [h n e (by omega)]
      by_cases e2 : t < n
      · rw [if_pos e2, if_pos (by omega)]; omega
      · rw [if_neg e2, if_neg (by omega)]; omega
theorem loadF_one {R R' : Rw} (p : Int) {t : Int} (ht : isT R t) (h1 : R' 1 = R 1) (h : ∀ u, 0 ≤ u → u ≠ t → cwF R' u p = cwF R u p) : loadF R' p = loadF R p + (cwF R' t p - cwF R t p) := by
  unfold loadF
  rw [h1, loadG_one p t.toNat _ (fun u hu _ => h u (by omega) (by omega)), if_pos (by omega), show ((t.toNat : Nat) : Int) = t by omega]
