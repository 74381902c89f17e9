/-! strengths, places -/
theorem RK.w10 {σ : St} {q : Nat} {R : Rw} (h : RK σ q R) {p v : Int} (hp : isP R p) (hv : 0 ≤ v ∧ v ≤ 99) : RK (up σ 10 q p.toNat v) q (wrt R (3 + 3 * p + 2).toNat v) := by
  have hI := h.1
  have hb := hI.1
  unfold Iv0 at hb
  obtain ⟨e0, e1, e2⟩ := sw_0 (R := R) (v := v) hp.1 (show p < 5 by omega)
  refine ⟨hI.sw hp.1 (by omega) hv, ?_⟩
  have eU : upF (wrt R (3 + 3 * p + 2).toNat v) = upF R := upF_cg e1 (fun u a _ => (sw_wt hp.1 (by omega) a).2.2.2)
  obtain ⟨h1, h2, h3, h4⟩ := h.2
  refine ⟨?_, fun x a b => ?_, fun x a b => ?_, fun x a b => ?_⟩
  · rw [up_t (s := 7) (by decide), e0, e1, e2, eU]; exact h1
  · rw [e0] at b
    obtain ⟨k1, k2, k3⟩ := sw_kd (R := R) (v := v) hp.1 a
    obtain ⟨a1, a2, a3, a4⟩ := h2 x a b
    rw [up_t (s := 8) (by decide), up_t (s := 9) (by decide), up_t (s := 11) (by decide), k1, k2, k3, loadF_cg x e1 (fun u c _ => by
      obtain ⟨m1, m2, m3, m4⟩ := sw_wt (R := R) (v := v) hp.1 (show p < 5 by omega) c
      unfold cwF
      rw [m1, m3, m4])]
    refine ⟨a1, a2, ?_, a4⟩
    by_cases e : x = p
    · rw [e, up_at, if_pos rfl]
    · rw [upx_k (by omega), if_neg e]; exact a3
  · rw [e1] at b
    obtain ⟨m1, m2, m3, m4⟩ := sw_wt (R := R) (v := v) hp.1 (show p < 5 by omega) a
    rw [up_t (s := 12) (by decide), up_t (s := 13) (by decide), up_t (s := 14) (by decide), m1, m2, m3]
    exact h3 x a b
  · rw [up_t (s := 15) (by decide), who_cg (by omega) e1 (fun u c _ => (sw_wt hp.1 (by omega) c).2.1)]
    exact h4 x a b
theorem K_strengthen {σ : St} {q : Nat} {R : Rw} (h : RK σ q R) {p v : Int} (hp : isP R p) (hv : 0 ≤ v ∧ v ≤ 99) : ∃ σ', Rx k_X2_strengthen 0 [.inr (.inl (7, q)), .inl p, .inl v] [] σ = some (some (.inl 1), σ') ∧ FR q σ σ' ∧ RK σ' q (wrt R (3 + 3 * p + 2).toNat v) := by
  have hi := h.1.1
  have hb := h.1.1
  unfold Iv0 at hb
  refine ⟨_, ?_, FR.up q σ (t := 10) (by decide) (by decide) p.toNat v, h.w10 hp hv⟩
  rw [b_X2_strengthen_0, K_isPurpose h.2 hi, if_pos hp]
  simp only [Option.bind_some, Option.toList_some, Option.toList_none, List.cons_append, List.nil_append, List.append_nil]
  rw [b_X2_strengthen_5, if_neg (by decide), (b_X2_strengthen_10 (h0 := by omega) (h1 := by omega))]
theorem K_strengthenNo {σ : St} {q : Nat} {R : Rw} (h : RK σ q R) {p v : Int} (hp : ¬ isP R p) : Rx k_X2_strengthen 0 [.inr (.inl (7, q)), .inl p, .inl v] [] σ = some (some (.inl 0), σ) := by
  rw [b_X2_strengthen_0, K_isPurpose h.2 h.1.1, if_neg hp]
  simp only [Option.bind_some, Option.toList_some, Option.toList_none, List.cons_append, List.nil_append, List.append_nil]
  rw [b_X2_strengthen_5, if_pos rfl, b_X2_strengthen_8]
theorem K_isPlace (c : Int) (σ : St) : Rx k_X4_isPlace 0 [.inl c] [] σ = some (some (.inl (if 0 ≤ c ∧ c ≤ 19 then 1 else 0)), σ) := by
  rw [b_X4_isPlace_0]
  by_cases h1 : c < 0
  · rw [if_pos h1, b_X4_isPlace_14, if_neg (show ¬ (0 ≤ c ∧ c ≤ 19) by omega)]
  · rw [if_neg h1, b_X4_isPlace_4]
    by_cases h2 : c < 20
    · rw [if_pos h2, b_X4_isPlace_10, if_pos (show 0 ≤ c ∧ c ≤ 19 by omega)]
    · rw [if_neg h2, b_X4_isPlace_14, if_neg (show ¬ (0 ≤ c ∧ c ≤ 19) by omega)]
theorem who_9 {R : Rw} (hb : Iv0 R) {c : Int} : whoF R c = -9 ↔ whoF R c < 0 := by
  unfold Iv0 at hb
  have := who_spec (R := R) hb.2.2.1 c
  omega
theorem K_isFreeFor {σ : St} {q : Nat} {R : Rw} {L : Int → Int} {U : Int} (h : RKp σ q R L U) (hb : Iv0 R) (t c : Int) : Rx k_X2_isFreeFor 0 [.inr (.inl (7, q)), .inl t, .inl c] [] σ = some (some (.inl (if (0 ≤ c ∧ c ≤ 19) ∧ (whoF R c < 0 ∨ whoF R c = t) then 1 else 0)), σ) := by
  rw [b_X2_isFreeFor_0, K_isPlace]
  simp only [Option.bind_some, Option.toList_some, Option.toList_none, List.cons_append, List.nil_append, List.append_nil]
  rw [b_X2_isFreeFor_4]
  by_cases h1 : 0 ≤ c ∧ c ≤ 19
  · rw [if_pos h1, if_neg (by decide), (b_X2_isFreeFor_7 (h0 := by omega) (h1 := by omega)), h.2.2.2 c (by omega) (by omega)]
    by_cases h2 : whoF R c = -9
    · rw [if_pos h2, b_X2_isFreeFor_28, if_pos ⟨h1, Or.inl ((who_9 hb).1 h2)⟩]
    · rw [if_neg h2, (b_X2_isFreeFor_18 (h0 := by omega) (h1 := by omega)), h.2.2.2 c (by omega) (by omega)]
      by_cases h3 : whoF R c = t
      · rw [if_pos h3, b_X2_isFreeFor_28, if_pos ⟨h1, Or.inr h3⟩]
      · rw [if_neg h3, b_X2_isFreeFor_32, if_neg (fun z => z.2.elim (fun y => h2 ((who_9 hb).2 y)) h3)]
  · rw [if_neg h1, if_pos rfl, b_X2_isFreeFor_32, if_neg (fun z => h1 z.1)]
/-- the row with a thing in another place, which is free for it -/
theorem Iv.mv {R : Rw} (h : Iv R) {t c : Int} (ht : isT R t) (hc : 0 ≤ c ∧ c ≤ 19) (hf : whoF R c < 0 ∨ whoF R c = t) : Iv (wrt R (18 + 4 * t + 1).toNat c) := by
  have hb := h.1
  unfold Iv0 at hb
  refine h.plw ht.1 hc (fun u a b e z => ?_)
  have k := who_un h (t := u) (c := c) ⟨a, by omega⟩ z
  omega
theorem who_mv {R : Rw} (h : Iv R) {t c : Int} (ht : isT R t) (hc : 0 ≤ c ∧ c ≤ 19) (hf : whoF R c < 0 ∨ whoF R c = t) (x : Int) : whoF (wrt R (18 + 4 * t + 1).toNat c) x = if x = c then t else if x = pl R t then -9 else whoF R x := by
  have hb := h.1
  unfold Iv0 at hb
  have hI := h.mv ht hc hf
  have e1 : wrt R (18 + 4 * t + 1).toNat c 1 = R 1 := wrt_ne (by omega)
  have p1 : pl (wrt R (18 + 4 * t + 1).toNat c) t = c := wrt_eq rfl
  have p2 : ∀ u, 0 ≤ u → u ≠ t → pl (wrt R (18 + 4 * t + 1).toNat c) u = pl R u := fun u a b => wrt_ne (by omega)
  by_cases hx : x = c
  · rw [if_pos hx]
    exact who_un hI (by rw [isT, e1]; exact ht) (by rw [p1, hx])
  · rw [if_neg hx]
    rcases who_spec (R := wrt R (18 + 4 * t + 1).toNat c) (by rw [e1]; omega) x with k | k
    · rw [k]
      by_cases hp : x = pl R t
      · rw [if_pos hp]
      · rw [if_neg hp]
        rcases who_spec (R := R) hb.2.2.1 x with m | m
        · exact m.symm
        · have hne : whoF R x ≠ t := fun z => hp (by rw [← z]; exact m.2.2.symm)
          exact absurd ((p2 _ m.1 hne).trans m.2.2) (who_none (R := wrt R (18 + 4 * t + 1).toNat c) (by rw [e1]; omega) (by omega) _ m.1 (by rw [e1]; exact m.2.1))
    · have hne : whoF (wrt R (18 + 4 * t + 1).toNat c) x ≠ t := fun z => by
        have := k.2.2
        rw [z, p1] at this
        exact hx this.symm
      have k3 := k.2.2
      rw [p2 _ k.1 hne] at k3
      rw [e1] at k
      have hp : ¬ x = pl R t := fun z => hne (h.2.2.2 _ _ k.1 k.2.1 ht.1 (by omega) (k3.trans z))
      rw [if_neg hp]
      exact (who_un h ⟨k.1, by omega⟩ k3).symm
theorem K_moveTo {σ : St} {q : Nat} {R : Rw} (h : RK σ q R) {t c : Int} (ht : isT R t) (hc : 0 ≤ c ∧ c ≤ 19) (hf : whoF R c < 0 ∨ whoF R c = t) : ∃ σ', Rx k_X2_moveTo 0 [.inr (.inl (7, q)), .inl t, .inl c] [] σ = some (none, σ') ∧ FR q σ σ' ∧ RK σ' q (wrt R (18 + 4 * t + 1).toNat c) := by
  have hI := h.1
  have hi := hI.1
  have hb := hI.1
  unfold Iv0 at hb
  have hT := hI.2.2.1 t ht.1 (by omega)
  obtain ⟨w0, w1, w2, w3, w4⟩ := tw (R := R) (v := c) 1 ht.1 (by omega)
  obtain ⟨h1, h2, h3, h4⟩ := h.2
  obtain ⟨a1, a2, a3⟩ := h3 t ht.1 (by omega)
  refine ⟨up (up (up σ 15 q (pl R t).toNat (-9)) 13 q t.toNat c) 15 q c.toNat t, ?_, ((FR.up q σ (by decide) (by decide) _ _).trans (FR.up q _ (by decide) (by decide) _ _)).trans (FR.up q _ (by decide) (by decide) _ _), hI.mv ht hc hf, ?_⟩
  · rw [b_X2_moveTo_0, K_isThing h.2 hi, if_pos ht]
    simp only [Option.bind_some, Option.toList_some, Option.toList_none, List.cons_append, List.nil_append, List.append_nil]
    rw [b_X2_moveTo_5, if_neg (by decide), b_X2_moveTo_8, K_isFreeFor h.2 hi, if_pos ⟨hc, hf⟩]
    simp only [Option.bind_some, Option.toList_some, Option.toList_none, List.cons_append, List.nil_append, List.append_nil]
    rw [b_X2_moveTo_14, if_neg (by decide), (b_X2_moveTo_17 (h0 := by omega) (h1 := by omega)), a2, K_isPlace, if_pos (by omega)]
    simp only [Option.bind_some, Option.toList_some, Option.toList_none, List.cons_append, List.nil_append, List.append_nil]
    rw [b_X2_moveTo_26, if_neg (by decide), b_X2_moveTo_29 _ _ _ _ (by omega) (by omega) (by rw [a2]; omega) (by rw [a2]; omega) (by omega) (by omega), a2]
  · have eq1 : ∀ u, 0 ≤ u → uq (wrt R (18 + 4 * t + 1).toNat c) u = uq R u := fun u _ => wrt_ne (by omega)
    have ew1 : ∀ u, 0 ≤ u → wt (wrt R (18 + 4 * t + 1).toNat c) u = wt R u := fun u _ => wrt_ne (by omega)
    have eo1 : ∀ u, 0 ≤ u → on (wrt R (18 + 4 * t + 1).toNat c) u = on R u := fun u _ => wrt_ne (by omega)
    have eU : upF (wrt R (18 + 4 * t + 1).toNat c) = upF R := upF_cg w1 (fun u a _ => eq1 u a)
    refine ⟨?_, fun x a b => ?_, fun x a b => ?_, fun x a b => ?_⟩
    · rw [up_t (s := 7) (t := 15) (by decide), up_t (s := 7) (t := 13) (by decide), up_t (s := 7) (t := 15) (by decide), w0, w1, w2, eU]; exact h1
    · rw [w0] at b
      obtain ⟨e1, e2, e3⟩ := w4 x a (by omega)
      rw [upx_t (s := 8) (by decide), upx_t (s := 8) (by decide), upx_t (s := 8) (by decide), upx_t (s := 9) (by decide), upx_t (s := 9) (by decide), upx_t (s := 9) (by decide), upx_t (s := 10) (by decide), upx_t (s := 10) (by decide), upx_t (s := 10) (by decide), upx_t (s := 11) (by decide), upx_t (s := 11) (by decide), upx_t (s := 11) (by decide), e1, e2, e3, loadF_cg x w1 (fun u k _ => by unfold cwF; rw [eq1 u k, ew1 u k, eo1 u k])]
      exact h2 x a b
    · rw [w1] at b
      obtain ⟨b1, b2, b3⟩ := h3 x a b
      rw [upx_t (s := 12) (by decide), upx_t (s := 12) (by decide), upx_t (s := 12) (by decide), upx_t (s := 14) (by decide), upx_t (s := 14) (by decide), upx_t (s := 14) (by decide), upx_t (s := 13) (by decide), ew1 x a, eo1 x a]
      refine ⟨b1, ?_, b3⟩
      by_cases e : x = t
      · rw [e, up_at]; exact (wrt_eq rfl).symm
      · rw [upx_k (by omega), upx_t (by decide), b2]; exact (wrt_ne (by omega)).symm
    · rw [who_mv hI ht hc hf]
      by_cases e : x = c
      · rw [if_pos e, e, up_at]
      · rw [if_neg e, upx_k (by omega), upx_t (s := 15) (by decide)]
        by_cases e2 : x = pl R t
        · rw [if_pos e2, e2, up_at]
        · rw [if_neg e2, upx_k (by omega)]
          exact h4 x a b
