/-! statements: a purpose more, a thing more -/
def adP (R : Rw) (k f v : Int) : Rw := wrt (wrt (wrt (wrt R (3 + 3 * R 0 + 0).toNat k) (3 + 3 * R 0 + 1).toNat f) (3 + 3 * R 0 + 2).toNat v) 0 (R 0 + 1)
theorem adP_all {R : Rw} {k f v : Int} (h0 : 0 ≤ R 0) (h1 : R 0 ≤ 4) : (adP R k f v 0 = R 0 + 1 ∧ adP R k f v 1 = R 1 ∧ adP R k f v 2 = R 2) ∧ (∀ u, 0 ≤ u → kd (adP R k f v) u = (if u = R 0 then k else kd R u) ∧ fg (adP R k f v) u = (if u = R 0 then f else fg R u) ∧ sg (adP R k f v) u = (if u = R 0 then v else sg R u)) ∧ (∀ t, 0 ≤ t → wt (adP R k f v) t = wt R t ∧ pl (adP R k f v) t = pl R t ∧ on (adP R k f v) t = on R t ∧ uq (adP R k f v) t = uq R t) ∧ (∀ j : Nat, 58 ≤ j → adP R k f v j = R j) := by
  refine ⟨⟨wrt_eq rfl, ?_, ?_⟩, fun u hu => ⟨?_, ?_, ?_⟩, fun t ht => ⟨?_, ?_, ?_, ?_⟩, fun j hj => ?_⟩
  · exact (wrt_ne (by omega)).trans ((wrt_ne (by omega)).trans ((wrt_ne (by omega)).trans (wrt_ne (by omega))))
  · exact (wrt_ne (by omega)).trans ((wrt_ne (by omega)).trans ((wrt_ne (by omega)).trans (wrt_ne (by omega))))
  · by_cases e : u = R 0
    · rw [if_pos e]
      exact (wrt_ne (by omega)).trans ((wrt_ne (by omega)).trans ((wrt_ne (by omega)).trans (wrt_eq (by rw [e]))))
    · rw [if_neg e]
      exact (wrt_ne (by omega)).trans ((wrt_ne (by omega)).trans ((wrt_ne (by omega)).trans (wrt_ne (by omega))))
  · by_cases e : u = R 0
    · rw [if_pos e]
      exact (wrt_ne (by omega)).trans ((wrt_ne (by omega)).trans (wrt_eq (by rw [e])))
    · rw [if_neg e]
      exact (wrt_ne (by omega)).trans ((wrt_ne (by omega)).trans ((wrt_ne (by omega)).trans (wrt_ne (by omega))))
  · by_cases e : u = R 0
    · rw [if_pos e]
      exact (wrt_ne (by omega)).trans (wrt_eq (by rw [e]))
    · rw [if_neg e]
      exact (wrt_ne (by omega)).trans ((wrt_ne (by omega)).trans ((wrt_ne (by omega)).trans (wrt_ne (by omega))))
  · exact (wrt_ne (by omega)).trans ((wrt_ne (by omega)).trans ((wrt_ne (by omega)).trans (wrt_ne (by omega))))
  · exact (wrt_ne (by omega)).trans ((wrt_ne (by omega)).trans ((wrt_ne (by omega)).trans (wrt_ne (by omega))))
  · exact (wrt_ne (by omega)).trans ((wrt_ne (by omega)).trans ((wrt_ne (by omega)).trans (wrt_ne (by omega))))
  · exact (wrt_ne (by omega)).trans ((wrt_ne (by omega)).trans ((wrt_ne (by omega)).trans (wrt_ne (by omega))))
  · exact (wrt_ne (by omega)).trans ((wrt_ne (by omega)).trans ((wrt_ne (by omega)).trans (wrt_ne (by omega))))
theorem Iv.adP {R : Rw} (h : Iv R) {k f v : Int} (h1 : R 0 ≤ 4) (hk : 0 ≤ k ∧ k ≤ 5) (hf : 0 ≤ f ∧ f ≤ 9) (hv : 0 ≤ v ∧ v ≤ 99) : Iv (adP R k f v) := by
  obtain ⟨i0, iP, iT, iD⟩ := h
  have hb := i0
  unfold Iv0 at hb
  obtain ⟨⟨e0, e1, e2⟩, e3, e4, e5⟩ := adP_all (R := R) (k := k) (f := f) (v := v) hb.1 h1
  refine ⟨?_, fun u a b => ?_, fun t a b => ?_, fun t t' a b a' b' e => ?_⟩
  · unfold Iv0; rw [e0, e1]; omega
  · rw [e0] at b
    obtain ⟨k1, k2, k3⟩ := e3 u a
    rw [k1, k2, k3]
    by_cases z : u = R 0
    · rw [if_pos z, if_pos z, if_pos z]; omega
    · rw [if_neg z, if_neg z, if_neg z]; exact iP u a (by omega)
  · rw [e1] at b
    obtain ⟨k1, k2, k3, k4⟩ := e4 t a
    rw [k1, k2, k3, k4, e0]
    have := iT t a b
    omega
  · rw [e1] at b b'
    rw [(e4 t a).2.1, (e4 t' a').2.1] at e
    exact iD t t' a b a' b' e
theorem c_addPurpose (q : Nat) (k f v : Int) (σ : St) (n : Nat) (e : σ 7 q 0 = n) (hn : n < 5) : Rx k_X2_addPurpose 0 [.inr (.inl (7, q)), .inl k, .inl f, .inl v] [] σ = some (some (.inl 1), up (up (up (up (up σ 8 q n k) 9 q n f) 10 q n v) 11 q n 0) 7 q 0 ((n : Int) + 1)) := by
  rw [b_X2_addPurpose_0, if_neg (by omega), b_X2_addPurpose_7, if_pos (by omega), b_X2_addPurpose_17 (h0 := by omega) (h1 := by omega) (h2 := by rw [upx_t (by decide)]; omega) (h3 := by rw [upx_t (by decide)]; omega) (h4 := by rw [upx_t (by decide), upx_t (by decide)]; omega) (h5 := by rw [upx_t (by decide), upx_t (by decide)]; omega) (h6 := by rw [upx_t (by decide), upx_t (by decide), upx_t (by decide)]; omega) (h7 := by rw [upx_t (by decide), upx_t (by decide), upx_t (by decide)]; omega) (g0a := by rw [upx_t (by decide), upx_t (by decide), upx_t (by decide), upx_t (by decide)]; omega) (g0b := by rw [upx_t (by decide), upx_t (by decide), upx_t (by decide), upx_t (by decide)]; omega)]
  simp (disch := decide) only [upx_t, e, Int.toNat_natCast]
theorem K_addPurpose {σ : St} {q : Nat} {R : Rw} (h : RK σ q R) {k f v : Int} (h1 : R 0 ≠ 5) (hk : 0 ≤ k ∧ k ≤ 5) (hf : 0 ≤ f ∧ f ≤ 9) (hv : 0 ≤ v ∧ v ≤ 99) : ∃ σ', Rx k_X2_addPurpose 0 [.inr (.inl (7, q)), .inl k, .inl f, .inl v] [] σ = some (some (.inl 1), σ') ∧ FR q σ σ' ∧ RK σ' q (adP R k f v) := by
  have hI := h.1
  have hb := hI.1
  unfold Iv0 at hb
  obtain ⟨n, hn⟩ := Int.eq_ofNat_of_zero_le hb.1
  obtain ⟨⟨e0, e1, e2⟩, e3, e4, e5⟩ := adP_all (R := R) (k := k) (f := f) (v := v) hb.1 (by omega)
  obtain ⟨m1, m2, m3, m4⟩ := h.2
  refine ⟨_, c_addPurpose q k f v σ n (m1.1.trans hn) (by omega), ((((FR.up q σ (t := 8) (by decide) (by decide) n k).trans (FR.up q _ (t := 9) (by decide) (by decide) n f)).trans (FR.up q _ (t := 10) (by decide) (by decide) n v)).trans (FR.up q _ (t := 11) (by decide) (by decide) n 0)).trans (FR.up q _ (t := 7) (by decide) (by decide) 0 _), hI.adP (by omega) hk hf hv, ?_⟩
  refine ⟨?_, fun x a b => ?_, fun x a b => ?_, fun x a b => ?_⟩
  · rw [e0, e1, e2, upF_cg e1 (fun u a _ => (e4 u a).2.2.2)]
    simp (disch := decide) only [upx_t, upx_k, up_at]
    exact ⟨by omega, m1.2.1, m1.2.2.1, m1.2.2.2⟩
  · rw [e0] at b
    obtain ⟨k1, k2, k3⟩ := e3 x a
    have el : loadF (adP R k f v) x = loadF R x := loadF_cg x e1 (fun u a _ => by obtain ⟨y1, y2, y3, y4⟩ := e4 u a; unfold cwF; rw [y1, y3, y4])
    rw [k1, k2, k3, el]
    by_cases z : x = R 0
    · have ex : x.toNat = n := by omega
      have l0 : loadF R x = 0 := by
        unfold loadF
        have key : ∀ m : Nat, (m : Int) ≤ R 1 → loadG R x m = 0 := by
          intro m
          induction m with
          | zero => intro _; rfl
          | succ m ih =>
            intro hm
            have := hI.2.2.1 m (by omega) (by omega)
            rw [loadG_s, ih (by omega), if_neg (fun y => by have := y.2; omega)]
            rfl
        exact key _ (by omega)
      rw [if_pos z, if_pos z, if_pos z, ex, l0]
      simp (disch := decide) only [upx_t, up_at, and_self]
    · have ex : x.toNat ≠ n := by omega
      have m := m2 x a (by omega)
      rw [if_neg z, if_neg z, if_neg z]
      simp (disch := first | decide | assumption) only [upx_t, upx_k]
      exact m
  · rw [e1] at b
    obtain ⟨k1, k2, k3, k4⟩ := e4 x a
    rw [k1, k2, k3]
    simp (disch := decide) only [upx_t]
    exact m3 x a b
  · rw [who_cg hb.2.2.1 e1 (fun u a _ => (e4 u a).2.1)]
    simp (disch := decide) only [upx_t]
    exact m4 x a b
theorem K_addPurposeNo {σ : St} {q : Nat} {R : Rw} (h : RK σ q R) {k f v : Int} (h1 : R 0 = 5) : Rx k_X2_addPurpose 0 [.inr (.inl (7, q)), .inl k, .inl f, .inl v] [] σ = some (some (.inl 0), σ) := by
  rw [b_X2_addPurpose_0, h.2.1.1, if_neg (by omega), b_X2_addPurpose_7, h.2.1.1, if_neg (by omega), b_X2_addPurpose_15]
/-! a thing more: down at first, then set up -/
def adT0 (R : Rw) (w c p : Int) : Rw := wrt (wrt (wrt (wrt (wrt R (18 + 4 * R 1 + 0).toNat w) (18 + 4 * R 1 + 1).toNat c) (18 + 4 * R 1 + 2).toNat p) (18 + 4 * R 1 + 3).toNat 0) 1 (R 1 + 1)
def adT (R : Rw) (w c p : Int) : Rw := wrt (adT0 R w c p) (18 + 4 * R 1 + 3).toNat 1
theorem wr5 {R : Rw} {a b c d e : Nat} {v1 v2 v3 v4 v5 : Int} {j : Nat} (h1 : j ≠ a) (h2 : j ≠ b) (h3 : j ≠ c) (h4 : j ≠ d) (h5 : j ≠ e) : wrt (wrt (wrt (wrt (wrt R a v1) b v2) c v3) d v4) e v5 j = R j := (wrt_ne h5).trans ((wrt_ne h4).trans ((wrt_ne h3).trans ((wrt_ne h2).trans (wrt_ne h1))))
theorem adT_all {R : Rw} {w c p : Int} (h0 : 0 ≤ R 1) (h1 : R 1 ≤ 9) : (adT0 R w c p 0 = R 0 ∧ adT0 R w c p 1 = R 1 + 1 ∧ adT0 R w c p 2 = R 2) ∧ (∀ u, 0 ≤ u → u < 5 → kd (adT0 R w c p) u = kd R u ∧ fg (adT0 R w c p) u = fg R u ∧ sg (adT0 R w c p) u = sg R u) ∧ (∀ t, 0 ≤ t → wt (adT0 R w c p) t = (if t = R 1 then w else wt R t) ∧ pl (adT0 R w c p) t = (if t = R 1 then c else pl R t) ∧ on (adT0 R w c p) t = (if t = R 1 then p else on R t) ∧ uq (adT0 R w c p) t = (if t = R 1 then 0 else uq R t)) ∧ (∀ j : Nat, 58 ≤ j → adT0 R w c p j = R j) := by
  refine ⟨⟨?_, wrt_eq rfl, ?_⟩, fun u hu h5 => ⟨?_, ?_, ?_⟩, fun t ht => ⟨?_, ?_, ?_, ?_⟩, fun j hj => ?_⟩
  · exact wr5 (by omega) (by omega) (by omega) (by omega) (by omega)
  · exact wr5 (by omega) (by omega) (by omega) (by omega) (by omega)
  · exact wr5 (by omega) (by omega) (by omega) (by omega) (by omega)
  · exact wr5 (by omega) (by omega) (by omega) (by omega) (by omega)
  · exact wr5 (by omega) (by omega) (by omega) (by omega) (by omega)
  · by_cases e : t = R 1
    · rw [if_pos e]
      exact (wrt_ne (by omega)).trans ((wrt_ne (by omega)).trans ((wrt_ne (by omega)).trans ((wrt_ne (by omega)).trans (wrt_eq (by rw [e])))))
    · rw [if_neg e]
      exact wr5 (by omega) (by omega) (by omega) (by omega) (by omega)
  · by_cases e : t = R 1
    · rw [if_pos e]
      exact (wrt_ne (by omega)).trans ((wrt_ne (by omega)).trans ((wrt_ne (by omega)).trans (wrt_eq (by rw [e]))))
    · rw [if_neg e]
      exact wr5 (by omega) (by omega) (by omega) (by omega) (by omega)
  · by_cases e : t = R 1
    · rw [if_pos e]
      exact (wrt_ne (by omega)).trans ((wrt_ne (by omega)).trans (wrt_eq (by rw [e])))
    · rw [if_neg e]
      exact wr5 (by omega) (by omega) (by omega) (by omega) (by omega)
  · by_cases e : t = R 1
    · rw [if_pos e]
      exact (wrt_ne (by omega)).trans (wrt_eq (by rw [e]))
    · rw [if_neg e]
      exact wr5 (by omega) (by omega) (by omega) (by omega) (by omega)
  · exact wr5 (by omega) (by omega) (by omega) (by omega) (by omega)
theorem Iv.adT0 {R : Rw} (h : Iv R) {w c p : Int} (h1 : R 1 ≤ 9) (hw : 1 ≤ w ∧ w ≤ 9) (hc : 0 ≤ c ∧ c ≤ 19) (hf : whoF R c < 0) (hp : isP R p) : Iv (adT0 R w c p) := by
  obtain ⟨i0, iP, iT, iD⟩ := h
  have hb := i0
  unfold Iv0 at hb
  obtain ⟨⟨e0, e1, e2⟩, e3, e4, e5⟩ := adT_all (R := R) (w := w) (c := c) (p := p) hb.2.2.1 h1
  have hn := who_none hb.2.2.1 hf
  refine ⟨?_, fun u a b => ?_, fun t a b => ?_, fun t t' a b a' b' e => ?_⟩
  · unfold Iv0; rw [e0, e1]; omega
  · rw [e0] at b
    obtain ⟨k1, k2, k3⟩ := e3 u a (by omega)
    rw [k1, k2, k3]
    exact iP u a b
  · rw [e1] at b
    obtain ⟨k1, k2, k3, k4⟩ := e4 t a
    rw [k1, k2, k3, k4, e0]
    by_cases z : t = R 1
    · rw [if_pos z, if_pos z, if_pos z, if_pos z]
      have := hp.1
      have := hp.2
      omega
    · rw [if_neg z, if_neg z, if_neg z, if_neg z]
      exact iT t a (by omega)
  · rw [e1] at b b'
    rw [(e4 t a).2.1, (e4 t' a').2.1] at e
    by_cases z : t = R 1
    · by_cases z' : t' = R 1
      · rw [z, z']
      · rw [if_pos z, if_neg z'] at e
        exact absurd e.symm (hn t' a' (by omega))
    · by_cases z' : t' = R 1
      · rw [if_neg z, if_pos z'] at e
        exact absurd e (hn t a (by omega))
      · rw [if_neg z, if_neg z'] at e
        exact iD t t' a (by omega) a' (by omega) e
theorem who_adT {R : Rw} (h : Iv R) {w c p : Int} (h1 : R 1 ≤ 9) (hw : 1 ≤ w ∧ w ≤ 9) (hc : 0 ≤ c ∧ c ≤ 19) (hf : whoF R c < 0) (hp : isP R p) (x : Int) : whoF (adT0 R w c p) x = if x = c then R 1 else whoF R x := by
  have hI := h.adT0 h1 hw hc hf hp
  have hb := h.1
  unfold Iv0 at hb
  obtain ⟨⟨e0, e1, e2⟩, e3, e4, e5⟩ := adT_all (R := R) (w := w) (c := c) (p := p) hb.2.2.1 h1
  have pin : ∀ t, 0 ≤ t → pl (adT0 R w c p) t = if t = R 1 then c else pl R t := fun t a => (e4 t a).2.1
  by_cases hx : x = c
  · rw [if_pos hx]
    exact who_un hI ⟨hb.2.2.1, by omega⟩ (by rw [pin _ hb.2.2.1, if_pos rfl, hx])
  · rw [if_neg hx]
    rcases who_spec (R := R) hb.2.2.1 x with k | k
    · rcases who_spec (R := adT0 R w c p) (by omega) x with m | m
      · rw [k, m]
      · have m3 := m.2.2
        rw [pin _ m.1] at m3
        by_cases z : whoF (adT0 R w c p) x = R 1
        · rw [if_pos z] at m3; exact absurd m3.symm hx
        · rw [if_neg z] at m3
          exact absurd m3 (who_none hb.2.2.1 (by omega) _ m.1 (by omega))
    · exact who_un hI ⟨k.1, by omega⟩ (by rw [pin _ k.1, if_neg (by omega)]; exact k.2.2)
theorem K_addThing {σ : St} {q : Nat} {R : Rw} (h : RK σ q R) {w c p : Int} (h1 : R 1 ≠ 10) (hw : 1 ≤ w ∧ w ≤ 9) (hc : 0 ≤ c ∧ c ≤ 19) (hf : whoF R c < 0) (hp : isP R p) (u : AV) : ∃ σ', Rx k_X2_addThing 0 [.inr (.inl (7, q)), .inl w, .inl c, .inl p, u] [] σ = some (some (.inl 1), σ') ∧ FR q σ σ' ∧ RK σ' q (adT R w c p) := by
  have hI := h.1
  have hi := hI.1
  have hb := hI.1
  unfold Iv0 at hb
  obtain ⟨n, hn⟩ := Int.eq_ofNat_of_zero_le hb.2.2.1
  have hI0 := hI.adT0 (w := w) (c := c) (p := p) (by omega) hw hc hf hp
  obtain ⟨⟨e0, e1, e2⟩, e3, e4, e5⟩ := adT_all (R := R) (w := w) (c := c) (p := p) hb.2.2.1 (by omega)
  have ew := who_adT hI (w := w) (c := c) (p := p) (by omega) hw hc hf hp
  obtain ⟨m1, m2, m3, m4⟩ := h.2
  have e71 : σ 7 q 1 = n := m1.2.1.trans hn
  have hK0 : RK (up (up (up (up (up σ 7 q 1 ((n : Int) + 1)) 12 q n w) 13 q n c) 15 q c.toNat (n : Int)) 14 q n p) q (adT0 R w c p) := by
    refine ⟨hI0, ?_, fun x a b => ?_, fun x a b => ?_, fun x a b => ?_⟩
    · have eU : upF (adT0 R w c p) = upF R := by
        apply Nat.eq_of_testBit_eq
        intro i
        rw [Bool.eq_iff_iff, upF_b2, upF_b2, e1, (e4 i (by omega)).2.2.2]
        constructor
        · rintro ⟨a, b⟩
          by_cases z : (i : Int) = R 1
          · rw [if_pos z] at b; exact absurd b (by decide)
          · rw [if_neg z] at b; exact ⟨by omega, b⟩
        · rintro ⟨a, b⟩
          exact ⟨by omega, by rw [if_neg (by omega)]; exact b⟩
      rw [e0, e1, e2, eU]
      simp (disch := decide) only [upx_t, upx_k, up_at]
      exact ⟨m1.1, by omega, m1.2.2.1, m1.2.2.2⟩
    · rw [e0] at b
      obtain ⟨k1, k2, k3⟩ := e3 x a (by omega)
      have el : loadF (adT0 R w c p) x = loadF R x := by
        unfold loadF
        rw [e1, show (R 1 + 1).toNat = n + 1 by omega, show (R 1).toNat = n by omega, loadG_w]
        have c0 : cwF (adT0 R w c p) n x = 0 := by
          unfold cwF
          rw [(e4 n (by omega)).2.2.2, if_pos hn.symm, if_neg (fun z => absurd z.1 (by decide))]
        rw [c0, Int.add_zero]
        refine loadG_cg x n (fun u hu => ?_)
        obtain ⟨y1, y2, y3, y4⟩ := e4 u (by omega)
        have nz : ¬ (u : Int) = R 1 := by omega
        rw [if_neg nz] at y1 y3 y4
        unfold cwF
        rw [y1, y3, y4]
      rw [k1, k2, k3, el]
      simp (disch := decide) only [upx_t]
      exact m2 x a b
    · rw [e1] at b
      obtain ⟨k1, k2, k3, k4⟩ := e4 x a
      rw [k1, k2, k3]
      by_cases z : x = R 1
      · have ex : x.toNat = n := by omega
        rw [if_pos z, if_pos z, if_pos z, ex]
        simp (disch := decide) only [upx_t, up_at, and_self]
      · have ex : x.toNat ≠ n := by omega
        have m := m3 x a (by omega)
        rw [if_neg z, if_neg z, if_neg z]
        simp (disch := first | decide | assumption) only [upx_t, upx_k]
        exact m
    · rw [ew]
      by_cases z : x = c
      · rw [if_pos z, z]
        simp (disch := decide) only [upx_t, up_at]
        exact hn.symm
      · have ex : x.toNat ≠ c.toNat := by omega
        rw [if_neg z]
        simp (disch := first | decide | assumption) only [upx_t, upx_k]
        exact m4 x a b
  obtain ⟨σ2, s2, f2, g2⟩ := K_raise hK0 (t := (n : Int)) ⟨by omega, by rw [e1]; omega⟩
  rw [show ((n : Int)) = R 1 from hn.symm] at g2
  refine ⟨σ2, ?_, (((((FR.up q σ (t := 7) (by decide) (by decide) 1 ((n : Int) + 1)).trans (FR.up q _ (t := 12) (by decide) (by decide) n w)).trans (FR.up q _ (t := 13) (by decide) (by decide) n c)).trans (FR.up q _ (t := 15) (by decide) (by decide) c.toNat (n : Int))).trans (FR.up q _ (t := 14) (by decide) (by decide) n p)).trans f2, g2⟩
  rw [b_X2_addThing_0, e71, if_neg (by omega), b_X2_addThing_11, if_pos (by omega), b_X2_addThing_18, if_neg (by omega), b_X2_addThing_23, K_isPurpose h.2 hi, if_pos hp]
  simp only [Option.bind_some, Option.toList_some, Option.toList_none, List.cons_append, List.nil_append, List.append_nil]
  rw [b_X2_addThing_28, if_neg (by decide), b_X2_addThing_31, K_isFreeFor h.2 hi, if_pos ⟨hc, Or.inl hf⟩]
  simp only [Option.bind_some, Option.toList_some, Option.toList_none, List.cons_append, List.nil_append, List.append_nil]
  rw [b_X2_addThing_38, if_neg (by decide), b_X2_addThing_43 (h0 := by omega) (h1 := by omega) (h2 := by omega) (h3 := by omega) (g0a := by omega) (g0b := by omega), e71, Int.toNat_natCast, s2]
  simp only [Option.bind_some, Option.toList_some, Option.toList_none, List.cons_append, List.nil_append, List.append_nil]
  rw [b_X2_addThing_91]
theorem K_addThingNo {σ : St} {q : Nat} {R : Rw} (h : RK σ q R) {w c p : Int} (hn : ¬ (¬ w < 1 ∧ (0 ≤ c ∧ c ≤ 19) ∧ whoF R c < 0 ∧ isP R p ∧ R 1 ≠ 10)) (u : AV) : Rx k_X2_addThing 0 [.inr (.inl (7, q)), .inl w, .inl c, .inl p, u] [] σ = some (some (.inl 0), σ) := by
  have hi := h.1.1
  have hb := h.1.1
  unfold Iv0 at hb
  have e32 : Rx k_X2_addThing 41 [.inr (.inl (7, q)), .inl w, .inl c, .inl p, .inl (R 1)] [] σ = some (some (.inl 0), σ) := by rw [b_X2_addThing_41]
  rw [b_X2_addThing_0, h.2.1.2.1, if_neg (by omega), b_X2_addThing_11]
  by_cases a : R 1 < 10
  · rw [if_pos a, b_X2_addThing_18]
    by_cases b : w < 1
    · rw [if_pos b, e32]
    · rw [if_neg b, b_X2_addThing_23, K_isPurpose h.2 hi]
      simp only [Option.bind_some, Option.toList_some, Option.toList_none, List.cons_append, List.nil_append, List.append_nil]
      rw [b_X2_addThing_28]
      by_cases d : isP R p
      · rw [if_pos d, if_neg (by decide), b_X2_addThing_31, K_isFreeFor h.2 hi, if_neg]
        · simp only [Option.bind_some, Option.toList_some, Option.toList_none, List.cons_append, List.nil_append, List.append_nil]
          rw [b_X2_addThing_38, if_pos rfl, e32]
        · rintro ⟨y1, y2⟩
          refine hn ⟨b, y1, ?_, d, by omega⟩
          rcases y2 with y | y
          · exact y
          · omega
      · rw [if_neg d, if_pos rfl, e32]
  · rw [if_neg a, e32]
