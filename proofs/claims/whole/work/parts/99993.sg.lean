/-! class and reference, call by call: letters, the image, a rack told -/
theorem S_letter (c : Int) {σ : St} {b : Int} (h : CM σ b) (hb : b ≤ 1000000) : Sp k_X4_letter [.inr (.inl (0, 0)), .inl c] k_X5_letter [.inr (.inl (16, 0)), .inl c] σ b := by
  obtain ⟨r0, r1, r2⟩ := h.2.2.2.2.2.1
  obtain ⟨⟨l0, l1⟩, l2, l3⟩ := h.2.2.2.2.2.2
  have hx := h.xok hb
  by_cases e : letB c (σ 16 0 9) = 0
  · have e1 : 0 ≤ c ∧ c ≤ 255 ∧ σ 16 0 9 < 96 := by
      unfold letB at e
      by_cases z : c < 0
      · rw [if_pos z] at e; omega
      · rw [if_neg z] at e
        by_cases y : 255 < c ∨ σ 16 0 9 = 96
        · rw [if_pos y] at e; omega
        · omega
    have s1 : Rx k_X4_letter 0 [.inr (.inl (0, 0)), .inl c] [] σ = some (some (.inl (σ 16 0 9 + 1)), up (up σ 4 0 (σ 16 0 9).toNat c) 3 0 1 (σ 16 0 9 + 1)) := by
      rw [b_X4_letter_0, if_neg (by omega), b_X4_letter_10, if_neg (by omega), b_X4_letter_17, l2, if_pos (by omega), b_X4_letter_36, b_X0_add_0, l2, if_neg (by omega), b_X0_add_7, l2, if_pos (by omega), b_X0_add_16 (h0 := by omega) (h1 := by omega) (g0a := by rw [upx_t (by decide)]; omega) (g0b := by rw [upx_t (by decide)]; omega)]
      simp (disch := decide) only [upx_t, up_at, l2, Option.bind_some, Option.toList_none, List.nil_append]
      rw [b_X4_letter_44, up_at]
    have g : ∀ s : Nat, s ≠ 3 → s ≠ 4 → up (up σ 4 0 (σ 16 0 9).toNat c) 3 0 1 (σ 16 0 9 + 1) s = σ s := fun s h1 h2 => by rw [up_t h1, up_t h2]
    have s2 := M_letter c (up (up σ 4 0 (σ 16 0 9).toNat c) 3 0 1 (σ 16 0 9 + 1)) ((h.mok hb).of (g 17 (by decide) (by decide)) (g 21 (by decide) (by decide))) (by rw [g 16 (by decide) (by decide)]; exact l0) (by rw [g 16 (by decide) (by decide)]; exact l1)
    rw [g 16 (by decide) (by decide), if_pos e, if_pos e] at s2
    refine ⟨_, _, _, s1, s2, CM.le ?_ (show b ≤ b + 1 by omega), g 32 (by decide) (by decide), by rw [up_t (by decide), up_t (by decide), g 32 (by decide) (by decide)]⟩
    have t : ∀ s : Nat, s ≠ 16 → s ≠ 19 → s ≠ 3 → s ≠ 4 → up (up (up (up σ 4 0 (σ 16 0 9).toNat c) 3 0 1 (σ 16 0 9 + 1)) 19 0 (σ 16 0 9).toNat c) 16 0 9 (σ 16 0 9 + 1) s = σ s := fun s h1 h2 h3 h4 => by rw [up_t h1, up_t h2, up_t h3, up_t h4]
    refine h.rl (fun s a d => t s (by omega) (by omega) (by omega) (by omega)) (t 17 (by decide) (by decide) (by decide) (by decide)) (t 21 (by decide) (by decide) (by decide) (by decide)) (t 6 (by decide) (by decide) (by decide) (by decide)) ⟨by rw [t 0 (by decide) (by decide) (by decide) (by decide)], by rw [upx_k (by decide), upx_t (by decide), upx_t (by decide), upx_t (by decide)]⟩ ?_ ?_
    · rw [upx_k (by decide), upx_t (s := 16) (by decide), upx_t (s := 16) (by decide), upx_t (s := 16) (by decide), t 0 (by decide) (by decide) (by decide) (by decide), t 5 (by decide) (by decide) (by decide) (by decide), t 20 (by decide) (by decide) (by decide) (by decide)]
      exact ⟨r0, r1, r2⟩
    · rw [up_at, upx_t (s := 3) (by decide), upx_t (s := 3) (by decide), up_at]
      refine ⟨by omega, rfl, fun i hi => ?_⟩
      rw [upx_t (s := 4) (by decide), upx_t (s := 4) (by decide), upx_t (s := 4) (by decide), upx_t (s := 19) (by decide)]
      by_cases z : i = (σ 16 0 9).toNat
      · rw [z, up_at, up_at]
        exact ⟨rfl, e1.1, e1.2.1⟩
      · rw [upx_k z, upx_k z, upx_t (s := 19) (by decide), upx_t (s := 19) (by decide)]
        exact l3 i (by omega)
  · have hB : -6 ≤ letB c (σ 16 0 9) ∧ letB c (σ 16 0 9) ≤ 0 := by
      unfold letB
      repeat' split
      all_goals omega
    have s1 : Rx k_X4_letter 0 [.inr (.inl (0, 0)), .inl c] [] σ = some (some (.inl (letB c (σ 16 0 9))), noX σ (letB c (σ 16 0 9))) := by
      have n29 : Rx k_X4_letter 29 [.inr (.inl (0, 0)), .inl c] [] σ = some (some (.inl (-6)), noX σ (-6)) := by
        rw [b_X4_letter_29, K_refuse hx (by decide) (by decide)]
        simp only [Option.bind_some, Option.toList_some, Option.toList_none, List.cons_append, List.nil_append, List.append_nil]
        rw [b_X4_letter_35]
      unfold letB at e ⊢
      rw [b_X4_letter_0]
      by_cases z : c < 0
      · rw [if_pos z, if_pos z, b_X4_letter_4, K_refuse hx (by decide) (by decide)]
        simp only [Option.bind_some, Option.toList_some, Option.toList_none, List.cons_append, List.nil_append, List.append_nil]
        rw [b_X4_letter_9]
      · rw [if_neg z] at e
        rw [if_neg z, if_neg z, b_X4_letter_10]
        by_cases y : 255 < c ∨ σ 16 0 9 = 96
        · rw [if_pos y]
          by_cases q : 255 < c
          · rw [if_pos q, n29]
          · rw [if_neg q, b_X4_letter_17, l2, if_neg (by omega), n29]
        · rw [if_neg y] at e
          exact absurd rfl e
    have x2 : XS (if letB c (σ 16 0 9) = 0 then σ else noX σ (letB c (σ 16 0 9))) (noX σ (letB c (σ 16 0 9))) := by rw [if_neg e]; exact XS.refl _
    obtain ⟨e17, e21, e16, e20, e19, e32, nx⟩ := h.afX hB x2
    have s2 := M_letter c (noX σ (letB c (σ 16 0 9))) ((h.mok hb).of e17 e21) (by rw [e16]; exact l0) (by rw [e16]; exact l1)
    rw [e16, if_neg e, if_neg e] at s2
    obtain ⟨d, f⟩ := nx _ (by rw [if_neg e]; exact MS.refl _)
    exact ⟨_, _, _, s1, s2, d, e32, f⟩
theorem S_image {σ : St} {b : Int} (h : CM σ b) (hb : b ≤ 1000000) : Sp k_X4_image [.inr (.inl (0, 0))] k_X5_image [.inr (.inl (16, 0))] σ b := by
  obtain ⟨hK, hd, h3, h4, h5, h6, h7⟩ := h
  obtain ⟨σ1, s1, f1, g1⟩ := K_become hK 2 (by decide)
  have hK0 := hK.fr f1 (by decide)
  have t1 : ∀ s : Nat, s < 7 ∨ 15 < s → σ1 s = σ s := fun s hs => f1.tag hs
  have e4 : Rx k_X4_image 0 [.inr (.inl (0, 0))] [] σ = some (some (.inl (σ 17 0 2)), up σ1 0 0 4 1) := by
    rw [b_X4_image_0, s1]
    simp only [Option.bind_some, Option.toList_some, Option.toList_none, List.cons_append, List.nil_append, List.append_nil]
    rw [b_X4_image_11, upx_t (by decide), hK0.2.1.2.2.1]
  have t2 : ∀ s : Nat, s ≠ 0 → up σ1 0 0 4 1 s = σ1 s := fun s hs => up_t hs
  have hm : Mok (up σ1 0 0 4 1) := (CM.mok ⟨hK, hd, h3, h4, h5, h6, h7⟩ hb).of (by rw [t2 17 (by decide), t1 17 (Or.inr (by decide))]) (by rw [t2 21 (by decide), t1 21 (Or.inr (by decide))])
  have s2 := M_image (up σ1 0 0 4 1) hm
  have e17 : up σ1 0 0 4 1 17 = σ 17 := by rw [t2 17 (by decide), t1 17 (Or.inr (by decide))]
  rw [e17] at s2
  have t : ∀ s : Nat, s ≠ 16 → s ≠ 17 → s ≠ 0 → up (setR (up σ1 0 0 4 1) 2 (σ 17 0)) 16 0 5 1 s = σ1 s := fun s a c d => by rw [up_t a, setR_tag _ _ _ c, t2 s d]
  have u0 : ∀ j : Nat, j ≠ 4 → up (setR (up σ1 0 0 4 1) 2 (σ 17 0)) 16 0 5 1 0 0 j = σ 0 0 j := fun j hj => by rw [upx_t (by decide), setR_tag _ _ _ (by decide), upx_k hj, t1 0 (Or.inl (by decide))]
  have u16 : ∀ j : Nat, j ≠ 5 → up (setR (up σ1 0 0 4 1) 2 (σ 17 0)) 16 0 5 1 16 0 j = σ 16 0 j := fun j hj => by rw [upx_k hj, setR_tag _ _ _ (by decide), t2 16 (by decide), t1 16 (Or.inr (by decide))]
  have r0 : up (setR (up σ1 0 0 4 1) 2 (σ 17 0)) 16 0 5 1 17 0 = σ 17 0 := by rw [up_t (by decide), setR_in _ _ _ (by decide), e17]
  have r2 : up (setR (up σ1 0 0 4 1) 2 (σ 17 0)) 16 0 5 1 17 2 = σ 17 0 := by rw [up_t (by decide), setR_at]
  refine ⟨_, _, _, e4, s2, CM.le ?_ (show b ≤ b + 1 by omega), by rw [t2 32 (by decide), t1 32 (Or.inr (by decide))], by rw [t 32 (by decide) (by decide) (by decide), t1 32 (Or.inr (by decide))]⟩
  refine ⟨?_, by rw [r0]; exact hd, fun r k hr hk => ?_, fun k hk => ?_, ⟨?_, fun _ => ⟨?_, by rw [r2]; exact hd⟩⟩, ?_, ?_⟩
  · rw [r0]; exact hK0.tg fun s a c => by rw [t s (by omega) (by omega) (by omega)]
  · by_cases z : r = 2
    · rw [z, r2]; exact h3 0 k (by decide) hk
    · rw [up_t (by decide), setR_in _ _ _ z, e17]; exact h3 r k hr hk
  · rw [t 21 (by decide) (by decide) (by decide), t 6 (by decide) (by decide) (by decide), t1 21 (Or.inr (by decide)), t1 6 (Or.inl (by decide))]
    exact h4 k hk
  · rw [up_at, upx_t (by decide), setR_tag _ _ _ (by decide), up_at]
  · rw [r2]; exact g1.tg fun s a c => by rw [t s (by omega) (by omega) (by omega)]
  · rw [u16 10 (by decide), u0 6 (by decide), t 5 (by decide) (by decide) (by decide), t 20 (by decide) (by decide) (by decide), t1 5 (Or.inl (by decide)), t1 20 (Or.inr (by decide))]
    exact h6
  · rw [u16 9 (by decide), t 3 (by decide) (by decide) (by decide), t 4 (by decide) (by decide) (by decide), t 19 (by decide) (by decide) (by decide), t1 3 (Or.inl (by decide)), t1 4 (Or.inl (by decide)), t1 19 (Or.inr (by decide))]
    exact h7
theorem S_on {σ : St} {b : Int} (h : CM σ b) (hb : b ≤ 1000000) : Sp k_X4_on [.inr (.inl (0, 0))] k_X5_on [.inr (.inl (16, 0))] σ b := by
  have hi := h.2.2.2.2.1
  have hx := h.xok hb
  by_cases e : σ 16 0 5 = 0
  · have s1 : Rx k_X4_on 0 [.inr (.inl (0, 0))] [] σ = some (some (.inl (-3)), noX σ (-3)) := by
      rw [b_X4_on_0, hi.1, if_pos e, b_X4_on_7, K_refuse hx (by decide) (by decide)]
      simp only [Option.bind_some, Option.toList_some, Option.toList_none, List.cons_append, List.nil_append, List.append_nil]
      rw [b_X4_on_12]
    have x2 : XS (if (-3 : Int) = 0 then σ else noX σ (-3)) (noX σ (-3)) := by rw [if_neg (by decide)]; exact XS.refl _
    obtain ⟨e17, e21, e16, e20, e19, e32, nx⟩ := h.afX (B := -3) ⟨by decide, by decide⟩ x2
    have s2 := M_on (noX σ (-3)) ((h.mok hb).of e17 e21)
    rw [e16, if_pos e, if_pos e] at s2
    obtain ⟨d, f⟩ := nx _ (by rw [if_neg (by decide)]; exact MS.refl _)
    exact ⟨_, _, _, s1, s2, d, e32, f⟩
  · obtain ⟨g2, d2⟩ := hi.2 e
    obtain ⟨σ1, s1, f1, g1⟩ := K_become g2 0 (by decide)
    have e4 : Rx k_X4_on 0 [.inr (.inl (0, 0))] [] σ = some (some (.inl (σ 17 2 2)), σ1) := by
      rw [b_X4_on_0, hi.1, if_neg e, b_X4_on_13, s1]
      simp only [Option.bind_some, Option.toList_some, Option.toList_none, List.cons_append, List.nil_append, List.append_nil]
      rw [b_X4_on_24, g1.2.1.2.2.1]
    have t1 : ∀ s : Nat, 15 < s → σ1 s = σ s := fun s hs => f1.tag (Or.inr hs)
    have s2 := M_on σ1 ((h.mok hb).of (t1 17 (by decide)) (t1 21 (by decide)))
    rw [t1 16 (by decide), t1 17 (by decide), if_neg e, if_neg e] at s2
    refine ⟨_, _, _, e4, s2, (CM.wr h.2.2 f1.ws g1 d2 (fun k hk => h.2.2.1 2 k (by decide) hk)).le (show b ≤ b + 1 by omega), t1 32 (by decide), by rw [setR_tag _ _ _ (by decide), t1 32 (by decide)]⟩
/-! a rack told -/
theorem rkG_ok {W : Nat → Int} {M : Nat} : ∀ (n i : Nat) (R : Rw), Iv R → Dk R → i ≤ M → pgF W M n i = -9 → Dk (rkG W M n i R).2 ∧ ∀ k : Nat, 58 ≤ k → (rkG W M n i R).2 k = R k := by
  intro n
  induction n with
  | zero => intro i R _ hd _ _; exact ⟨hd, fun _ _ => rfl⟩
  | succ n ih =>
    intro i R hI hd hi hp
    rw [rkG_s]
    by_cases e : M ≤ i
    · rw [if_pos e]; exact ⟨hd, fun _ _ => rfl⟩
    · rw [if_neg e]
      obtain ⟨p1, p2⟩ := pg_ok hp (by omega)
      by_cases z : stO R W i = true
      · rw [if_pos z]
        obtain ⟨s1, s2, s3⟩ := st_ok hI hd p1 z
        obtain ⟨q1, q2⟩ := ih (stm W M i).1 (stR R W i) s1 s2 (stm_ok (W := W) hi).1 p2
        exact ⟨q1, fun k hk => (q2 k hk).trans (s3 k hk)⟩
      · rw [if_neg z]
        exact ⟨hd, fun _ _ => rfl⟩
theorem rackA_ok {W : Nat → Int} {M : Nat} {R : Rw} (hI : Iv R) (hd : Dk R) : Dk (rackA W M R).2 ∧ ∀ k : Nat, 58 ≤ k → (rackA W M R).2 k = R k := by
  unfold rackA
  by_cases e : M = 0
  · rw [if_pos e]; exact ⟨hd, fun _ _ => rfl⟩
  · rw [if_neg e]
    by_cases z : pgF W M (M + 1) 0 = -9
    · rw [if_pos z]
      by_cases y : (rkG W M (M + 1) 0 R).1 = -9
      · rw [if_pos y]
        exact rkG_ok (M + 1) 0 R hI hd (Nat.zero_le M) z
      · rw [if_neg y]; exact ⟨hd, fun _ _ => rfl⟩
    · rw [if_neg z]; exact ⟨hd, fun _ _ => rfl⟩
theorem S_rack {σ : St} {b : Int} (h : CM σ b) (hb : b ≤ 1000000) : Sp k_X4_rack [.inr (.inl (0, 0)), uns, uns] k_X5_rack [.inr (.inl (16, 0)), uns, uns, uns, uns, uns] σ b := by
  obtain ⟨hK, hd, hr⟩ := h
  obtain ⟨⟨l0, l1⟩, l2, l3⟩ := hr.2.2.2.2
  obtain ⟨M, hM⟩ := Int.eq_ofNat_of_zero_le l0
  have hT : Tld σ (σ 19 0) M := ⟨by omega, by rw [l2]; exact hM, fun i hi => l3 i (by omega)⟩
  obtain ⟨σ1, s1, w1, g1⟩ := N_rack hT hK hd uns uns
  have t1 : ∀ s : Nat, s < 7 ∨ 15 < s → s ≠ 2 → σ1 s = σ s := fun s a c => w1.tag a c
  have t2 : ∀ s : Nat, s ≠ 3 → up σ1 3 0 1 0 s = σ1 s := fun s hs => up_t hs
  have e17 : up σ1 3 0 1 0 17 = σ 17 := by rw [t2 17 (by decide), t1 17 (Or.inr (by decide)) (by decide)]
  have e21 : up σ1 3 0 1 0 21 = σ 21 := by rw [t2 21 (by decide), t1 21 (Or.inr (by decide)) (by decide)]
  have e16 : up σ1 3 0 1 0 16 = σ 16 := by rw [t2 16 (by decide), t1 16 (Or.inr (by decide)) (by decide)]
  have e19 : up σ1 3 0 1 0 19 = σ 19 := by rw [t2 19 (by decide), t1 19 (Or.inr (by decide)) (by decide)]
  obtain ⟨σ2, s2, f2, q0, q3, q9⟩ := M_rack (σ := up σ1 3 0 1 0) (W := σ 19 0) (M := M) ((CM.mok ⟨hK, hd, hr⟩ hb).of e17 e21) (by rw [e16]; exact hM) (by omega) (by rw [e19]) (fun k hk => (l3 k (by omega)).2) uns uns uns uns uns
  rw [e17] at s2 q0 q3
  obtain ⟨r1, r2⟩ := rackA_ok (W := σ 19 0) (M := M) hK.1 hd
  have t3 : ∀ s : Nat, s ≠ 16 → s ≠ 17 → s ≠ 18 → s ≠ 22 → σ2 s = up σ1 3 0 1 0 s := fun s a c d e => by
    funext r k
    rcases f2 s r k with x | x | x | x | x
    · exact absurd x.1 c
    · exact absurd x d
    · exact absurd x e
    · exact absurd x.1 a
    · exact x
  have u16 : ∀ j : Nat, j ≠ 9 → j ≠ 11 → σ2 16 0 j = σ 16 0 j := fun j a c => by
    rcases f2 16 0 j with x | x | x | x | x
    · omega
    · omega
    · omega
    · omega
    · rw [x, e16]
  have rows : ∀ r : Nat, r ≠ 0 → r ≠ 3 → σ2 17 r = σ 17 r := fun r a c => by
    funext k
    rcases f2 17 r k with x | x | x | x | x
    · omega
    · omega
    · omega
    · omega
    · rw [x, e17]
  have t : ∀ s : Nat, s < 7 ∨ 15 < s → s ≠ 2 → s ≠ 3 → s ≠ 16 → s ≠ 17 → s ≠ 18 → s ≠ 22 → σ2 s = σ s := fun s a0 a1 a2 a3 a4 a5 a6 => by rw [t3 s a3 a4 a5 a6, t2 s a2, t1 s a0 a1]
  obtain ⟨h3, h4, h5, h6, h7⟩ := hr
  refine ⟨_, _, σ2, s1, s2, CM.le ?_ (show b ≤ b + 1 by omega), by rw [t2 32 (by decide), t1 32 (Or.inr (by decide)) (by decide)], t 32 (Or.inr (by decide)) (by decide) (by decide) (by decide) (by decide) (by decide) (by decide)⟩
  refine ⟨?_, by rw [q0]; exact r1, fun r k hr hk => ?_, fun k hk => ?_, ⟨?_, fun z => ?_⟩, ?_, ?_⟩
  · rw [q0]; exact g1.tg fun s a c => by rw [t3 s (by omega) (by omega) (by omega) (by omega), t2 s (by omega)]
  · by_cases z : r = 0
    · rw [z, q0, r2 k hk]; exact h3 0 k (by decide) hk
    · by_cases y : r = 3
      · rw [y, q3]; exact h3 0 k (by decide) hk
      · rw [rows r z y]; exact h3 r k hr hk
  · rw [t 21 (Or.inr (by decide)) (by decide) (by decide) (by decide) (by decide) (by decide) (by decide), t 6 (Or.inl (by decide)) (by decide) (by decide) (by decide) (by decide) (by decide) (by decide)]
    exact h4 k hk
  · rw [u16 5 (by decide) (by decide), t 0 (Or.inl (by decide)) (by decide) (by decide) (by decide) (by decide) (by decide) (by decide)]
    exact h5.1
  · rw [u16 5 (by decide) (by decide)] at z
    rw [rows 2 (by decide) (by decide)]
    refine ⟨(h5.2 z).1.tg fun s a c => ?_, (h5.2 z).2⟩
    rw [t3 s (by omega) (by omega) (by omega) (by omega), t2 s (by omega)]
    exact w1.two (by omega)
  · rw [u16 10 (by decide) (by decide), t 0 (Or.inl (by decide)) (by decide) (by decide) (by decide) (by decide) (by decide) (by decide), t 5 (Or.inl (by decide)) (by decide) (by decide) (by decide) (by decide) (by decide) (by decide), t 20 (Or.inr (by decide)) (by decide) (by decide) (by decide) (by decide) (by decide) (by decide)]
    exact h6
  · have e3 : σ2 3 0 1 = 0 := by rw [t3 3 (by decide) (by decide) (by decide) (by decide), up_at]
    rw [q9, e3]
    exact ⟨⟨by decide, by decide⟩, rfl, fun i hi => by omega⟩
