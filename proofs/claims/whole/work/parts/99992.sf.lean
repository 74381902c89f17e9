/-! class and reference, call by call: changes -/
theorem S_leans (t p : Int) {σ : St} {b : Int} (h : CM σ b) (hb : b ≤ 1000000) : Sp k_X4_leans [.inr (.inl (0, 0)), .inl t, .inl p, uns] k_X5_leans [.inr (.inl (16, 0)), .inl t, .inl p, uns] σ b := by
  refine Sp.w h hb ?_ (N_leans t p σ (σ 17 0) h.1 (h.xok hb) uns) (fun σ1 m1 e17 e16 => ?_) (fun hB => ?_)
  · unfold leaB
    split <;> omega
  · have k := (M_leans t p σ1 uns m1).mw
    rw [e17] at k
    exact k
  · unfold leaB at hB
    by_cases z : isT (σ 17 0) t ∧ isP (σ 17 0) p
    · obtain ⟨e0, e1, e2⟩ := on_2 (R := σ 17 0) (p := p) z.1.1
      have hi := h.1.1.1
      unfold Iv0 at hi
      refine ⟨⟨by rw [e2]; exact h.2.1.1, by rw [e2]; exact h.2.1.2⟩, fun k hk => (wrt_ne (by have := z.1.1; have := z.1.2; omega)).trans (h.z k hk)⟩
    · rw [if_neg z] at hB
      omega
theorem S_moves (t c : Int) {σ : St} {b : Int} (h : CM σ b) (hb : b ≤ 1000000) : Sp k_X4_moves [.inr (.inl (0, 0)), .inl t, .inl c, uns] k_X5_moves [.inr (.inl (16, 0)), .inl t, .inl c, uns, uns] σ b := by
  refine Sp.w h hb ?_ (N_moves t c σ (σ 17 0) h.1 (h.xok hb) uns) (fun σ1 m1 e17 e16 => ?_) (fun hB => ?_)
  · unfold movB
    repeat' split
    all_goals omega
  · have k := (M_moves t c σ1 uns uns m1).mw
    rw [e17] at k
    exact k
  · unfold movB at hB
    by_cases z : isT (σ 17 0) t ∧ 0 ≤ c ∧ c ≤ 19
    · obtain ⟨e0, e1, e2⟩ := pl_2 (R := σ 17 0) (p := c) z.1.1
      have hi := h.1.1.1
      unfold Iv0 at hi
      refine ⟨⟨by rw [e2]; exact h.2.1.1, by rw [e2]; exact h.2.1.2⟩, fun k hk => (wrt_ne (by have := z.1.1; have := z.1.2; omega)).trans (h.z k hk)⟩
    · rw [if_neg z] at hB
      omega
theorem S_setsUp (t : Int) {σ : St} {b : Int} (h : CM σ b) (hb : b ≤ 1000000) : Sp k_X4_setsUp [.inr (.inl (0, 0)), .inl t] k_X5_setsUp [.inr (.inl (16, 0)), .inl t, uns] σ b := by
  refine Sp.w h hb ?_ (N_setsUp t σ (σ 17 0) h.1 (h.xok hb)) (fun σ1 m1 e17 e16 => ?_) (fun hB => ?_)
  · unfold tB
    split <;> omega
  · have k := M_setsUp t σ1 uns m1
    rw [e17] at k
    refine ⟨_, MS.refl _, ?_⟩
    dsimp only
    rw [k]
    unfold tB
    by_cases z : isT (σ 17 0) t
    · rw [if_pos z, if_pos z, if_pos z, if_pos (show (0 : Int) = 0 from rfl), if_pos (show (0 : Int) = 0 from rfl)]
    · rw [if_neg z, if_neg z, if_neg z, if_neg (show ¬ (-1 : Int) = 0 by decide), if_neg (show ¬ (-1 : Int) = 0 by decide)]
  · unfold tB at hB
    by_cases z : isT (σ 17 0) t
    · obtain ⟨e0, e1, e2⟩ := up_0 (R := σ 17 0) (v := 1) z.1
      have hi := h.1.1.1
      unfold Iv0 at hi
      refine ⟨⟨by rw [e2]; exact h.2.1.1, by rw [e2]; exact h.2.1.2⟩, fun k hk => (wrt_ne (by have := z.1; have := z.2; omega)).trans (h.z k hk)⟩
    · rw [if_neg z] at hB
      omega
theorem S_pushes (t : Int) {σ : St} {b : Int} (h : CM σ b) (hb : b ≤ 1000000) : Sp k_X4_pushes [.inr (.inl (0, 0)), .inl t, uns] k_X5_pushes [.inr (.inl (16, 0)), .inl t, uns] σ b := by
  refine Sp.w h hb (wup_B _ _) (N_pushes t σ (σ 17 0) h.1 (h.xok hb) uns) (fun σ1 m1 e17 e16 => ?_) (fun hB => ?_)
  · have k := M_pushes t σ1 uns m1
    rw [e17] at k
    exact ⟨_, MS.refl _, k⟩
  · have hw := wup_c (σ 17 0) t
    have ht : isT (σ 17 0) t := by omega
    have d := fellF_dn h.1.1.to1 ht.1 (show t < σ 17 0 1 by have := ht.2; omega)
    exact ⟨⟨by rw [d.2.2.1]; exact h.2.1.1, by rw [d.2.2.1]; exact h.2.1.2⟩, fun k hk => (d.2.2.2.2.2.2 k hk).trans (h.z k hk)⟩
theorem S_strong (p v : Int) {σ : St} {b : Int} (h : CM σ b) (hb : b ≤ 1000000) : Sp k_X4_strong [.inr (.inl (0, 0)), .inl p, .inl v, uns, uns] k_X5_strong [.inr (.inl (16, 0)), .inl p, .inl v, uns, uns] σ b := by
  refine Sp.w h hb ?_ (N_strong p v σ (σ 17 0) h.1 (h.xok hb) uns uns) (fun σ1 m1 e17 e16 => ?_) (fun hB => ?_)
  · unfold takB wbyF
    repeat' split
    all_goals omega
  · have k := (M_strong p v σ1 uns uns m1).mw
    rw [e17] at k
    exact k
  · unfold takB at hB
    by_cases z : isP (σ 17 0) p
    · have hi := h.1.1.1
      unfold Iv0 at hi
      obtain ⟨e0, e1, e2⟩ := sw_0 (R := σ 17 0) (v := v) z.1 (show p < 5 by have := z.2; omega)
      refine ⟨⟨by rw [e2]; exact h.2.1.1, by rw [e2]; exact h.2.1.2⟩, fun k hk => (wrt_ne (by have := z.1; have := z.2; omega)).trans (h.z k hk)⟩
    · rw [if_neg z] at hB
      omega
theorem S_turn (p k f : Int) {σ : St} {b : Int} (h : CM σ b) (hb : b ≤ 1000000) : Sp k_X4_turn [.inr (.inl (0, 0)), .inl p, .inl k, .inl f, uns, uns] k_X5_turn [.inr (.inl (16, 0)), .inl p, .inl k, .inl f, uns, uns, uns] σ b := by
  refine Sp.w h hb ?_ (N_turn p k f σ (σ 17 0) h.1 (h.xok hb) uns uns) (fun σ1 m1 e17 e16 => ?_) (fun hB => ?_)
  · unfold turB wbyF
    repeat' split
    all_goals omega
  · have k := (M_turn p k f σ1 uns uns uns m1).mw
    rw [e17] at k
    exact k
  · unfold turB at hB
    by_cases z : isP (σ 17 0) p
    · have hi := h.1.1.1
      unfold Iv0 at hi
      obtain ⟨⟨e0, e1, e2⟩, _⟩ := kf_all (R := σ 17 0) (k := k) (f := f) z.1 (show p < 5 by have := z.2; omega)
      refine ⟨⟨by rw [e2]; exact h.2.1.1, by rw [e2]; exact h.2.1.2⟩, fun j hj => ((wrt_ne (by have := z.1; have := z.2; omega)).trans (wrt_ne (by have := z.1; have := z.2; omega))).trans (h.z j hj)⟩
    · rw [if_neg z] at hB
      omega
theorem S_days (x : Int) {σ : St} {b : Int} (h : CM σ b) (hb : b ≤ 1000000) : Sp k_X4_days [.inr (.inl (0, 0)), .inl x, uns] k_X5_days [.inr (.inl (16, 0)), .inl x] σ b := by
  refine Sp.w h hb ?_ (N_days x σ (σ 17 0) h.1 h.2.1 (h.xok hb) uns) (fun σ1 m1 e17 e16 => ?_) (fun hB => ?_)
  · unfold dayB
    repeat' split
    all_goals omega
  · obtain ⟨g, k⟩ := M_days x σ1 m1
    rw [e17] at k
    refine ⟨if dayB (σ 17 0) x = 0 then sR σ1 0 (daysF x.toNat (σ 17 0)) g else noS σ1 (dayB (σ 17 0) x), ?_, k⟩
    by_cases z : dayB (σ 17 0) x = 0
    · rw [if_pos z, if_pos z]
      intro t r j
      by_cases e : t = 18
      · exact Or.inr (Or.inl e)
      · right; right; right
        show set18 (setR σ1 0 (daysF x.toNat (σ 17 0))) g t r j = _
        rw [s18_t _ _ e]
    · rw [if_neg z, if_neg z]
      exact MS.refl _
  · unfold dayB at hB
    have hd := h.2.1
    obtain ⟨o1, o2, o3, o4, o5⟩ := daysF_ok x.toNat h.1.1
    by_cases z : x < 1
    · rw [if_pos z] at hB; omega
    · rw [if_neg z] at hB
      by_cases y : 60 < x ∨ 999 < σ 17 0 2 + x
      · rw [if_pos y] at hB; omega
      · refine ⟨⟨by rw [o4]; have := hd.1; omega, by rw [o4]; omega⟩, fun k hk => (o5 k hk).trans (h.z k hk)⟩
/-! the others -/
theorem S_spare (p : Int) {σ : St} {b : Int} (h : CM σ b) (hb : b ≤ 1000000) : Sp k_X4_spare [.inr (.inl (0, 0)), .inl p] k_X5_spare [.inr (.inl (16, 0)), .inl p] σ b := by
  have s1 := N_spare p σ (σ 17 0) h.1 (h.xok hb)
  have hB : -6 ≤ pB (σ 17 0) p ∧ pB (σ 17 0) p ≤ 0 := by
    unfold pB
    split <;> omega
  have e1 : pB (σ 17 0) p ≠ 0 → pB (σ 17 0) p = -1 := by
    unfold pB
    split
    · exact fun z => absurd rfl z
    · exact fun _ => rfl
  have x : XS (if pB (σ 17 0) p = 0 then σ else noX σ (pB (σ 17 0) p)) (if pB (σ 17 0) p = 0 then σ else noX σ (-1)) := by
    by_cases z : pB (σ 17 0) p = 0
    · rw [if_pos z, if_pos z]; exact XS.refl _
    · rw [if_neg z, if_neg z, e1 z]; exact XS.refl _
  obtain ⟨e17, e21, e16, e20, e19, e32, nx⟩ := h.afX hB x
  generalize (if pB (σ 17 0) p = 0 then σ else noX σ (-1)) = τ at *
  obtain ⟨σ2, m, s2⟩ := M_spare p τ ((h.mok hb).of e17 e21)
  rw [e17] at m s2
  obtain ⟨c, d⟩ := nx σ2 (by
    by_cases z : pB (σ 17 0) p = 0
    · rw [if_pos z] at m ⊢; exact m
    · rw [if_neg z] at m ⊢; rw [e1 z]; exact m)
  exact ⟨_, τ, σ2, s1, s2, c, e32, d⟩
theorem S_whatWas (p w : Int) {σ : St} {b : Int} (h : CM σ b) (hb : b ≤ 1000000) : Sp k_X4_whatWas [.inr (.inl (0, 0)), .inl p, .inl w] k_X5_whatWas [.inr (.inl (16, 0)), .inl p, .inl w, uns, uns, uns, uns] σ b := by
  obtain ⟨⟨r0, r1⟩, r2, r3⟩ := h.2.2.2.2.2.1
  have hB : -6 ≤ balB (σ 17 0) p w ∧ balB (σ 17 0) p w ≤ 0 := by
    unfold balB
    repeat' split
    all_goals omega
  refine Sp.q h hb hB (N_whatWas p w σ (σ 17 0) h.1 h.2.1 (h.xok hb) (σ 20 0) (σ 16 0 10) r0 r1 r2 r3) (fun σ1 m1 e17 e16 e20 => ?_)
  have k := M_whatWas p w σ1 uns uns uns uns m1 (by rw [e16]; exact r0) (by rw [e16]; exact r1)
  rw [e17, e16, e20] at k
  exact k
theorem CM.rl {σ τ : St} {b : Int} (h : CM σ b) (k : ∀ t, 7 ≤ t → t ≤ 15 → τ t = σ t) (e17 : τ 17 = σ 17) (e21 : τ 21 = σ 21) (e6 : τ 6 = σ 6) (ei : τ 0 0 4 = σ 0 0 4 ∧ τ 16 0 5 = σ 16 0 5) (hr : (0 ≤ τ 16 0 10 ∧ τ 16 0 10 ≤ 16) ∧ τ 0 0 6 = τ 16 0 10 ∧ ∀ i : Nat, (i : Int) < τ 16 0 10 → τ 5 0 i = τ 20 0 i) (hl : (0 ≤ τ 16 0 9 ∧ τ 16 0 9 ≤ 96) ∧ τ 3 0 1 = τ 16 0 9 ∧ ∀ i : Nat, (i : Int) < τ 16 0 9 → τ 4 0 i = τ 19 0 i ∧ 0 ≤ τ 19 0 i ∧ τ 19 0 i ≤ 255) : CM τ b := by
  obtain ⟨h1, h2, h3, h4, h5, h6, h7⟩ := h
  refine ⟨by rw [e17]; exact h1.tg fun t a c => by rw [k t a c], by rw [e17]; exact h2, by rw [e17]; exact h3, by rw [e21, e6]; exact h4, ?_, hr, hl⟩
  rw [ei.1, ei.2, e17]
  exact ⟨h5.1, fun z => ⟨(h5.2 z).1.tg fun t a c => by rw [k t a c], (h5.2 z).2⟩⟩
theorem CM.u13 {σ : St} {b : Int} (h : CM σ b) (v : Int) : CM (up σ 16 0 13 v) b := by
  obtain ⟨h1, h2, h3, h4, h5, h6, h7⟩ := h
  have t : ∀ s : Nat, s ≠ 16 → up σ 16 0 13 v s = σ s := fun s hs => up_t hs
  have c : ∀ j : Nat, j ≠ 13 → up σ 16 0 13 v 16 0 j = σ 16 0 j := fun j hj => upx_k hj
  refine CM.rl ⟨h1, h2, h3, h4, h5, h6, h7⟩ (fun s a d => t s (by omega)) (t 17 (by decide)) (t 21 (by decide)) (t 6 (by decide)) ⟨by rw [t 0 (by decide)], c 5 (by decide)⟩ ?_ ?_
  · rw [c 10 (by decide), t 0 (by decide), t 5 (by decide), t 20 (by decide)]; exact h6
  · rw [c 9 (by decide), t 3 (by decide), t 4 (by decide), t 19 (by decide)]; exact h7
theorem S_lots (N s w : Int) {σ : St} {b : Int} (h : CM σ b) (hb : b ≤ 1000000) : Sp k_X4_lots [.inr (.inl (0, 0)), .inl N, .inl s, .inl w, uns] k_X5_lots [.inr (.inl (16, 0)), .inl N, .inl s, .inl w, uns, uns, uns] σ b := by
  have hB : -6 ≤ lotB (σ 17 0) N w ∧ lotB (σ 17 0) N w ≤ 0 := by
    unfold lotB
    repeat' split
    all_goals omega
  obtain ⟨σ1, x, s1⟩ := N_lots N s w σ (σ 17 0) h.1 h.2.1 (h.xok hb) uns
  obtain ⟨e17, e21, e16, e20, e19, e32, nx⟩ := h.afX hB x
  obtain ⟨σ2, s', m, s2⟩ := M_lots N s w σ1 uns uns uns ((h.mok hb).of e17 e21)
  rw [e17] at m s2
  by_cases e : lotB (σ 17 0) N w = 0
  · rw [if_pos e] at m x
    have c := (h.xs x).u13 s'
    refine ⟨_, σ1, σ2, s1, s2, (c.ms m).le (by omega), e32, ?_⟩
    rw [m.tag (by decide) (by decide) (by decide), up_t (by decide), e32]
  · rw [if_neg e] at m
    obtain ⟨c, d⟩ := nx σ2 (by rw [if_neg e]; exact m)
    exact ⟨_, σ1, σ2, s1, s2, c, e32, d⟩
/-- a step that answers a long -/
def SpL (y4 : Nat) (l4 : List AV) (y5 : Nat) (l5 : List AV) (σ : St) (b : Int) : Prop := ∃ (x : Int) (σ1 σ2 : St), Rx y4 0 l4 [] σ = some (some (.inr (.inr x)), σ1) ∧ Rx y5 0 l5 [] σ1 = some (some (.inr (.inr x)), σ2) ∧ CM σ2 (b + 1) ∧ σ1 32 = σ 32 ∧ σ2 32 = σ 32
theorem S_draught (t d n w : Int) {σ : St} {b : Int} (h : CM σ b) (hb : b ≤ 1000000) : SpL k_X4_draught [.inr (.inl (0, 0)), .inl t, .inl d, .inl n, .inl w, uns, uns, uns, uns, uns, uns, uns] k_X5_draught [.inr (.inl (16, 0)), .inl t, .inl d, .inl n, .inl w, uns, uns, uns, uns, uns, uns, uns, uns, uns] σ b := by
  have hB : -6 ≤ draB (σ 17 0) t d n w ∧ draB (σ 17 0) t d n w ≤ 0 := by
    unfold draB
    repeat' split
    all_goals omega
  obtain ⟨σ1, x, s1⟩ := N_draught t d n w σ (σ 17 0) h.1 h.2.1 (h.xok hb) uns uns uns uns uns uns uns
  obtain ⟨e17, e21, e16, e20, e19, e32, nx⟩ := h.afX hB x
  obtain ⟨σ2, m, s2⟩ := M_draught t d n w σ1 uns uns uns uns uns uns uns uns uns ((h.mok hb).of e17 e21)
  rw [e17] at m s2
  obtain ⟨c, k⟩ := nx σ2 m
  exact ⟨_, σ1, σ2, s1, s2, c, e32, k⟩
theorem N_count (x : Int) {σ : St} {b : Int} (h : CM σ b) : Rx k_X4_count 0 [.inr (.inl (0, 0)), .inl x] [] σ = some (some (.inl (couA σ x)), σ) := by
  obtain ⟨hK, hd, h3, h4, h5, ⟨r0, r1, r2⟩, ⟨l0, l1, l2⟩⟩ := h
  have e := hK.2.1
  unfold couA
  rw [b_X4_count_0]
  by_cases c0 : x = 0
  · rw [if_pos c0, b_X4_count_48, if_neg (show ¬ (11 ≤ x ∧ x ≤ 16) by omega), if_pos (show 0 ≤ x ∧ x ≤ 2 by omega), c0, e.1]; rfl
  rw [if_neg c0]
  by_cases c1 : x = 1
  · rw [if_pos c1, b_X4_count_56, if_neg (show ¬ (11 ≤ x ∧ x ≤ 16) by omega), if_pos (show 0 ≤ x ∧ x ≤ 2 by omega), c1, e.2.1]; rfl
  rw [if_neg c1]
  by_cases c2 : x = 2
  · rw [if_pos c2, b_X4_count_64, if_neg (show ¬ (11 ≤ x ∧ x ≤ 16) by omega), if_pos (show 0 ≤ x ∧ x ≤ 2 by omega), c2, e.2.2.1]; rfl
  rw [if_neg c2]
  by_cases c3 : x = 3
  · rw [if_pos c3, b_X4_count_72, if_neg (show ¬ (11 ≤ x ∧ x ≤ 16) by omega), if_neg (show ¬ (0 ≤ x ∧ x ≤ 2) by omega), if_pos c3, e.2.2.2]
  rw [if_neg c3]
  by_cases c4 : x = 4
  · rw [if_pos c4, b_X4_count_80, K_allStrength hK.2 hK.1, if_neg (show ¬ (11 ≤ x ∧ x ≤ 16) by omega), if_neg (show ¬ (0 ≤ x ∧ x ≤ 2) by omega), if_neg c3, if_pos c4]
    simp only [Option.bind_some, Option.toList_some, Option.toList_none, List.cons_append, List.nil_append, List.append_nil]
    rw [b_X4_count_87]
  rw [if_neg c4]
  by_cases c5 : x = 5
  · rw [if_pos c5, b_X4_count_88, K_allLoad hK, if_neg (show ¬ (11 ≤ x ∧ x ≤ 16) by omega), if_neg (show ¬ (0 ≤ x ∧ x ≤ 2) by omega), if_neg c3, if_neg c4, if_pos c5]
    simp only [Option.bind_some, Option.toList_some, Option.toList_none, List.cons_append, List.nil_append, List.append_nil]
    rw [b_X4_count_95]
  rw [if_neg c5]
  by_cases c6 : x = 6
  · rw [if_pos c6, b_X4_count_96, r1, if_neg (show ¬ (11 ≤ x ∧ x ≤ 16) by omega), if_neg (show ¬ (0 ≤ x ∧ x ≤ 2) by omega), if_neg c3, if_neg c4, if_neg c5, if_pos c6]
  rw [if_neg c6]
  by_cases c7 : x = 7
  · rw [if_pos c7, b_X4_count_101, l1, if_neg (show ¬ (11 ≤ x ∧ x ≤ 16) by omega), if_neg (show ¬ (0 ≤ x ∧ x ≤ 2) by omega), if_neg c3, if_neg c4, if_neg c5, if_neg c6, if_pos c7]
  rw [if_neg c7, b_X4_count_109]
  by_cases a : 11 ≤ x ∧ x ≤ 16
  · rw [if_neg (show ¬ x < 11 by omega), b_X4_count_115, if_neg (show ¬ 16 < x by omega), (b_X4_count_121 (h0 := by omega) (h1 := by omega) (g0a := by omega) (g0b := by omega)), if_pos a, (h4 (x - 10).toNat (by omega)).2]
  · have e133 : Rx k_X4_count 133 [.inr (.inl (0, 0)), .inl x] [] σ = some (some (.inl (-9)), σ) := by rw [b_X4_count_133]
    rw [if_neg a, if_neg (show ¬ (0 ≤ x ∧ x ≤ 2) by omega), if_neg c3, if_neg c4, if_neg c5, if_neg c6, if_neg c7]
    by_cases y : x < 11
    · rw [if_pos y, e133]
    · rw [if_neg y, b_X4_count_115, if_pos (show 16 < x by omega), e133]
theorem S_count (x : Int) {σ : St} {b : Int} (h : CM σ b) (hb : b ≤ 1000000) : Sp k_X4_count [.inr (.inl (0, 0)), .inl x] k_X5_count [.inr (.inl (16, 0)), .inl x, uns, uns] σ b := ⟨_, σ, σ, N_count x h, M_count x σ uns uns (h.mok hb), h.le (by omega), rfl, rfl⟩
theorem S_clear {σ : St} {b : Int} (h : CM σ b) (hb : b ≤ 1000000) : Sp k_X4_clear [.inr (.inl (0, 0)), uns] k_X5_clear [.inr (.inl (16, 0)), uns] σ b := by
  obtain ⟨⟨r0, r1⟩, r2, r3⟩ := h.2.2.2.2.2.1
  obtain ⟨l0, l1, l2⟩ := h.2.2.2.2.2.2
  have s2 := C_clear (up σ 0 0 6 0) uns
  rw [up_t (s := 16) (by decide)] at s2
  refine ⟨σ 16 0 10, _, _, by rw [b_X4_clear_0, r2], s2, CM.le ?_ (show b ≤ b + 1 by omega), up_t (by decide), by rw [up_t (by decide), up_t (by decide)]⟩
  have t : ∀ s : Nat, s ≠ 16 → s ≠ 0 → up (up σ 0 0 6 0) 16 0 10 0 s = σ s := fun s h1 h2 => by rw [up_t h1, up_t h2]
  refine h.rl (fun s a c => t s (by omega) (by omega)) (t 17 (by decide) (by decide)) (t 21 (by decide) (by decide)) (t 6 (by decide) (by decide)) ⟨by rw [upx_t (by decide), upx_k (by decide)], by rw [upx_k (by decide), upx_t (by decide)]⟩ ?_ ?_
  · rw [up_at, upx_t (by decide), up_at]
    exact ⟨⟨by decide, by decide⟩, rfl, fun i hi => by omega⟩
  · rw [upx_k (by decide), upx_t (s := 16) (by decide), t 3 (by decide) (by decide), t 4 (by decide) (by decide), t 19 (by decide) (by decide)]
    exact ⟨l0, l1, l2⟩
theorem S_judge {σ : St} {b : Int} (h : CM σ b) (hb : b ≤ 1000000) : Sp k_X4_judge [.inr (.inl (0, 0)), uns] k_X5_judge [.inr (.inl (16, 0)), uns, uns] σ b := by
  obtain ⟨⟨r0, r1⟩, r2, r3⟩ := h.2.2.2.2.2.1
  obtain ⟨σ1, s1, f1⟩ := K_misjudged h.1 h.2.1 (σ 20 0) r0 r1 r3 uns
  have h1 := h.xs f1.xs
  have t1 : ∀ s : Nat, 15 < s → σ1 s = σ s := fun s hs => f1.tag (Or.inr hs)
  have e4 : Rx k_X4_judge 0 [.inr (.inl (0, 0)), uns] [] σ = some (some (.inl (judG (σ 20 0) (σ 16 0 10).toNat 0 (σ 17 0))), up σ1 0 0 6 0) := by
    rw [b_X4_judge_0, r2, s1]
    simp only [Option.bind_some, Option.toList_some, Option.toList_none, List.cons_append, List.nil_append, List.append_nil]
    rw [b_X4_judge_15]
  obtain ⟨⟨q0, q1⟩, q2, q3⟩ := h1.2.2.2.2.2.1
  obtain ⟨l0, l1, l2⟩ := h1.2.2.2.2.2.2
  have g : ∀ s : Nat, s ≠ 0 → up σ1 0 0 6 0 s = σ1 s := fun s hs => up_t hs
  obtain ⟨σ2, m, s2⟩ := M_judge (up σ1 0 0 6 0) uns uns ((h1.mok hb).of (g 17 (by decide)) (g 21 (by decide))) (by rw [g 16 (by decide)]; exact q0) (by rw [g 16 (by decide)]; exact q1)
  rw [g 16 (by decide), g 17 (by decide), g 20 (by decide), t1 16 (by decide), t1 17 (by decide), t1 20 (by decide)] at s2
  refine ⟨_, _, σ2, e4, s2, (CM.ms ?_ m).le (show b ≤ b + 1 by omega), by rw [up_t (by decide), t1 32 (by decide)], ?_⟩
  · have t : ∀ s : Nat, s ≠ 16 → s ≠ 0 → up (up σ1 0 0 6 0) 16 0 10 0 s = σ1 s := fun s h1 h2 => by rw [up_t h1, up_t h2]
    refine h1.rl (fun s a c => t s (by omega) (by omega)) (t 17 (by decide) (by decide)) (t 21 (by decide) (by decide)) (t 6 (by decide) (by decide)) ⟨by rw [upx_t (by decide), upx_k (by decide)], by rw [upx_k (by decide), upx_t (by decide)]⟩ ?_ ?_
    · rw [up_at, upx_t (by decide), up_at]
      exact ⟨⟨by decide, by decide⟩, rfl, fun i hi => by omega⟩
    · rw [upx_k (by decide), upx_t (s := 16) (by decide), t 3 (by decide) (by decide), t 4 (by decide) (by decide), t 19 (by decide) (by decide)]
      exact ⟨l0, l1, l2⟩
  · rw [m.tag (by decide) (by decide) (by decide), up_t (by decide), up_t (by decide), t1 32 (by decide)]
theorem S_row (v : Int) {σ : St} {b : Int} (h : CM σ b) (hb : b ≤ 1000000) : Sp k_X4_row [.inr (.inl (0, 0)), .inl v, uns] k_X5_row [.inr (.inl (16, 0)), .inl v, uns] σ b := by
  obtain ⟨⟨r0, r1⟩, r2, r3⟩ := h.2.2.2.2.2.1
  obtain ⟨l0, l1, l2⟩ := h.2.2.2.2.2.2
  have hx := h.xok hb
  have hw := wby_c v 99
  have start : Rx k_X4_row 0 [.inr (.inl (0, 0)), .inl v, uns] [] σ = if -(wbyF v 99) = 0 then Rx k_X4_row 12 [.inr (.inl (0, 0)), .inl v, .inl (-(wbyF v 99))] [] σ else Rx k_X4_row 31 [.inr (.inl (0, 0)), .inl v, .inl (-(wbyF v 99))] [] σ := by
    rw [b_X4_row_0, K_outside]
    simp only [Option.bind_some, Option.toList_some, Option.toList_none, List.cons_append, List.nil_append, List.append_nil]
    rw [b_X4_row_7]
  have no : ∀ o : Int, 0 ≤ o → o ≤ 6 → Rx k_X4_row 35 [.inr (.inl (0, 0)), .inl v, .inl o] [] σ = some (some (.inl (-o)), noX σ (-o)) := by
    intro o a c
    rw [b_X4_row_35, K_refuse hx a c]
    simp only [Option.bind_some, Option.toList_some, Option.toList_none, List.cons_append, List.nil_append, List.append_nil]
    rw [b_X4_row_40]
  by_cases e : rowB v (σ 16 0 10) = 0
  · have e1 : wbyF v 99 = 0 ∧ σ 16 0 10 ≠ 16 := by
      unfold rowB at e
      by_cases z : wbyF v 99 = 0
      · rw [if_pos z] at e
        refine ⟨z, fun y => ?_⟩
        rw [if_pos y] at e
        omega
      · rw [if_neg z] at e
        exact absurd e z
    have s1 : Rx k_X4_row 0 [.inr (.inl (0, 0)), .inl v, uns] [] σ = some (some (.inl (σ 16 0 10 + 1)), up (up σ 5 0 (σ 16 0 10).toNat v) 0 0 6 (σ 16 0 10 + 1)) := by
      rw [start, if_pos (by omega), b_X4_row_12, r2, if_neg (by omega), b_X4_row_19, r2, if_pos (by omega), b_X4_row_31, if_pos (by omega), b_X4_row_41 (h0 := by omega) (h1 := by omega) (g0a := by rw [upx_t (by decide)]; omega) (g0b := by rw [upx_t (by decide)]; omega)]
      simp (disch := decide) only [upx_t, up_at, r2]
    have g : ∀ s : Nat, s ≠ 0 → s ≠ 5 → up (up σ 5 0 (σ 16 0 10).toNat v) 0 0 6 (σ 16 0 10 + 1) s = σ s := fun s h1 h2 => by rw [up_t h1, up_t h2]
    have s2 := M_row v (up (up σ 5 0 (σ 16 0 10).toNat v) 0 0 6 (σ 16 0 10 + 1)) uns ((h.mok hb).of (g 17 (by decide) (by decide)) (g 21 (by decide) (by decide))) (by rw [g 16 (by decide) (by decide)]; exact r0) (by rw [g 16 (by decide) (by decide)]; exact r1)
    rw [g 16 (by decide) (by decide), if_pos e, if_pos e] at s2
    refine ⟨_, _, _, s1, s2, CM.le ?_ (show b ≤ b + 1 by omega), g 32 (by decide) (by decide), by rw [up_t (by decide), up_t (by decide), g 32 (by decide) (by decide)]⟩
    have t : ∀ s : Nat, s ≠ 16 → s ≠ 20 → s ≠ 0 → s ≠ 5 → up (up (up (up σ 5 0 (σ 16 0 10).toNat v) 0 0 6 (σ 16 0 10 + 1)) 20 0 (σ 16 0 10).toNat v) 16 0 10 (σ 16 0 10 + 1) s = σ s := fun s h1 h2 h3 h4 => by rw [up_t h1, up_t h2, up_t h3, up_t h4]
    refine h.rl (fun s a c => t s (by omega) (by omega) (by omega) (by omega)) (t 17 (by decide) (by decide) (by decide) (by decide)) (t 21 (by decide) (by decide) (by decide) (by decide)) (t 6 (by decide) (by decide) (by decide) (by decide)) ⟨by rw [upx_t (by decide), upx_t (by decide), upx_k (by decide), upx_t (by decide)], by rw [upx_k (by decide), upx_t (by decide), upx_t (by decide), upx_t (by decide)]⟩ ?_ ?_
    · rw [up_at, upx_t (s := 0) (by decide), upx_t (s := 0) (by decide), up_at]
      refine ⟨by omega, rfl, fun i hi => ?_⟩
      rw [upx_t (s := 5) (by decide), upx_t (s := 5) (by decide), upx_t (s := 5) (by decide), upx_t (s := 20) (by decide)]
      by_cases z : i = (σ 16 0 10).toNat
      · rw [z, up_at, up_at]
      · rw [upx_k z, upx_k z, upx_t (s := 20) (by decide), upx_t (s := 20) (by decide)]
        exact r3 i (by omega)
    · rw [upx_k (by decide), upx_t (s := 16) (by decide), upx_t (s := 16) (by decide), upx_t (s := 16) (by decide), t 3 (by decide) (by decide) (by decide) (by decide), t 4 (by decide) (by decide) (by decide) (by decide), t 19 (by decide) (by decide) (by decide) (by decide)]
      exact ⟨l0, l1, l2⟩
  · have hB : -6 ≤ rowB v (σ 16 0 10) ∧ rowB v (σ 16 0 10) ≤ 0 := by
      unfold rowB
      repeat' split
      all_goals omega
    have s1 : Rx k_X4_row 0 [.inr (.inl (0, 0)), .inl v, uns] [] σ = some (some (.inl (rowB v (σ 16 0 10))), noX σ (rowB v (σ 16 0 10))) := by
      rw [start]
      unfold rowB at e ⊢
      by_cases z : wbyF v 99 = 0
      · rw [if_pos z] at e ⊢
        have y : σ 16 0 10 = 16 := by
          by_cases y : σ 16 0 10 = 16
          · exact y
          · rw [if_neg y] at e; exact absurd rfl e
        rw [if_pos (show -(wbyF v 99) = 0 by omega), b_X4_row_12, r2, if_neg (by omega), b_X4_row_19, r2, if_neg (by omega), b_X4_row_28, if_neg (by decide), no 6 (by decide) (by decide), if_pos y]
      · rw [if_neg z, if_neg (show ¬ -(wbyF v 99) = 0 by omega), b_X4_row_31, if_neg (by omega), no _ (by omega) (by omega), Int.neg_neg]
    have x2 : XS (if rowB v (σ 16 0 10) = 0 then σ else noX σ (rowB v (σ 16 0 10))) (noX σ (rowB v (σ 16 0 10))) := by rw [if_neg e]; exact XS.refl _
    obtain ⟨e17, e21, e16, e20, e19, e32, nx⟩ := h.afX hB x2
    have s2 := M_row v (noX σ (rowB v (σ 16 0 10))) uns ((h.mok hb).of e17 e21) (by rw [e16]; exact r0) (by rw [e16]; exact r1)
    rw [e16, if_neg e, if_neg e] at s2
    obtain ⟨c, d⟩ := nx _ (by rw [if_neg e]; exact MS.refl _)
    exact ⟨_, _, _, s1, s2, c, e32, d⟩
