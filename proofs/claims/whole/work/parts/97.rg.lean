/-! the heaviest on a purpose -/
abbrev cnd (R : Rw) (p u : Int) : Prop := uq R u = 1 ∧ on R u = p
def HvQ (R : Rw) (p : Int) (S : Int → Prop) (f : Int) : Prop := (∀ u, isT R u → S u → cnd R p u → 0 ≤ f ∧ (wt R u < wt R f ∨ (wt R u = wt R f ∧ pl R f ≤ pl R u))) ∧ (f = -9 ∨ (isT R f ∧ cnd R p f ∧ S f))
theorem HvQ.un {R : Rw} {p f g : Int} {S T : Int → Prop} (h : Iv R) (hS : ∀ u, isT R u → S u) (hT : ∀ u, isT R u → T u) (hf : HvQ R p S f) (hg : HvQ R p T g) : f = g := by
  obtain ⟨f1, f2⟩ := hf
  obtain ⟨g1, g2⟩ := hg
  rcases f2 with f2 | f2 <;> rcases g2 with g2 | g2
  · rw [f2, g2]
  · have := (f1 g g2.1 (hS g g2.1) g2.2.1).1
    omega
  · have := (g1 f f2.1 (hT f f2.1) f2.2.1).1
    omega
  · have a := (f1 g g2.1 (hS g g2.1) g2.2.1).2
    have b := (g1 f f2.1 (hT f f2.1) f2.2.1).2
    exact h.2.2.2 f g f2.1.1 (by have := f2.1.2; omega) g2.1.1 (by have := g2.1.2; omega) (by omega)
theorem heavG_ok {R : Rw} {p : Int} : ∀ (n : Nat) (t f : Int), 0 ≤ t → t + n = R 1 → HvQ R p (fun u => u < t) f → HvQ R p (fun u => u < R 1) (heavG R p n t f) := by
  intro n
  induction n with
  | zero =>
    intro t f h0 h1 h
    have e : t = R 1 := by omega
    rw [e] at h
    exact h
  | succ n ih =>
    intro t f h0 h1 h
    rw [heavG_s]
    refine ih (t + 1) _ (by omega) (by omega) ?_
    obtain ⟨a, b⟩ := h
    have ht : isT R t := ⟨h0, by omega⟩
    have keep : (cnd R p t → 0 ≤ f ∧ (wt R t < wt R f ∨ (wt R t = wt R f ∧ pl R f ≤ pl R t))) → HvQ R p (fun u => u < t + 1) f := by
      intro z
      refine ⟨fun u u1 u2 u3 => ?_, ?_⟩
      · by_cases e : u = t
        · subst e; exact z u3
        · exact a u u1 (show u < t by have : u < t + 1 := u2; omega) u3
      · rcases b with b | b
        · exact Or.inl b
        · exact Or.inr ⟨b.1, b.2.1, show f < t + 1 by have : f < t := b.2.2; omega⟩
    have take : cnd R p t → (∀ u, isT R u → u < t → cnd R p u → wt R u < wt R t ∨ (wt R u = wt R t ∧ pl R t ≤ pl R u)) → HvQ R p (fun u => u < t + 1) t := by
      intro z y
      refine ⟨fun u u1 u2 u3 => ⟨h0, ?_⟩, Or.inr ⟨ht, z, show t < t + 1 by omega⟩⟩
      by_cases e : u = t
      · subst e; exact Or.inr ⟨rfl, Int.le_refl _⟩
      · exact y u u1 (by have : u < t + 1 := u2; omega) u3
    by_cases hc : cnd R p t
    · rw [if_pos hc]
      by_cases hf : f < 0
      · rw [if_pos hf]
        refine take hc (fun u u1 u2 u3 => ?_)
        have := (a u u1 u2 u3).1
        omega
      · rw [if_neg hf]
        by_cases hw : 0 < wt R t - wt R f
        · rw [if_pos hw]
          refine take hc (fun u u1 u2 u3 => ?_)
          have := (a u u1 u2 u3).2
          omega
        · rw [if_neg hw]
          by_cases he : wt R t - wt R f = 0 ∧ pl R t < pl R f
          · rw [if_pos he]
            refine take hc (fun u u1 u2 u3 => ?_)
            have := (a u u1 u2 u3).2
            omega
          · rw [if_neg he]
            exact keep (fun _ => ⟨by omega, by omega⟩)
    · rw [if_neg hc]
      exact keep (fun z => absurd z hc)
theorem heavF_ok {R : Rw} (hb : Iv0 R) (p : Int) : HvQ R p (fun u => u < R 1) (heavF R p) := by
  unfold Iv0 at hb
  exact heavG_ok (R 1).toNat 0 (-9) (Int.le_refl 0) (by omega) ⟨fun u u1 u2 _ => by have : u < 0 := u2; have := u1.1; omega, Or.inl rfl⟩
theorem L_heavOn {σ : St} {q : Nat} {R : Rw} {L : Int → Int} (h : RKp σ q R L (upF R : Nat)) (hI : Iv R) (p : Int) : ∀ (n : Nat) (c f m : Int) (u : AV), 0 ≤ c → c + n = 20 → HvQ R p (fun u => pl R u < c) f → m = (if f < 0 then 0 else wt R f) → ∃ g, Rx k_X2_heaviestOn 8 [.inr (.inl (7, q)), .inl p, .inl f, .inl m, .inl c, u] [] σ = some (some (.inl g), σ) ∧ HvQ R p (fun u => pl R u < 20) g := by
  have hb := hI.1
  have hi := hI.1
  unfold Iv0 at hb
  intro n
  induction n with
  | zero =>
    intro c f m u h0 h1 hH hm
    refine ⟨f, ?_, ?_⟩
    · rw [b_X2_heaviestOn_8, if_neg (show ¬ c < 20 by omega), b_X2_heaviestOn_72]
    · have e : c = 20 := by omega
      rw [e] at hH
      exact hH
  | succ n ih =>
    intro c f m u h0 h1 hH hm
    obtain ⟨a, b⟩ := hH
    rw [b_X2_heaviestOn_8, if_pos (show c < 20 by omega), (b_X2_heaviestOn_15 (h0 := by omega) (h1 := by omega)), h.2.2.2 c h0 (by omega), K_isUp h hi]
    simp only [Option.bind_some, Option.toList_some, Option.toList_none, List.cons_append, List.nil_append, List.append_nil]
    rw [b_X2_heaviestOn_30]
    have keep : (∀ t, isT R t → pl R t = c → cnd R p t → 0 ≤ f ∧ wt R t ≤ wt R f) → HvQ R p (fun u => pl R u < c + 1) f := by
      intro z
      refine ⟨fun u u1 u2 u3 => ?_, ?_⟩
      · by_cases e : pl R u = c
        · obtain ⟨y1, y2⟩ := z u u1 e u3
          refine ⟨y1, ?_⟩
          rcases b with b | b
          · omega
          · have : pl R f < c := b.2.2
            omega
        · exact a u u1 (show pl R u < c by have : pl R u < c + 1 := u2; omega) u3
      · rcases b with b | b
        · exact Or.inl b
        · exact Or.inr ⟨b.1, b.2.1, show pl R f < c + 1 by have : pl R f < c := b.2.2; omega⟩
    have no : ¬ (isT R (whoF R c) ∧ cnd R p (whoF R c)) → HvQ R p (fun u => pl R u < c + 1) f := by
      intro z
      refine keep (fun t t1 t2 t3 => ?_)
      have e := who_un hI t1 t2
      rw [e] at z
      exact absurd ⟨t1, t3⟩ z
    have go66 : HvQ R p (fun u => pl R u < c + 1) f → ∃ g, Rx k_X2_heaviestOn 66 [.inr (.inl (7, q)), .inl p, .inl f, .inl m, .inl c, .inl (whoF R c)] [] σ = some (some (.inl g), σ) ∧ HvQ R p (fun u => pl R u < 20) g := by
      intro z
      obtain ⟨g, g1, g2⟩ := ih (c + 1) f m (.inl (whoF R c)) (by omega) (by omega) z hm
      refine ⟨g, ?_, g2⟩
      rw [(b_X2_heaviestOn_66 (g0a := by omega) (g0b := by omega))]
      exact g1
    by_cases h2 : isT R (whoF R c) ∧ uq R (whoF R c) = 1
    · obtain ⟨a1, a2, a3⟩ := h.2.2.1 (whoF R c) h2.1.1 (by have := h2.1.2; omega)
      have hs := (who_spec (R := R) hb.2.2.1 c).resolve_left (by have := h2.1.1; omega)
      rw [if_pos h2, if_neg (by decide), (b_X2_heaviestOn_33 (h0 := by omega) (h1 := by omega)), a3]
      by_cases h3 : on R (whoF R c) = p
      · rw [if_pos h3, (b_X2_heaviestOn_44 (h0 := by omega) (h1 := by omega)), a1]
        by_cases h4 : m < wt R (whoF R c)
        · rw [if_pos h4, (b_X2_heaviestOn_55 (h0 := by omega) (h1 := by omega) (g0a := by omega) (g0b := by omega)), a1]
          refine ih (c + 1) (whoF R c) (wt R (whoF R c)) _ (by omega) (by omega) ?_ ?_
          · refine ⟨fun u u1 u2 u3 => ⟨h2.1.1, ?_⟩, Or.inr ⟨h2.1, ⟨h2.2, h3⟩, show pl R (whoF R c) < c + 1 by omega⟩⟩
            by_cases e : pl R u = c
            · rw [who_un hI u1 e]; exact Or.inr ⟨rfl, Int.le_refl _⟩
            · have k := a u u1 (show pl R u < c by have : pl R u < c + 1 := u2; omega) u3
              rw [if_neg (show ¬ f < 0 by omega)] at hm
              omega
          · rw [if_neg (show ¬ whoF R c < 0 by omega)]
        · rw [if_neg h4]
          refine go66 (keep (fun t t1 t2 t3 => ?_))
          have e := who_un hI t1 t2
          rw [e] at h4
          have := (hI.2.2.1 t t1.1 (by have := t1.2; omega)).1
          split at hm
          · omega
          · omega
      · rw [if_neg h3]
        exact go66 (no (fun z => h3 z.2.2))
    · rw [if_neg h2, if_pos rfl]
      exact go66 (no (fun z => h2 ⟨z.1, z.2.1⟩))
theorem K_heaviestOn {σ : St} {q : Nat} {R : Rw} {L : Int → Int} (h : RKp σ q R L (upF R : Nat)) (hI : Iv R) (p : Int) (u2 u3 u4 u5 : AV) : Rx k_X2_heaviestOn 0 [.inr (.inl (7, q)), .inl p, u2, u3, u4, u5] [] σ = some (some (.inl (heavF R p)), σ) := by
  obtain ⟨g, g1, g2⟩ := L_heavOn h hI p 20 0 (-9) 0 u5 (Int.le_refl 0) (by omega) ⟨fun u u1 u2 _ => by
    have h3 : pl R u < 0 := u2
    have := (hI.2.2.1 u u1.1 (by have := u1.2; omega)).2.2.1
    omega, Or.inl rfl⟩ (by rw [if_pos (by decide)])
  have e : heavF R p = g := HvQ.un hI (fun u z => show u < R 1 by have := z.2; omega) (fun u z => show pl R u < 20 by have := (hI.2.2.1 u z.1 (by have := z.2; omega)).2.2.2.1; omega) (heavF_ok hI.1 p) g2
  rw [b_X2_heaviestOn_0, g1, e]
theorem heavF_c {R : Rw} (hb : Iv0 R) (p : Int) : heavF R p = -9 ∨ (isT R (heavF R p) ∧ uq R (heavF R p) = 1) := by
  rcases (heavF_ok hb p).2 with k | k
  · exact Or.inl k
  · exact Or.inr ⟨k.1, k.2.1.1⟩
