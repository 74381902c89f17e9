/-! pushes and gaps of a rack -/
theorem tp_up {R : Rw} {t : Int} (h : isT R t) (hu : uq R t = 1) : tpN R t = (fellF R t).2 ∧ tpF R t = (fellF R t).1 := ⟨if_pos ⟨h, hu⟩, if_pos ⟨h, hu⟩⟩
theorem K_felledN {σ : St} {q : Nat} {R : Rw} {L : Int → Int} (h : RKp σ q R L (upF R : Nat)) (hI : Iv R) (t : Int) : (Rx k_X2_felledBy 0 [.inr (.inl (7, q)), .inl t, .inl 0, uns, uns, uns, uns, uns] [] σ) = some (some (.inl (tpX R t : Nat)), σ) ∧ Rx k_J6_bitCount_0f7a4 0 [.inl (tpX R t : Nat)] [] σ = some (some (.inl (tpN R t)), σ) := by
  obtain ⟨d, i2, x1, x2, x3, x4⟩ := tp_ok hI t
  exact ⟨K_felled0 h hI t uns uns uns uns uns, by rw [K_bitCount _ x1, x4]⟩
theorem L_worstPush {σ : St} {q : Nat} {R : Rw} {L : Int → Int} (h : RKp σ q R L (upF R : Nat)) (hI : Iv R) : ∀ (n : Nat) (c f x : Int) (u4 u5 : AV), 0 ≤ c → c + n = 20 → 0 ≤ x → Rx k_X2_worstPush 7 [.inr (.inl (7, q)), .inl f, .inl x, .inl c, u4, u5] [] σ = some (some (.inl (worG R n c f x).1), σ) := by
  have hi := hI.1
  have hb := hI.1
  unfold Iv0 at hb
  intro n
  induction n with
  | zero =>
    intro c f x u4 u5 h0 h1 hx
    rw [b_X2_worstPush_7, if_neg (show ¬ c < 20 by omega), b_X2_worstPush_64]
    rfl
  | succ n ih =>
    intro c f x u4 u5 h0 h1 hx
    obtain ⟨k1, k2⟩ := K_felledN h hI (whoF R c)
    have hs := who_spec (R := R) hb.2.2.1 c
    rw [b_X2_worstPush_7, if_pos (show c < 20 by omega), (b_X2_worstPush_13 (h0 := by omega) (h1 := by omega)), h.2.2.2 c h0 (by omega), K_isUp h hi, worG_s]
    simp only [Option.bind_some, Option.toList_some, Option.toList_none, List.cons_append, List.nil_append, List.append_nil]
    rw [b_X2_worstPush_27]
    by_cases h2 : isT R (whoF R c) ∧ uq R (whoF R c) = 1
    · have e2 := (tp_up h2.1 h2.2).1
      rw [e2] at k2
      have hn := fellF_n R (whoF R c)
      rw [if_pos h2, if_neg (by decide), b_X2_worstPush_30, k1]
      simp only [Option.bind_some, Option.toList_some, Option.toList_none, List.cons_append, List.nil_append, List.append_nil]
      rw [b_X2_worstPush_37, k2]
      simp only [Option.bind_some, Option.toList_some, Option.toList_none, List.cons_append, List.nil_append, List.append_nil]
      rw [b_X2_worstPush_40]
      by_cases h3 : x < (fellF R (whoF R c)).2
      · rw [if_pos h3, (b_X2_worstPush_52 (g0a := by omega) (g0b := by omega)), ih (c + 1) _ _ _ _ (by omega) (by omega) (by omega), if_pos ⟨h2.1.1, h2.2, h3⟩]
      · rw [if_neg h3, (b_X2_worstPush_58 (g0a := by omega) (g0b := by omega)), ih (c + 1) _ _ _ _ (by omega) (by omega) hx, if_neg (fun z => h3 z.2.2)]
    · rw [if_neg h2, if_pos rfl, b_X2_worstPush_43, if_neg (show ¬ x < 0 by omega), (b_X2_worstPush_58 (g0a := by omega) (g0b := by omega)), ih (c + 1) _ _ _ _ (by omega) (by omega) hx, if_neg (fun z => h2 ⟨by have := z.1; omega, z.2.1⟩)]
theorem K_worstPush {σ : St} {q : Nat} {R : Rw} {L : Int → Int} (h : RKp σ q R L (upF R : Nat)) (hI : Iv R) (u1 u2 u3 u4 u5 : AV) : Rx k_X2_worstPush 0 [.inr (.inl (7, q)), u1, u2, u3, u4, u5] [] σ = some (some (.inl (worG R 20 0 (-9) 0).1), σ) := by
  rw [b_X2_worstPush_0]
  exact L_worstPush h hI 20 0 (-9) 0 _ _ (Int.le_refl 0) (by omega) (Int.le_refl 0)
theorem worG_ok {R : Rw} (h : Iv0 R) : ∀ (n : Nat) (c f x : Int), (f = -9 ∨ (isT R f ∧ uq R f = 1 ∧ x = (fellF R f).2)) → ((worG R n c f x).1 = -9 ∨ (isT R (worG R n c f x).1 ∧ uq R (worG R n c f x).1 = 1 ∧ (worG R n c f x).2 = (fellF R (worG R n c f x).1).2)) := by
  unfold Iv0 at h
  intro n
  induction n with
  | zero => intro c f x h; exact h
  | succ n ih =>
    intro c f x hf
    rw [worG_s]
    by_cases h2 : 0 ≤ whoF R c ∧ uq R (whoF R c) = 1 ∧ x < (fellF R (whoF R c)).2
    · have hs := who_spec (R := R) h.2.2.1 c
      rw [if_pos h2]
      exact ih _ _ _ (Or.inr ⟨by omega, h2.2.1, rfl⟩)
    · rw [if_neg h2]
      exact ih _ _ _ hf
/-- what falls by a push when another is taken away -/
theorem gapN_eq {R : Rw} (h : Iv R) {t u : Int} (ht : isT R t) (hu : isT R u) (hne : u ≠ t) : gapN R t u = (pc10 (fbF R t (upF R ^^^ (upF R &&& 2 ^ u.toNat))) : Nat) := by
  have hb := h.1
  unfold Iv0 at hb
  have hT := h.2.2.1 t ht.1 (by omega)
  unfold gapN
  generalize eS : wrt (wrt R (18 + 4 * u + 3).toNat 0) (18 + 4 * u + 1).toNat (-5) = S
  have s1 : S 1 = R 1 := by rw [← eS, wrt_ne (by omega), wrt_ne (by omega)]
  have sw : ∀ v, 0 ≤ v → wt S v = wt R v := fun v _ => by rw [← eS]; exact (wrt_ne (by omega)).trans (wrt_ne (by omega))
  have sp : ∀ v, 0 ≤ v → pl S v = if v = u then -5 else pl R v := fun v hv => by
    rw [← eS]
    by_cases e : v = u
    · rw [if_pos e]; exact wrt_eq (by rw [e])
    · rw [if_neg e]; exact (wrt_ne (by omega)).trans (wrt_ne (by omega))
  have sq : ∀ v, 0 ≤ v → uq S v = if v = u then 0 else uq R v := fun v hv => by
    rw [← eS]
    by_cases e : v = u
    · rw [if_pos e]; exact (wrt_ne (by omega)).trans (wrt_eq (by rw [e]))
    · rw [if_neg e]; exact (wrt_ne (by omega)).trans (wrt_ne (by omega))
  have hS1 : Iv1 S := by rw [← eS]; exact (Iv1_up h.to1 hu.1 (Or.inl rfl)).plw hu.1 (by omega)
  have swho : ∀ d, 0 ≤ d → whoF S d = if whoF R d = u then -9 else whoF R d := by
    intro d hd
    rcases who_spec (R := S) (by omega) d with k | k
    · rw [k]
      by_cases e : whoF R d = u
      · rw [if_pos e]
      · rw [if_neg e]
        rcases who_spec (R := R) hb.2.2.1 d with m | m
        · exact m.symm
        · have := who_none (R := S) (by omega) (c := d) (by omega) (whoF R d) m.1 (by omega)
          rw [sp _ m.1, if_neg e] at this
          exact absurd m.2.2 this
    · have k3 := k.2.2
      rw [sp _ k.1] at k3
      by_cases e : whoF S d = u
      · rw [if_pos e] at k3; omega
      · rw [if_neg e] at k3
        have := who_un h (t := whoF S d) (c := d) ⟨k.1, by omega⟩ k3
        rw [this, if_neg e]
  have hbit : ∀ v : Nat, (upF R ^^^ (upF R &&& 2 ^ u.toNat)).testBit v = true ↔ ((upF R).testBit v = true ∧ (v : Int) ≠ u) := by
    intro v
    rw [Nat.testBit_xor, Nat.testBit_and, Nat.testBit_two_pow]
    by_cases e : (v : Int) = u
    · rw [decide_eq_true (show u.toNat = v by omega), Bool.and_true, Bool.xor_self]
      exact ⟨fun z => absurd z (by decide), fun z => absurd e z.2⟩
    · rw [decide_eq_false (show ¬ u.toNat = v by omega), Bool.and_false, Bool.xor_false]
      exact ⟨fun z => ⟨z, e⟩, fun z => z.1⟩
  have hM : Mt R (upF R ^^^ (upF R &&& 2 ^ u.toNat)) S (pl R t) := by
    intro d d0 d1
    have hw := swho d (by omega)
    refine ⟨fun z => ?_, fun z => ?_⟩
    · have z2 := (hbit _).1 z.2
      have ev : (((whoF R d).toNat : Nat) : Int) = whoF R d := by omega
      rw [ev] at z2
      have z3 := upF_b2.1 z2.1
      rw [ev] at z3
      rw [hw, if_neg z2.2, sq _ z.1, if_neg z2.2, sw _ z.1]
      exact ⟨rfl, z3.2, rfl⟩
    · rw [hw]
      by_cases e : whoF R d = u
      · rw [if_pos e]; exact Or.inl (by decide)
      · rw [if_neg e]
        by_cases y : whoF R d < 0
        · exact Or.inl y
        · right
          have m := (who_spec (R := R) hb.2.2.1 d).resolve_left (by omega)
          have ev : (((whoF R d).toNat : Nat) : Int) = whoF R d := by omega
          rw [sq _ m.1, if_neg e]
          intro v
          refine z ⟨m.1, (hbit _).2 ⟨upF_b2.2 ⟨by rw [ev]; exact m.2.1, by rw [ev]; exact v⟩, by rw [ev]; exact e⟩⟩
  have hwt : whoF S (pl R t) = t := by
    rw [swho _ hT.2.2.1, who_un h ht rfl, if_neg (fun z => hne z.symm)]
  have key := Mt.fell h.1 (20 - pl R t).toNat S (pl R t) (wt R t) 0 hS1 s1 hM hT.2.2.1 (by omega) 26 (by omega)
  rw [hwt, Int.zero_add] at key
  unfold fellF
  rw [sw t ht.1, key.2]
  have ext : ∀ (n m : Nat) (c w : Int) (X : Nat), c + n = 20 → 0 ≤ c → fbG R X (n + m) c w = fbG R X n c w := by
    intro n
    induction n with
    | zero =>
      intro m c w X a b2
      cases m with
      | zero => rfl
      | succ m =>
        rw [Nat.zero_add, fbG_s, if_pos]
        · rfl
        · rcases who_spec (R := R) hb.2.2.1 c with z | z
          · omega
          · have := (h.2.2.1 _ z.1 z.2.1).2.2.2.1
            omega
    | succ n ih =>
      intro m c w X a b2
      rw [Nat.succ_add, fbG_s, fbG_s, ih m (c + 1) _ _ (by omega) (by omega)]
  have z := ext (20 - pl R t).toNat (20 - (20 - pl R t).toNat) (pl R t) (wt R t) (upF R ^^^ (upF R &&& 2 ^ u.toNat)) (by omega) hT.2.2.1
  rw [show (20 - pl R t).toNat + (20 - (20 - pl R t).toNat) = 20 by omega] at z
  unfold fbF
  rw [z]
theorem L_gapBehind {σ : St} {q : Nat} {R : Rw} {L : Int → Int} (h : RKp σ q R L (upF R : Nat)) (hI : Iv R) {t : Int} (ht : isT R t) : ∀ (n : Nat) (u x f : Int) (u5 : AV), 0 ≤ u → u + n = R 1 → Rx k_X2_gapBehind 18 [.inr (.inl (7, q)), .inl t, .inl f, .inl x, .inl u, u5] [] σ = some (some (.inl (gapG R t n u x f)), σ) := by
  have hi := hI.1
  have hb := hI.1
  unfold Iv0 at hb
  intro n
  induction n with
  | zero =>
    intro u x f u5 h0 h1
    rw [b_X2_gapBehind_18, h.1.2.1, if_neg (show ¬ u < R 1 by omega), b_X2_gapBehind_81]
    rfl
  | succ n ih =>
    intro u x f u5 h0 h1
    have hu : isT R u := ⟨h0, by omega⟩
    rw [b_X2_gapBehind_18, h.1.2.1, if_pos (show u < R 1 by omega), b_X2_gapBehind_27, if_pos (show u < 10 by omega), b_X2_gapBehind_34, gapG_s]
    by_cases e1 : u = t
    · rw [if_pos e1, (b_X2_gapBehind_75 (g0a := by omega) (g0b := by omega)), ih (u + 1) _ _ _ (by omega) (by omega), if_neg (fun z => z.1 e1)]
    · rw [if_neg e1, b_X2_gapBehind_40, K_isUp h hi]
      simp only [Option.bind_some, Option.toList_some, Option.toList_none, List.cons_append, List.nil_append, List.append_nil]
      rw [b_X2_gapBehind_46]
      by_cases e2 : uq R u = 1
      · have es := shl1 (k := u.toNat) (by omega)
        rw [show ((u.toNat : Nat) : Int) = u by omega] at es
        rw [if_pos (show isT R u ∧ uq R u = 1 from ⟨hu, e2⟩), if_neg (by decide), b_X2_gapBehind_49, es, K_felledBy h hI ht]
        simp only [Option.bind_some, Option.toList_some, Option.toList_none, List.cons_append, List.nil_append, List.append_nil]
        rw [b_X2_gapBehind_58, K_bitCount (fbF R t (upF R ^^^ (upF R &&& 2 ^ u.toNat))) (fbG_lt hi _ _ _), ← gapN_eq hI ht hu e1]
        simp only [Option.bind_some, Option.toList_some, Option.toList_none, List.cons_append, List.nil_append, List.append_nil]
        rw [b_X2_gapBehind_61]
        by_cases e3 : gapN R t u < x
        · rw [if_pos e3, (b_X2_gapBehind_69 (g0a := by omega) (g0b := by omega)), ih (u + 1) _ _ _ (by omega) (by omega), if_pos ⟨e1, e2, e3⟩]
        · rw [if_neg e3, (b_X2_gapBehind_75 (g0a := by omega) (g0b := by omega)), ih (u + 1) _ _ _ (by omega) (by omega), if_neg (fun z => e3 z.2.2)]
      · rw [if_neg (show ¬ (isT R u ∧ uq R u = 1) from fun z => e2 z.2), if_pos rfl, (b_X2_gapBehind_75 (g0a := by omega) (g0b := by omega)), ih (u + 1) _ _ _ (by omega) (by omega), if_neg (fun z => e2 z.2.1)]
theorem K_gapBehind {σ : St} {q : Nat} {R : Rw} {L : Int → Int} (h : RKp σ q R L (upF R : Nat)) (hI : Iv R) {t : Int} (ht : isT R t) (hu : uq R t = 1) (u2 u3 u4 u5 : AV) : Rx k_X2_gapBehind 0 [.inr (.inl (7, q)), .inl t, u2, u3, u4, u5] [] σ = some (some (.inl (gapA R t)), σ) := by
  have hb := hI.1
  unfold Iv0 at hb
  obtain ⟨k1, k2⟩ := K_felledN h hI t
  rw [(tp_up ht hu).1] at k2
  have hn := fellF_n R t
  rw [b_X2_gapBehind_0, k1]
  simp only [Option.bind_some, Option.toList_some, Option.toList_none, List.cons_append, List.nil_append, List.append_nil]
  rw [b_X2_gapBehind_9, k2]
  simp only [Option.bind_some, Option.toList_some, Option.toList_none, List.cons_append, List.nil_append, List.append_nil]
  rw [(b_X2_gapBehind_12 (g0a := by omega) (g0b := by omega))]
  exact L_gapBehind h hI ht (R 1).toNat 0 _ _ _ (Int.le_refl 0) (by omega)
/-! the longest -/
def bfG (R : Rw) : Nat → Int → Int
  | 0, _ => 0
  | n + 1, c => if 0 ≤ whoF R c ∧ uq R (whoF R c) = 1 then 1 + bfG R n (c + 1) else 0
theorem bfG_s (R : Rw) (n : Nat) (c : Int) : bfG R (n + 1) c = if 0 ≤ whoF R c ∧ uq R (whoF R c) = 1 then 1 + bfG R n (c + 1) else 0 := rfl
theorem bfG_bd (R : Rw) : ∀ (n : Nat) (c : Int), 0 ≤ bfG R n c ∧ bfG R n c ≤ n := by
  intro n
  induction n with
  | zero => intro c; exact ⟨Int.le_refl 0, Int.le_refl 0⟩
  | succ n ih =>
    intro c
    have := ih (c + 1)
    rw [bfG_s]
    split <;> omega
theorem L_besideFrom {σ : St} {q : Nat} {R : Rw} {L : Int → Int} (h : RKp σ q R L (upF R : Nat)) (hI : Iv R) (x1 : Int) : ∀ (n : Nat) (c a : Int), 0 ≤ c → c + n = 20 → 0 ≤ a → a + n ≤ 1000 → Rx k_X2_besideFrom 4 [.inr (.inl (7, q)), .inl x1, .inl a, .inl c] [] σ = some (some (.inl (a + bfG R n c)), σ) := by
  have hi := hI.1
  have hb := hI.1
  unfold Iv0 at hb
  intro n
  induction n with
  | zero =>
    intro c a h0 h1 h2 h3
    rw [b_X2_besideFrom_4, if_neg (show ¬ c < 0 by omega), b_X2_besideFrom_8, if_neg (show ¬ c < 20 by omega), b_X2_besideFrom_36, show bfG R 0 c = 0 from rfl, Int.add_zero]
  | succ n ih =>
    intro c a h0 h1 h2 h3
    have hs := who_spec (R := R) hb.2.2.1 c
    rw [b_X2_besideFrom_4, if_neg (show ¬ c < 0 by omega), b_X2_besideFrom_8, if_pos (show c < 20 by omega), (b_X2_besideFrom_14 (h0 := by omega) (h1 := by omega)), h.2.2.2 c h0 (by omega), K_isUp h hi, bfG_s]
    simp only [Option.bind_some, Option.toList_some, Option.toList_none, List.cons_append, List.nil_append, List.append_nil]
    rw [b_X2_besideFrom_24]
    by_cases e : 0 ≤ whoF R c ∧ uq R (whoF R c) = 1
    · rw [if_pos (show isT R (whoF R c) ∧ uq R (whoF R c) = 1 from ⟨by omega, e.2⟩), if_neg (by decide), if_pos e, (b_X2_besideFrom_27 (g0a := by omega) (g0b := by omega) (g1a := by omega) (g1b := by omega)), show a + (1 + bfG R n (c + 1)) = a + 1 + bfG R n (c + 1) by omega]
      exact ih (c + 1) (a + 1) (by omega) (by omega) (by omega) (by omega)
    · rw [if_neg (show ¬ (isT R (whoF R c) ∧ uq R (whoF R c) = 1) from fun z => e ⟨z.1.1, z.2⟩), if_pos rfl, if_neg e, b_X2_besideFrom_36, Int.add_zero]
theorem K_besideFrom {σ : St} {q : Nat} {R : Rw} {L : Int → Int} (h : RKp σ q R L (upF R : Nat)) (hI : Iv R) (n : Nat) (c : Int) (h0 : 0 ≤ c) (h1 : c + n = 20) (u2 u3 : AV) : Rx k_X2_besideFrom 0 [.inr (.inl (7, q)), .inl c, u2, u3] [] σ = some (some (.inl (bfG R n c)), σ) := by
  have k := L_besideFrom h hI c n c 0 h0 h1 (Int.le_refl 0) (by omega)
  rw [b_X2_besideFrom_0, k, Int.zero_add]
/-- the class's way to the longest, from a place on -/
def lfG (R : Rw) : Nat → Int → Int → Int → Int × Int
  | 0, _, f, m => (f, m)
  | n + 1, c, f, m => if m < bfG R (n + 1) c then lfG R n (c + 1) c (bfG R (n + 1) c) else lfG R n (c + 1) f m
theorem lfG_s (R : Rw) (n : Nat) (c f m : Int) : lfG R (n + 1) c f m = if m < bfG R (n + 1) c then lfG R n (c + 1) c (bfG R (n + 1) c) else lfG R n (c + 1) f m := rfl
theorem lf_lon (R : Rw) : ∀ (n : Nat) (c s b r : Int), 0 ≤ r → r ≤ b → lfG R n c (if 0 < r ∧ b < r + bfG R n c then c - r else s) (if 0 < r ∧ b < r + bfG R n c then r + bfG R n c else b) = lonG R n c s b r := by
  intro n
  induction n with
  | zero =>
    intro c s b r h0 h1
    have e : bfG R 0 c = 0 := rfl
    rw [e, if_neg (by omega), if_neg (by omega)]
    rfl
  | succ n ih =>
    intro c s b r h0 h1
    have hbd := bfG_bd R n (c + 1)
    by_cases hu : 0 ≤ whoF R c ∧ uq R (whoF R c) = 1
    · have eb : bfG R (n + 1) c = 1 + bfG R n (c + 1) := by rw [bfG_s, if_pos hu]
      rw [lonG_s R n c s b r (r + 1) (by rw [if_pos hu]), lfG_s, eb]
      by_cases hr : 0 < r
      · by_cases h2 : b < r + (1 + bfG R n (c + 1))
        · rw [if_pos (show 0 < r ∧ b < r + (1 + bfG R n (c + 1)) from ⟨hr, h2⟩), if_pos (show 0 < r ∧ b < r + (1 + bfG R n (c + 1)) from ⟨hr, h2⟩), if_neg (show ¬ r + (1 + bfG R n (c + 1)) < 1 + bfG R n (c + 1) by omega)]
          by_cases h3 : b < r + 1
          · rw [if_pos h3, ← ih (c + 1) (c - (r + 1) + 1) (r + 1) (r + 1) (by omega) (by omega)]
            by_cases h4 : r + 1 < r + 1 + bfG R n (c + 1)
            · rw [if_pos (show 0 < r + 1 ∧ r + 1 < r + 1 + bfG R n (c + 1) from ⟨by omega, h4⟩), if_pos (show 0 < r + 1 ∧ r + 1 < r + 1 + bfG R n (c + 1) from ⟨by omega, h4⟩), show c + 1 - (r + 1) = c - r by omega, show r + 1 + bfG R n (c + 1) = r + (1 + bfG R n (c + 1)) by omega]
            · rw [if_neg (show ¬ (0 < r + 1 ∧ r + 1 < r + 1 + bfG R n (c + 1)) from fun z => h4 z.2), if_neg (show ¬ (0 < r + 1 ∧ r + 1 < r + 1 + bfG R n (c + 1)) from fun z => h4 z.2), show c - (r + 1) + 1 = c - r by omega, show r + (1 + bfG R n (c + 1)) = r + 1 by omega]
          · rw [if_neg h3, ← ih (c + 1) s b (r + 1) (by omega) (by omega), if_pos (show 0 < r + 1 ∧ b < r + 1 + bfG R n (c + 1) by omega), if_pos (show 0 < r + 1 ∧ b < r + 1 + bfG R n (c + 1) by omega), show c + 1 - (r + 1) = c - r by omega, show r + 1 + bfG R n (c + 1) = r + (1 + bfG R n (c + 1)) by omega]
        · rw [if_neg (show ¬ (0 < r ∧ b < r + (1 + bfG R n (c + 1))) from fun z => h2 z.2), if_neg (show ¬ (0 < r ∧ b < r + (1 + bfG R n (c + 1))) from fun z => h2 z.2), if_neg (show ¬ b < 1 + bfG R n (c + 1) by omega), if_neg (show ¬ b < r + 1 by omega), ← ih (c + 1) s b (r + 1) (by omega) (by omega), if_neg (show ¬ (0 < r + 1 ∧ b < r + 1 + bfG R n (c + 1)) by omega), if_neg (show ¬ (0 < r + 1 ∧ b < r + 1 + bfG R n (c + 1)) by omega)]
      · have e0 : r = 0 := by omega
        subst e0
        rw [if_neg (show ¬ ((0 : Int) < 0 ∧ b < 0 + (1 + bfG R n (c + 1))) by omega), if_neg (show ¬ ((0 : Int) < 0 ∧ b < 0 + (1 + bfG R n (c + 1))) by omega)]
        by_cases h2 : b < 1 + bfG R n (c + 1)
        · rw [if_pos h2]
          by_cases h3 : b < 0 + 1
          · rw [if_pos h3, ← ih (c + 1) (c - (0 + 1) + 1) (0 + 1) (0 + 1) (by omega) (by omega)]
            by_cases h4 : 0 + 1 < 0 + 1 + bfG R n (c + 1)
            · rw [if_pos (show (0 : Int) < 0 + 1 ∧ 0 + 1 < 0 + 1 + bfG R n (c + 1) by omega), if_pos (show (0 : Int) < 0 + 1 ∧ 0 + 1 < 0 + 1 + bfG R n (c + 1) by omega), show c + 1 - (0 + 1) = c by omega, show 0 + 1 + bfG R n (c + 1) = 1 + bfG R n (c + 1) by omega]
            · rw [if_neg (show ¬ ((0 : Int) < 0 + 1 ∧ 0 + 1 < 0 + 1 + bfG R n (c + 1)) by omega), if_neg (show ¬ ((0 : Int) < 0 + 1 ∧ 0 + 1 < 0 + 1 + bfG R n (c + 1)) by omega), show c - (0 + 1) + 1 = c by omega, show 1 + bfG R n (c + 1) = 0 + 1 by omega]
          · rw [if_neg h3, ← ih (c + 1) s b (0 + 1) (by omega) (by omega), if_pos (show (0 : Int) < 0 + 1 ∧ b < 0 + 1 + bfG R n (c + 1) by omega), if_pos (show (0 : Int) < 0 + 1 ∧ b < 0 + 1 + bfG R n (c + 1) by omega), show c + 1 - (0 + 1) = c by omega, show 0 + 1 + bfG R n (c + 1) = 1 + bfG R n (c + 1) by omega]
        · rw [if_neg h2, if_neg (show ¬ b < 0 + 1 by omega), ← ih (c + 1) s b (0 + 1) (by omega) (by omega), if_neg (show ¬ ((0 : Int) < 0 + 1 ∧ b < 0 + 1 + bfG R n (c + 1)) by omega), if_neg (show ¬ ((0 : Int) < 0 + 1 ∧ b < 0 + 1 + bfG R n (c + 1)) by omega)]
    · have eb : bfG R (n + 1) c = 0 := by rw [bfG_s, if_neg hu]
      rw [lonG_s R n c s b r 0 (by rw [if_neg hu]), lfG_s, eb, if_neg (show ¬ (0 < r ∧ b < r + 0) by omega), if_neg (show ¬ (0 < r ∧ b < r + 0) by omega), if_neg (show ¬ b < 0 by omega), ← ih (c + 1) s b 0 (by omega) (by omega), if_neg (show ¬ ((0 : Int) < 0 ∧ b < 0 + bfG R n (c + 1)) by omega), if_neg (show ¬ ((0 : Int) < 0 ∧ b < 0 + bfG R n (c + 1)) by omega), if_neg (show ¬ b < 0 by omega)]
theorem lf_lon0 (R : Rw) : lfG R 20 0 (-9) 0 = lonG R 20 0 (-9) 0 0 := by
  have k := lf_lon R 20 0 (-9) 0 0 (Int.le_refl 0) (Int.le_refl 0)
  rw [if_neg (by omega), if_neg (by omega)] at k
  exact k
theorem lfG_ok (R : Rw) : ∀ (n : Nat) (c f m : Int), 0 ≤ c → c + n = 20 → ((f = -9 ∧ m = 0) ∨ (0 ≤ f ∧ f < 20 ∧ m = bfG R (20 - f).toNat f)) → (((lfG R n c f m).1 = -9 ∧ (lfG R n c f m).2 = 0) ∨ (0 ≤ (lfG R n c f m).1 ∧ (lfG R n c f m).1 < 20 ∧ (lfG R n c f m).2 = bfG R (20 - (lfG R n c f m).1).toNat (lfG R n c f m).1)) := by
  intro n
  induction n with
  | zero => intro c f m _ _ h; exact h
  | succ n ih =>
    intro c f m h0 h1 h
    rw [lfG_s]
    by_cases e : m < bfG R (n + 1) c
    · rw [if_pos e]
      exact ih _ _ _ (by omega) (by omega) (Or.inr ⟨h0, by omega, by rw [show (20 - c).toNat = n + 1 by omega]⟩)
    · rw [if_neg e]
      exact ih _ _ _ (by omega) (by omega) h
theorem L_longestFrom {σ : St} {q : Nat} {R : Rw} {L : Int → Int} (h : RKp σ q R L (upF R : Nat)) (hI : Iv R) : ∀ (n : Nat) (c f m : Int) (u4 : AV), 0 ≤ c → c + n = 20 → Rx k_X2_longestFrom 7 [.inr (.inl (7, q)), .inl f, .inl m, .inl c, u4] [] σ = some (some (.inl (lfG R n c f m).1), σ) := by
  intro n
  induction n with
  | zero =>
    intro c f m u4 h0 h1
    rw [b_X2_longestFrom_7, if_neg (show ¬ c < 20 by omega), b_X2_longestFrom_37]
    rfl
  | succ n ih =>
    intro c f m u4 h0 h1
    rw [b_X2_longestFrom_7, if_pos (show c < 20 by omega), b_X2_longestFrom_13, K_besideFrom h hI (n + 1) c h0 (by omega), lfG_s]
    simp only [Option.bind_some, Option.toList_some, Option.toList_none, List.cons_append, List.nil_append, List.append_nil]
    rw [b_X2_longestFrom_18]
    by_cases e : m < bfG R (n + 1) c
    · rw [if_pos e, (b_X2_longestFrom_26 (g0a := by omega) (g0b := by omega)), ih (c + 1) _ _ _ (by omega) (by omega), if_pos e]
    · rw [if_neg e, (b_X2_longestFrom_31 (g0a := by omega) (g0b := by omega)), ih (c + 1) _ _ _ (by omega) (by omega), if_neg e]
theorem K_longestFrom {σ : St} {q : Nat} {R : Rw} {L : Int → Int} (h : RKp σ q R L (upF R : Nat)) (hI : Iv R) (u1 u2 u3 u4 : AV) : Rx k_X2_longestFrom 0 [.inr (.inl (7, q)), u1, u2, u3, u4] [] σ = some (some (.inl (lonG R 20 0 (-9) 0 0).1), σ) := by
  rw [b_X2_longestFrom_0, ← lf_lon0]
  exact L_longestFrom h hI 20 0 (-9) 0 _ (Int.le_refl 0) (by omega)
