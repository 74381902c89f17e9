/-! falls of a rack -/
/-- the things that a fall fells from a place on, of those in the bits x, none heavier than w -/
def fbG (R : Rw) (x : Nat) : Nat → Int → Int → Nat
  | 0, _, _ => 0
  | n + 1, c, w => if whoF R c < 0 then 0 else if x.testBit (whoF R c).toNat = true then (if w < wt R (whoF R c) then 0 else 2 ^ (whoF R c).toNat ||| fbG R x n (c + 1) (wt R (whoF R c))) else 0
theorem fbG_s (R : Rw) (x n : Nat) (c w : Int) : fbG R x (n + 1) c w = if whoF R c < 0 then 0 else if x.testBit (whoF R c).toNat = true then (if w < wt R (whoF R c) then 0 else 2 ^ (whoF R c).toNat ||| fbG R x n (c + 1) (wt R (whoF R c))) else 0 := rfl
def fbF (R : Rw) (t : Int) (x : Nat) : Nat := fbG R x 20 (pl R t) (wt R t)
theorem fbG_bit {R : Rw} {x : Nat} (h0 : 0 ≤ R 1) : ∀ (n : Nat) (c w : Int) (u : Nat), (fbG R x n c w).testBit u = true → (u : Int) < R 1 ∧ x.testBit u = true ∧ c ≤ pl R u := by
  intro n
  induction n with
  | zero => intro c w u h; rw [show fbG R x 0 c w = 0 from rfl, Nat.zero_testBit] at h; cases h
  | succ n ih =>
    intro c w u h
    rw [fbG_s] at h
    rcases who_spec (R := R) h0 c with k | k
    · rw [if_pos (by omega), Nat.zero_testBit] at h; cases h
    · rw [if_neg (show ¬ whoF R c < 0 by omega)] at h
      by_cases h1 : x.testBit (whoF R c).toNat = true
      · rw [if_pos h1] at h
        by_cases h2 : w < wt R (whoF R c)
        · rw [if_pos h2, Nat.zero_testBit] at h; cases h
        · rw [if_neg h2, Nat.testBit_or, Bool.or_eq_true, Nat.testBit_two_pow, decide_eq_true_eq] at h
          rcases h with h | h
          · subst h
            have e : (((whoF R c).toNat : Nat) : Int) = whoF R c := by omega
            refine ⟨by omega, h1, ?_⟩
            rw [e, k.2.2]
            exact Int.le_refl c
          · obtain ⟨i1, i2, i3⟩ := ih _ _ u h
            exact ⟨i1, i2, by omega⟩
      · rw [if_neg h1, Nat.zero_testBit] at h; cases h
theorem fbG_lt {R : Rw} {x : Nat} (h : Iv0 R) (n : Nat) (c w : Int) : fbG R x n c w < 1024 := by
  unfold Iv0 at h
  have k : fbG R x n c w < 2 ^ 10 := by
    refine Nat.lt_pow_two_of_testBit _ (fun i hi => ?_)
    cases e : (fbG R x n c w).testBit i
    · rfl
    · have := (fbG_bit h.2.2.1 n c w i e).1
      omega
  exact k
/-- the row S stands to R as what is there (x) from the place c on -/
def Mt (R : Rw) (x : Nat) (S : Rw) (c : Int) : Prop := ∀ d, c ≤ d → d < 20 → (0 ≤ whoF R d ∧ x.testBit (whoF R d).toNat = true → whoF S d = whoF R d ∧ uq S (whoF R d) = 1 ∧ wt S (whoF R d) = wt R (whoF R d)) ∧ (¬ (0 ≤ whoF R d ∧ x.testBit (whoF R d).toNat = true) → whoF S d < 0 ∨ uq S (whoF S d) ≠ 1)
theorem pcG_or {a k : Nat} (h : a.testBit k = false) : ∀ n, pcG (2 ^ k ||| a) n = pcG a n + if k < n then 1 else 0 := by
  intro n
  induction n with
  | zero => rw [if_neg (Nat.not_lt_zero k)]; rfl
  | succ n ih =>
    rw [pcG_s, pcG_s, ih, Nat.testBit_or, Nat.testBit_two_pow]
    by_cases e : k = n
    · subst e
      rw [h, if_neg (Nat.lt_irrefl k), if_pos (Nat.lt_succ_self k), decide_eq_true rfl, Bool.true_or, if_pos rfl, if_neg (by decide)]
    · rw [decide_eq_false e, Bool.false_or]
      by_cases e2 : k < n
      · rw [if_pos e2, if_pos (show k < n + 1 by omega)]; omega
      · rw [if_neg e2, if_neg (show ¬ k < n + 1 by omega)]; omega
theorem Mt.fell {R : Rw} {x : Nat} (h0 : Iv0 R) : ∀ (k : Nat) (S : Rw) (c w n : Int), Iv1 S → S 1 = R 1 → Mt R x S c → 0 ≤ c → c + k = 20 → ∀ j : Nat, k ≤ j →
    (∀ u : Int, 0 ≤ u → uq (fellM j S (whoF S c) w n).1 u = if (fbG R x k c w).testBit u.toNat = true then 0 else uq S u) ∧ (fellM j S (whoF S c) w n).2 = n + (pc10 (fbG R x k c w) : Nat) := by
  unfold Iv0 at h0
  intro k
  induction k with
  | zero =>
    intro S c w n h1 h2 hM hc hk j hj
    have hw : whoF S c < 0 := by
      rcases who_spec (R := S) (by omega) c with z | z
      · omega
      · have := (h1.2 _ z.1 z.2.1).2.2.2.1
        omega
    have e : fellM j S (whoF S c) w n = (S, n) := by
      cases j with
      | zero => rfl
      | succ j => unfold fellM; rw [if_pos hw]
    rw [e]
    refine ⟨fun u _ => ?_, ?_⟩
    · rw [show fbG R x 0 c w = 0 from rfl, Nat.zero_testBit, if_neg (by decide)]
    · rw [show fbG R x 0 c w = 0 from rfl]; exact (Int.add_zero n).symm
  | succ k ih =>
    intro S c w n h1 h2 hM hc hk j hj
    obtain ⟨j, rfl⟩ : ∃ i, j = i + 1 := ⟨j - 1, by omega⟩
    obtain ⟨m1, m2⟩ := hM c (Int.le_refl c) (by omega)
    have none : fbG R x (k + 1) c w = 0 → fellM (j + 1) S (whoF S c) w n = (S, n) → (∀ u : Int, 0 ≤ u → uq (fellM (j + 1) S (whoF S c) w n).1 u = if (fbG R x (k + 1) c w).testBit u.toNat = true then 0 else uq S u) ∧ (fellM (j + 1) S (whoF S c) w n).2 = n + (pc10 (fbG R x (k + 1) c w) : Nat) := by
      intro a b
      rw [a, b]
      refine ⟨fun u _ => ?_, (Int.add_zero n).symm⟩
      rw [Nat.zero_testBit, if_neg (by decide)]
    by_cases hx : 0 ≤ whoF R c ∧ x.testBit (whoF R c).toNat = true
    · obtain ⟨a1, a2, a3⟩ := m1 hx
      by_cases hw : w < wt R (whoF R c)
      · refine none ?_ ?_
        · rw [fbG_s, if_neg (show ¬ whoF R c < 0 by omega), if_pos hx.2, if_pos hw]
        · unfold fellM
          rw [a1, if_neg (show ¬ whoF R c < 0 by omega), if_pos a2, if_pos (by rw [a3]; exact hw)]
      · have hs := who_spec (R := S) (by omega) c
        rw [a1] at hs
        have hs := hs.resolve_left (by omega)
        have hr := (who_spec (R := R) h0.2.2.1 c).resolve_left (by omega)
        obtain ⟨e0, e1, e2⟩ := up_0 (R := S) (v := 0) hx.1
        have hS' := Iv1_up h1 (t := whoF R c) (v := 0) hx.1 (Or.inl rfl)
        have hM' : Mt R x (wrt S (18 + 4 * whoF R c + 3).toNat 0) (c + 1) := by
          intro d d0 d1
          obtain ⟨b1, b2⟩ := hM d (by omega) d1
          have ew : whoF (wrt S (18 + 4 * whoF R c + 3).toNat 0) d = whoF S d := who_cg (by omega) e1 (fun u a _ => (up_wt hx.1 a).2.1) d
          refine ⟨fun z => ?_, fun z => ?_⟩
          · obtain ⟨c1, c2, c3⟩ := b1 z
            have hne : whoF R d ≠ whoF R c := fun y => by
              have k1 := (who_spec (R := R) h0.2.2.1 d).resolve_left (by omega)
              rw [y] at k1
              omega
            rw [ew, up_uq hx.1 z.1, if_neg hne, (up_wt hx.1 z.1).1]
            exact ⟨c1, c2, c3⟩
          · rw [ew]
            rcases b2 z with y | y
            · exact Or.inl y
            · by_cases v : whoF S d < 0
              · exact Or.inl v
              · right
                rw [up_uq hx.1 (by omega)]
                split
                · decide
                · exact y
        obtain ⟨i1, i2⟩ := ih (wrt S (18 + 4 * whoF R c + 3).toNat 0) (c + 1) (wt R (whoF R c)) (n + 1) hS' (e1.trans h2) hM' (by omega) (by omega) j (by omega)
        have hbit : (fbG R x k (c + 1) (wt R (whoF R c))).testBit (whoF R c).toNat = false := by
          cases e : (fbG R x k (c + 1) (wt R (whoF R c))).testBit (whoF R c).toNat
          · rfl
          · have := (fbG_bit h0.2.2.1 _ _ _ _ e).2.2
            rw [show (((whoF R c).toNat : Nat) : Int) = whoF R c by omega, hr.2.2] at this
            omega
        have ef : fellM (j + 1) S (whoF S c) w n = fellM j (wrt S (18 + 4 * whoF R c + 3).toNat 0) (whoF (wrt S (18 + 4 * whoF R c + 3).toNat 0) (c + 1)) (wt R (whoF R c)) (n + 1) := by
          conv => lhs; unfold fellM
          rw [a1, if_neg (show ¬ whoF R c < 0 by omega), if_pos a2, a3, if_neg hw, hs.2.2]
        have eg : fbG R x (k + 1) c w = 2 ^ (whoF R c).toNat ||| fbG R x k (c + 1) (wt R (whoF R c)) := by
          rw [fbG_s, if_neg (show ¬ whoF R c < 0 by omega), if_pos hx.2, if_neg hw]
        rw [ef, eg]
        refine ⟨fun u hu => ?_, ?_⟩
        · rw [i1 u hu, up_uq hx.1 hu, Nat.testBit_or, Nat.testBit_two_pow]
          by_cases e : u = whoF R c
          · rw [if_pos e, e, decide_eq_true rfl, Bool.true_or, if_pos rfl]
            split <;> rfl
          · rw [if_neg e, decide_eq_false (show ¬ (whoF R c).toNat = u.toNat by omega), Bool.false_or]
        · rw [i2]
          unfold pc10
          rw [pcG_or hbit, if_pos (show (whoF R c).toNat < 10 by omega), Int.natCast_add]
          show n + 1 + _ = n + (_ + 1)
          omega
    · refine none ?_ ?_
      · rw [fbG_s]
        by_cases z : whoF R c < 0
        · rw [if_pos z]
        · rw [if_neg z, if_neg (fun y => hx ⟨by omega, y⟩)]
      · unfold fellM
        rcases m2 hx with y | y
        · rw [if_pos y]
        · by_cases v : whoF S c < 0
          · rw [if_pos v]
          · rw [if_neg v, if_neg y]
/-- what is up stands to its own row as itself -/
theorem Mt.up {R : Rw} (h : Iv R) (c : Int) : Mt R (upF R) R c := by
  have hb := h.1
  unfold Iv0 at hb
  intro d d0 d1
  refine ⟨fun z => ?_, fun z => ?_⟩
  · have k := upF_b2.1 z.2
    rw [show (((whoF R d).toNat : Nat) : Int) = whoF R d by omega] at k
    exact ⟨rfl, k.2, rfl⟩
  · by_cases y : whoF R d < 0
    · exact Or.inl y
    · right
      intro v
      have s := (who_spec (R := R) hb.2.2.1 d).resolve_left (by omega)
      refine z ⟨by omega, upF_b2.2 ⟨?_, ?_⟩⟩
      · omega
      · rw [show (((whoF R d).toNat : Nat) : Int) = whoF R d by omega]; exact v
/-- a fall, told by bits -/
theorem fb_fell {R : Rw} (h : Iv R) {t : Int} (ht : isT R t) : (∀ u : Int, 0 ≤ u → uq (fellF R t).1 u = if (fbF R t (upF R)).testBit u.toNat = true then 0 else uq R u) ∧ (fellF R t).2 = (pc10 (fbF R t (upF R)) : Nat) := by
  have hb := h.1
  unfold Iv0 at hb
  have hT := h.2.2.1 t ht.1 (by omega)
  have hw : whoF R (pl R t) = t := who_un h ht rfl
  have key : ∀ k : Nat, ∀ c : Int, pl R t = c → c + k = 20 → ∀ j : Nat, k ≤ j → fbG R (upF R) 20 c (wt R t) = fbG R (upF R) k c (wt R t) → (∀ u : Int, 0 ≤ u → uq (fellM j R t (wt R t) 0).1 u = if (fbG R (upF R) 20 c (wt R t)).testBit u.toNat = true then 0 else uq R u) ∧ (fellM j R t (wt R t) 0).2 = (pc10 (fbG R (upF R) 20 c (wt R t)) : Nat) := by
    intro k c e1 e2 j e3 e4
    have z := Mt.fell h.1 k R c (wt R t) 0 h.to1 rfl (Mt.up h c) (by omega) e2 j e3
    rw [← e1, hw, e1, Int.zero_add] at z
    rw [e4]
    exact z
  unfold fellF fbF
  refine key (20 - pl R t).toNat (pl R t) rfl (by omega) 26 (by omega) ?_
  have ext : ∀ (n m : Nat) (c w : Int), c + n = 20 → 0 ≤ c → fbG R (upF R) (n + m) c w = fbG R (upF R) n c w := by
    intro n
    induction n with
    | zero =>
      intro m c w a b
      cases m with
      | zero => rfl
      | succ m =>
        rw [Nat.zero_add, fbG_s, if_pos]
        · rfl
        · rcases who_spec (R := R) hb.2.2.1 c with z | z
          · omega
          · have := (h.2.2.1 _ z.1 z.2.1).2.2.2.1
            omega
    | succ n ih =>
      intro m c w a b
      rw [Nat.succ_add, fbG_s, fbG_s, ih m (c + 1) _ (by omega) (by omega)]
  have z := ext (20 - pl R t).toNat (20 - (20 - pl R t).toNat) (pl R t) (wt R t) (by omega) (by omega)
  rw [show (20 - pl R t).toNat + (20 - (20 - pl R t).toNat) = 20 by omega] at z
  exact z
