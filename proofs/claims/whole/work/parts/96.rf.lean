/-! a rack's falls -/
theorem L_felledBy {σ : St} {q : Nat} {R : Rw} {L : Int → Int} {U : Int} (h : RKp σ q R L U) (hI : Iv R) (X : Nat) (hX : X < 2147483648) (x1 x2 : Int) : ∀ (n f : Nat) (c w : Int) (u : AV), 0 ≤ c → c + n = 20 → f < 1024 → Rx k_X2_felledBy 48 [.inr (.inl (7, q)), .inl x1, .inl x2, .inl (X : Int), .inl (f : Int), .inl w, .inl c, u] [] σ = some (some (.inl ((f ||| fbG R X n c w : Nat) : Int)), σ) := by
  have hb := hI.1
  unfold Iv0 at hb
  intro n
  induction n with
  | zero =>
    intro f c w u h0 h1 hf
    rw [b_X2_felledBy_48, if_neg (show ¬ c < 0 by omega), b_X2_felledBy_53, if_neg (show ¬ c < 20 by omega), b_X2_felledBy_129, show fbG R X 0 c w = 0 from rfl, Nat.or_zero]
  | succ n ih =>
    intro f c w u h0 h1 hf
    rw [b_X2_felledBy_48, if_neg (show ¬ c < 0 by omega), b_X2_felledBy_53, if_pos (show c < 20 by omega), (b_X2_felledBy_60 (h0 := by omega) (h1 := by omega)), h.2.2.2 c h0 (by omega), fbG_s]
    rcases who_spec (R := R) hb.2.2.1 c with k | k
    · have k2 : whoF R c < 0 := by omega
      rw [if_pos k2, b_X2_felledBy_129, if_pos k2, Nat.or_zero]
    · have k2 : ¬ whoF R c < 0 := by omega
      have e : (((whoF R c).toNat : Nat) : Int) = whoF R c := by omega
      have hbit := bitU (x := X) (k := (whoF R c).toNat) hX (by omega)
      rw [e] at hbit
      rw [if_neg k2, b_X2_felledBy_74, if_pos (show whoF R c < 10 by omega), b_X2_felledBy_81, hbit, if_neg k2]
      by_cases hx : X.testBit (whoF R c).toNat = true
      · obtain ⟨a1, a2, a3⟩ := h.2.2.1 (whoF R c) k.1 k.2.1
        rw [if_pos hx, if_neg (by decide), if_pos hx, (b_X2_felledBy_90 (h0 := by omega) (h1 := by omega)), a1]
        by_cases hw : w < wt R (whoF R c)
        · rw [if_pos hw, b_X2_felledBy_102, if_pos hw, Nat.or_zero]
        · have es := shl1 (k := (whoF R c).toNat) (by omega)
          rw [e] at es
          have hp2 : 2 ^ (whoF R c).toNat < 2 ^ 10 := Nat.pow_lt_pow_right (by decide) (by omega)
          have hor : f ||| 2 ^ (whoF R c).toNat < 2 ^ 10 := Nat.or_lt_two_pow (by omega) hp2
          rw [if_neg hw, if_neg hw, (b_X2_felledBy_105 (h0 := by omega) (h1 := by omega) (g0a := by omega) (g0b := by omega)), a1, es, bOr_nat (by omega) (by omega), ih (f ||| 2 ^ (whoF R c).toNat) (c + 1) _ _ (by omega) (by omega) (by omega), Nat.or_assoc]
      · rw [if_neg hx, if_pos rfl, if_neg hx, b_X2_felledBy_129, Nat.or_zero]
theorem and_not0 (a : Nat) : a ^^^ (a &&& 0) = a := by rw [Nat.and_zero, Nat.xor_zero]
theorem xor_lt {a b : Nat} (h : a < 1024) : a ^^^ (a &&& b) < 1024 := by
  have k : a ^^^ (a &&& b) < 2 ^ 10 := Nat.xor_lt_two_pow h (Nat.lt_of_le_of_lt Nat.and_le_left h)
  exact k
theorem K_felledBy {σ : St} {q : Nat} {R : Rw} {L : Int → Int} (h : RKp σ q R L (upF R : Nat)) (hI : Iv R) {t : Int} (ht : isT R t) (b : Nat) (u3 u4 u5 u6 u7 : AV) : Rx k_X2_felledBy 0 [.inr (.inl (7, q)), .inl t, .inl (b : Int), u3, u4, u5, u6, u7] [] σ = some (some (.inl (fbF R t (upF R ^^^ (upF R &&& b)) : Nat)), σ) := by
  have hb := hI.1
  have hi := hI.1
  unfold Iv0 at hb
  have hT := hI.2.2.1 t ht.1 (by omega)
  have hlt := upF_lt10 hi
  have hx := xor_lt (b := b) hlt
  obtain ⟨a1, a2, a3⟩ := h.2.2.1 t ht.1 (by omega)
  rw [b_X2_felledBy_0, if_neg (show ¬ t < 0 by omega), b_X2_felledBy_4, h.1.2.1, if_pos (show t < R 1 by omega), b_X2_felledBy_12, if_pos (show t < 10 by omega), (b_X2_felledBy_20 (h0 := by omega) (h1 := by omega)), a1, a2, h.1.2.2.2, bAndNot_nat (by omega)]
  have ext : ∀ (n m : Nat) (c w : Int), c + n = 20 → 0 ≤ c → fbG R (upF R ^^^ (upF R &&& b)) (n + m) c w = fbG R (upF R ^^^ (upF R &&& b)) n c w := by
    intro n
    induction n with
    | zero =>
      intro m c w a b2
      cases m with
      | zero => rfl
      | succ m =>
        rw [Nat.zero_add, fbG_s, if_pos]
        · rfl
        · rcases who_spec (R := R) hb.2.2.1 c with z | z
          · omega
          · have := (hI.2.2.1 _ z.1 z.2.1).2.2.2.1
            omega
    | succ n ih =>
      intro m c w a b2
      rw [Nat.succ_add, fbG_s, fbG_s, ih m (c + 1) _ (by omega) (by omega)]
  have z := ext (20 - pl R t).toNat (20 - (20 - pl R t).toNat) (pl R t) (wt R t) (by omega) (by omega)
  rw [show (20 - pl R t).toNat + (20 - (20 - pl R t).toNat) = 20 by omega] at z
  unfold fbF
  rw [z]
  have k := L_felledBy h hI (upF R ^^^ (upF R &&& b)) (by omega) t (b : Int) (20 - pl R t).toNat 0 (pl R t) (wt R t) u7 (by omega) (by omega) (by omega)
  rw [Nat.zero_or] at k
  exact k
theorem K_felledNo {σ : St} {q : Nat} {R : Rw} {L : Int → Int} {U : Int} (h : RKp σ q R L U) (hI : Iv R) {t : Int} (ht : ¬ isT R t) (b : Int) (u3 u4 u5 u6 u7 : AV) : Rx k_X2_felledBy 0 [.inr (.inl (7, q)), .inl t, .inl b, u3, u4, u5, u6, u7] [] σ = some (some (.inl 0), σ) := by
  have hb := hI.1
  unfold Iv0 at hb
  rw [b_X2_felledBy_0]
  by_cases h1 : t < 0
  · rw [if_pos h1, b_X2_felledBy_18]
  · rw [if_neg h1, b_X2_felledBy_4, h.1.2.1, if_neg (show ¬ t < R 1 by omega), b_X2_felledBy_18]
theorem fbF_no {R : Rw} (h : Iv R) {t : Int} (ht : isT R t) (x : Nat) (hx : x.testBit t.toNat = false) : fbF R t x = 0 := by
  unfold fbF
  have k := who_un h ht rfl
  rw [fbG_s, k, if_neg (show ¬ t < 0 by omega), hx, if_neg (by decide)]
/-- the row behind a fall, if there is one -/
def tpF (R : Rw) (t : Int) : Rw := if isT R t ∧ uq R t = 1 then (fellF R t).1 else R
def tpN (R : Rw) (t : Int) : Int := if isT R t ∧ uq R t = 1 then (fellF R t).2 else 0
def tpX (R : Rw) (t : Int) : Nat := if isT R t then fbF R t (upF R) else 0
theorem tp_ok {R : Rw} (h : Iv R) (t : Int) : Dn R (tpF R t) ∧ Iv (tpF R t) ∧ tpX R t < 1024 ∧ (∀ u : Nat, (tpX R t).testBit u = true → (u : Int) < R 1 ∧ (upF R).testBit u = true) ∧ (∀ u : Int, 0 ≤ u → uq (tpF R t) u = if (tpX R t).testBit u.toNat = true then 0 else uq R u) ∧ tpN R t = (pc10 (tpX R t) : Nat) := by
  have hb := h.1
  unfold Iv0 at hb
  by_cases h1 : isT R t
  · have hf := fb_fell h h1
    have eX : tpX R t = fbF R t (upF R) := if_pos h1
    by_cases h2 : uq R t = 1
    · have hd := fellF_dn h.to1 h1.1 (show t < R 1 by omega)
      have eF : tpF R t = (fellF R t).1 := if_pos ⟨h1, h2⟩
      have eN : tpN R t = (fellF R t).2 := if_pos ⟨h1, h2⟩
      rw [eF, eN, eX]
      refine ⟨hd, h.dn hd, fbG_lt h.1 _ _ _, fun u hu => ?_, hf.1, hf.2⟩
      have k := fbG_bit hb.2.2.1 _ _ _ u hu
      exact ⟨k.1, k.2.1⟩
    · have e : fbF R t (upF R) = 0 := fbF_no h h1 _ (by rw [upF_bit h1]; exact decide_eq_false h2)
      have eF : tpF R t = R := if_neg (fun z => h2 z.2)
      have eN : tpN R t = 0 := if_neg (fun z => h2 z.2)
      rw [eF, eN, eX, e]
      refine ⟨Dn.rf R, h, by decide, fun u hu => ?_, fun u _ => ?_, rfl⟩
      · rw [Nat.zero_testBit] at hu; cases hu
      · rw [Nat.zero_testBit, if_neg (by decide)]
  · have eX : tpX R t = 0 := if_neg h1
    have eF : tpF R t = R := if_neg (fun z => h1 z.1)
    have eN : tpN R t = 0 := if_neg (fun z => h1 z.1)
    rw [eF, eN, eX]
    refine ⟨Dn.rf R, h, by decide, fun u hu => ?_, fun u _ => ?_, rfl⟩
    · rw [Nat.zero_testBit] at hu; cases hu
    · rw [Nat.zero_testBit, if_neg (by decide)]
theorem K_felled0 {σ : St} {q : Nat} {R : Rw} {L : Int → Int} (h : RKp σ q R L (upF R : Nat)) (hI : Iv R) (t : Int) (u3 u4 u5 u6 u7 : AV) : Rx k_X2_felledBy 0 [.inr (.inl (7, q)), .inl t, .inl 0, u3, u4, u5, u6, u7] [] σ = some (some (.inl (tpX R t : Nat)), σ) := by
  unfold tpX
  by_cases ht : isT R t
  · have k := K_felledBy h hI ht 0 u3 u4 u5 u6 u7
    rw [and_not0] at k
    rw [if_pos ht]
    exact k
  · rw [if_neg ht]
    exact K_felledNo h hI ht 0 u3 u4 u5 u6 u7
theorem K_has {x : Nat} (hx : x < 2147483648) (t : Int) (h1 : t < 32) (σ : St) : Rx k_X4_has 0 [.inl (x : Int), .inl t] [] σ = some (some (.inl (if 0 ≤ t ∧ x.testBit t.toNat = true then 1 else 0)), σ) := by
  rw [b_X4_has_0]
  by_cases h2 : t < 0
  · rw [if_pos h2, b_X4_has_23, if_neg (fun z => by have := z.1; omega)]
  · have hbit := bitU (x := x) (k := t.toNat) hx (by omega)
    rw [show ((t.toNat : Nat) : Int) = t by omega] at hbit
    rw [if_neg h2, b_X4_has_4, if_pos h1, b_X4_has_10, hbit]
    by_cases h3 : x.testBit t.toNat = true
    · rw [if_pos h3, if_pos rfl, b_X4_has_19, if_pos ⟨by omega, h3⟩]
    · rw [if_neg h3, if_neg (by decide), b_X4_has_23, if_neg (fun z => h3 z.2)]
/-- the weight on a purpose of those in the bits f, of the things below n -/
def dlG (R : Rw) (f : Nat) (p : Int) : Nat → Int
  | 0 => 0
  | n + 1 => dlG R f p n + (if f.testBit n = true then (if on R n = p then wt R n else 0) else 0)
theorem dlG_s (R : Rw) (f : Nat) (p : Int) (n : Nat) : dlG R f p (n + 1) = dlG R f p n + (if f.testBit n = true then (if on R n = p then wt R n else 0) else 0) := rfl
theorem dlG_bd {R : Rw} (h : Iv R) (f : Nat) (p : Int) : ∀ n : Nat, (n : Int) ≤ R 1 → 0 ≤ dlG R f p n ∧ dlG R f p n ≤ 9 * n := by
  intro n
  induction n with
  | zero => intro _; exact ⟨Int.le_refl 0, Int.le_refl 0⟩
  | succ n ih =>
    intro hn
    have h1 := ih (by omega)
    have h2 := h.2.2.1 n (by omega) (by omega)
    rw [dlG_s]
    split
    · split <;> omega
    · omega
theorem L_topple {q : Nat} {R : Rw} (hI : Iv R) (f : Nat) (hf : f < 1024) (x1 : Int) : ∀ (n m : Nat) (σ : St), (m : Int) + n = R 1 → RKp σ q R (fun p => loadF R p - dlG R f p m) (upF R : Nat) → ∃ σ', Rx k_X2_topple 9 [.inr (.inl (7, q)), .inl x1, .inl (f : Int), .inl (m : Int)] [] σ = Rx k_X2_topple 43 [.inr (.inl (7, q)), .inl x1, .inl (f : Int), .inl (R 1)] [] σ' ∧ FR q σ σ' ∧ RKp σ' q R (fun p => loadF R p - dlG R f p (m + n)) (upF R : Nat) := by
  have hb := hI.1
  unfold Iv0 at hb
  intro n
  induction n with
  | zero =>
    intro m σ h1 hK
    refine ⟨σ, ?_, FR.refl q σ, hK⟩
    rw [b_X2_topple_9, hK.1.2.1, if_neg (show ¬ (m : Int) < R 1 by omega), show (m : Int) = R 1 by omega]
  | succ n ih =>
    intro m σ h1 hK
    have e : m + (n + 1) = m + 1 + n := by omega
    have hm : isT R m := ⟨by omega, by omega⟩
    rw [b_X2_topple_9, hK.1.2.1, if_pos (show (m : Int) < R 1 by omega), b_X2_topple_17, if_pos (show (m : Int) < 10 by omega), b_X2_topple_23, K_has (by omega) m (by omega)]
    simp only [Option.bind_some, Option.toList_some, Option.toList_none, List.cons_append, List.nil_append, List.append_nil]
    rw [b_X2_topple_28, Int.toNat_natCast, e]
    by_cases h2 : f.testBit m = true
    · have l0 := loadF_bd hI.to1 (on R m)
      have d0 := dlG_bd hI f (on R m) m (by omega)
      obtain ⟨σ1, s1, f1, g1⟩ := K_weigh hK hI hm (Or.inr rfl) uns (by omega)
      obtain ⟨σ2, s2, f2, g2⟩ := ih (m + 1) σ1 (by omega) (g1.ld (fun p _ _ => by
        rw [dlG_s, if_pos h2]
        by_cases c : on R m = p
        · rw [if_pos c, if_pos c]; omega
        · rw [if_neg c, if_neg c]; omega))
      refine ⟨σ2, ?_, f1.trans f2, g2⟩
      rw [if_pos (show 0 ≤ (m : Int) ∧ f.testBit m = true from ⟨by omega, h2⟩), if_neg (by decide), b_X2_topple_31, s1]
      simp only [Option.bind_some, Option.toList_some, Option.toList_none, List.cons_append, List.nil_append, List.append_nil]
      rw [(b_X2_topple_37 (g0a := by omega) (g0b := by omega))]
      exact s2
    · obtain ⟨σ2, s2, f2, g2⟩ := ih (m + 1) σ (by omega) (hK.ld (fun p _ _ => by
        rw [dlG_s, if_neg h2, Int.add_zero]))
      refine ⟨σ2, ?_, f2, g2⟩
      rw [if_neg (show ¬ (0 ≤ (m : Int) ∧ f.testBit m = true) from fun z => h2 z.2), if_pos rfl, (b_X2_topple_37 (g0a := by omega) (g0b := by omega))]
      exact s2
theorem loadG_dl {R R' : Rw} (f : Nat) (p : Int) (hon : ∀ u, 0 ≤ u → on R' u = on R u) (hwt : ∀ u, 0 ≤ u → wt R' u = wt R u) (huq : ∀ u : Int, 0 ≤ u → uq R' u = if f.testBit u.toNat = true then 0 else uq R u) : ∀ n : Nat, (∀ u : Nat, u < n → f.testBit u = true → uq R u = 1) → loadG R' p n = loadG R p n - dlG R f p n := by
  intro n
  induction n with
  | zero => intro _; rfl
  | succ n ih =>
    intro h
    rw [loadG_s, loadG_s, dlG_s, ih (fun u a b => h u (by omega) b), huq n (by omega), hon n (by omega), hwt n (by omega), Int.toNat_natCast]
    by_cases c : f.testBit n = true
    · rw [if_pos c, if_pos c, if_neg (fun z => absurd z.1 (by decide))]
      have := h n (by omega) c
      by_cases d : on R n = p
      · rw [if_pos ⟨this, d⟩, if_pos d]; omega
      · rw [if_neg (fun z => d z.2), if_neg d]; omega
    · rw [if_neg c, if_neg c]; omega
theorem K_topple {σ : St} {q : Nat} {R : Rw} (h : RK σ q R) (t : Int) (u2 u3 : AV) : ∃ σ', Rx k_X2_topple 0 [.inr (.inl (7, q)), .inl t, u2, u3] [] σ = some (some (.inl (tpN R t)), σ') ∧ FR q σ σ' ∧ RK σ' q (tpF R t) := by
  have hI := h.1
  have hi := hI.1
  have hb := hI.1
  unfold Iv0 at hb
  obtain ⟨d, i2, x1, x2, x3, x4⟩ := tp_ok hI t
  have hlt := upF_lt10 hi
  obtain ⟨σ1, s1, f1, g1⟩ := L_topple (q := q) hI (tpX R t) x1 t (R 1).toNat 0 σ (by omega) (h.2.ld (fun p _ _ => (Int.sub_zero _).symm))
  rw [Nat.zero_add] at g1
  have eU : upF (tpF R t) = upF R ^^^ (upF R &&& tpX R t) := by
    apply Nat.eq_of_testBit_eq
    intro i
    rw [Bool.eq_iff_iff, upF_b2, Nat.testBit_xor, Nat.testBit_and, d.2.1, x3 i (by omega), Int.toNat_natCast]
    have hu := upF_b2 (R := R) (n := i)
    cases e1 : (upF R).testBit i <;> cases e2 : (tpX R t).testBit i
    · rw [e1] at hu
      rw [if_neg (by decide)]
      exact ⟨fun z => absurd (hu.2 z) (by decide), fun z => absurd z (by decide)⟩
    · have := (x2 i e2).2
      rw [e1] at this
      cases this
    · rw [e1] at hu
      rw [if_neg (by decide)]
      exact ⟨fun _ => rfl, fun _ => hu.1 rfl⟩
    · rw [if_pos rfl]
      exact ⟨fun z => absurd z.2 (by decide), fun z => absurd z (by decide)⟩
  have eL : ∀ p, loadF (tpF R t) p = loadF R p - dlG R (tpX R t) p (R 1).toNat := by
    intro p
    unfold loadF
    rw [d.2.1]
    exact loadG_dl (tpX R t) p (fun u a => (d.2.2.2.2.1 u a).2.2) (fun u a => (d.2.2.2.2.1 u a).1) x3 _ (fun u _ c => (upF_b2.1 (x2 u c).2).2)
  refine ⟨up σ1 7 q 3 (upF (tpF R t) : Nat), ?_, f1.trans (FR.up q σ1 (by decide) (by decide) _ _), i2, ?_⟩
  · rw [b_X2_topple_0, K_felled0 h.2 hI]
    simp only [Option.bind_some, Option.toList_some, Option.toList_none, List.cons_append, List.nil_append, List.append_nil]
    rw [b_X2_topple_6]
    rw [show ((0 : Nat) : Int) = 0 from rfl] at s1
    rw [s1, b_X2_topple_43, g1.1.2.2.2, bAndNot_nat (by omega), ← eU, K_bitCount _ x1]
    simp only [Option.bind_some, Option.toList_some, Option.toList_none, List.cons_append, List.nil_append, List.append_nil]
    rw [b_X2_topple_59, x4]
  · obtain ⟨h1, h2, h3, h4⟩ := g1
    refine ⟨?_, fun x a b => ?_, fun x a b => ?_, fun x a b => ?_⟩
    · rw [upx_k (by decide), upx_k (by decide), upx_k (by decide), up_at, d.1, d.2.1, d.2.2.1]
      exact ⟨h1.1, h1.2.1, h1.2.2.1, rfl⟩
    · rw [d.1] at b
      obtain ⟨k1, k2, k3⟩ := d.2.2.2.1 x a (by omega)
      rw [up_t (s := 8) (by decide), up_t (s := 9) (by decide), up_t (s := 10) (by decide), up_t (s := 11) (by decide), k1, k2, k3, eL x]
      exact h2 x a b
    · rw [d.2.1] at b
      obtain ⟨k1, k2, k3⟩ := d.2.2.2.2.1 x a
      rw [up_t (s := 12) (by decide), up_t (s := 13) (by decide), up_t (s := 14) (by decide), k1, k2, k3]
      exact h3 x a b
    · rw [up_t (s := 15) (by decide), who_cg (by omega) d.2.1 (fun u a _ => (d.2.2.2.2.1 u a).2.1)]
      exact h4 x a b
