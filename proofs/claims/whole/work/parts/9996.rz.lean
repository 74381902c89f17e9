/-! a rack told: the class -/
/-- the statements from i on: -9 or the fault, and the row behind them -/
def rkG (W : Nat → Int) (M : Nat) : Nat → Nat → Rw → Int × Rw
  | 0, _, R => (-9, R)
  | n + 1, i, R => if M ≤ i then (-9, R) else if stO R W i = true then rkG W M n (stm W M i).1 (stR R W i) else (-2000 - (i : Int), R)
theorem rkG_s (W : Nat → Int) (M n i : Nat) (R : Rw) : rkG W M (n + 1) i R = if M ≤ i then (-9, R) else if stO R W i = true then rkG W M n (stm W M i).1 (stR R W i) else (-2000 - (i : Int), R) := rfl
/-- how many statements from i on -/
def pcN (W : Nat → Int) (M : Nat) : Nat → Nat → Int
  | 0, _ => 0
  | n + 1, i => if M ≤ i then 0 else 1 + pcN W M n (stm W M i).1
theorem pcN_s (W : Nat → Int) (M n i : Nat) : pcN W M (n + 1) i = if M ≤ i then 0 else 1 + pcN W M n (stm W M i).1 := rfl
theorem pcN_bd (W : Nat → Int) (M : Nat) : ∀ n i : Nat, 0 ≤ pcN W M n i ∧ pcN W M n i ≤ n := by
  intro n
  induction n with
  | zero => intro i; exact ⟨Int.le_refl 0, Int.le_refl 0⟩
  | succ n ih =>
    intro i
    have := ih (stm W M i).1
    rw [pcN_s]
    split <;> omega
/-- the answer, and the row behind it -/
def rackA (W : Nat → Int) (M : Nat) (R : Rw) : Int × Rw := if M = 0 then (-1000, R) else if pgF W M (M + 1) 0 = -9 then (if (rkG W M (M + 1) 0 R).1 = -9 then (pcN W M (M + 1) 0, (rkG W M (M + 1) 0 R).2) else ((rkG W M (M + 1) 0 R).1, R)) else (-1000 - pgF W M (M + 1) 0, R)
theorem pg_ok {W : Nat → Int} {M n i : Nat} (h : pgF W M (n + 1) i = -9) (hi : i < M) : (stm W M i).2 = true ∧ pgF W M n (stm W M i).1 = -9 := by
  rw [pgF_s, if_neg (by omega)] at h
  by_cases e : (stm W M i).2 = true
  · rw [if_pos e] at h
    exact ⟨e, h⟩
  · rw [if_neg e] at h
    omega
theorem st_ok {R : Rw} (h : Iv R) (hd : Dk R) {W : Nat → Int} {M i : Nat} (hs : (stm W M i).2 = true) (ho : stO R W i = true) : Iv (stR R W i) ∧ Dk (stR R W i) ∧ ∀ k : Nat, 58 ≤ k → stR R W i k = R k := by
  have hb := h.1
  unfold Iv0 at hb
  have hd1 := hd.1
  have hd2 := hd.2
  obtain ⟨hf, _⟩ := stm_b hs
  obtain ⟨bp, bt, bl, bu, bs, bd⟩ := st_bits hs
  unfold stO dnO at ho
  unfold stR dnR
  unfold nF0 nF1 nF2 at *
  rcases fm_c hf with e | e | e | e | e | e
  · obtain ⟨⟨p1, p2, p3⟩, d2, d3, d4⟩ := bp e
    have q2 := d2.2
    have q3 := d3.2
    have q4 := d4.2
    rw [e, if_pos rfl] at ho
    rw [e, if_pos rfl, if_pos rfl, if_pos (Or.inl rfl), if_pos rfl]
    have z := of_decide_eq_true ho
    obtain ⟨⟨e0, e1, e2⟩, e3, e4, e5⟩ := adP_all (R := R) (k := kbF (W (i + 1))) (f := dg W (i + 2)) (v := 10 * dg W (i + 3) + dg W (i + 4)) hb.1 (by omega)
    exact ⟨h.adP (by omega) ⟨p2, p3⟩ d2.2 ⟨by omega, by omega⟩, ⟨by rw [e2]; exact hd1, by rw [e2]; exact hd2⟩, e5⟩
  · obtain ⟨d1, d2, d3, d4⟩ := bt e
    have q1 := d1.2
    rw [e, if_neg (by decide), if_pos rfl, if_neg (by decide), if_neg (by decide), if_neg (by decide), if_neg (by decide)] at ho
    rw [e, if_neg (by decide), if_pos rfl, if_neg (by decide), if_neg (by decide), if_neg (by decide), if_neg (by decide)]
    have z := of_decide_eq_true ho
    have hI0 := h.adT0 (w := dg W (i + 1)) (c := 10 * dg W (i + 2) + dg W (i + 3)) (p := dg W (i + 4)) (by omega) ⟨by omega, by omega⟩ z.2.1 z.2.2.1 z.2.2.2.1
    obtain ⟨⟨e0, e1, e2⟩, e3, e4, e5⟩ := adT_all (R := R) (w := dg W (i + 1)) (c := 10 * dg W (i + 2) + dg W (i + 3)) (p := dg W (i + 4)) hb.2.2.1 (by omega)
    have g2 : adT R (dg W (i + 1)) (10 * dg W (i + 2) + dg W (i + 3)) (dg W (i + 4)) 2 = R 2 := (wrt_ne (by omega)).trans e2
    exact ⟨hI0.upw hb.2.2.1 (Or.inr rfl), ⟨by rw [g2]; exact hd1, by rw [g2]; exact hd2⟩, fun k hk => (wrt_ne (by omega)).trans (e5 k hk)⟩
  · obtain ⟨d1, d2⟩ := bl e
    rw [e, if_neg (by decide), if_neg (by decide), if_pos rfl, if_neg (by decide), if_neg (by decide), if_pos (Or.inr rfl)] at ho
    rw [e, if_neg (by decide), if_neg (by decide), if_pos rfl, if_neg (by decide), if_neg (by decide), if_pos (Or.inr rfl)]
    have z := of_decide_eq_true ho
    obtain ⟨a1, a2⟩ := z
    have g2 := (on_2 (R := R) (p := dg W (i + 2)) a1.1).2.2
    exact ⟨h.onw a1.1 ⟨a2.1, by have := a2.2; omega⟩, ⟨by rw [g2]; exact hd1, by rw [g2]; exact hd2⟩, fun k hk => wrt_ne (by have := a1.2; omega)⟩
  · have d1 := bu e
    rw [e, if_neg (by decide), if_neg (by decide), if_neg (by decide), if_pos rfl, if_neg (by decide), if_neg (by decide)] at ho
    rw [e, if_neg (by decide), if_neg (by decide), if_neg (by decide), if_pos rfl, if_neg (by decide), if_neg (by decide)]
    have a1 := of_decide_eq_true ho
    have g2 := (up_0 (R := R) (v := 1) a1.1).2.2
    exact ⟨h.upw a1.1 (Or.inr rfl), ⟨by rw [g2]; exact hd1, by rw [g2]; exact hd2⟩, fun k hk => wrt_ne (by have := a1.2; omega)⟩
  · obtain ⟨d1, d2, d3⟩ := bs e
    have q2 := d2.2
    have q3 := d3.2
    rw [e, if_neg (by decide), if_neg (by decide), if_neg (by decide), if_neg (by decide), if_pos rfl, if_neg (by decide), if_neg (by decide)] at ho
    rw [e, if_neg (by decide), if_neg (by decide), if_neg (by decide), if_neg (by decide), if_pos rfl, if_neg (by decide), if_neg (by decide), if_neg (by decide)]
    have a1 := of_decide_eq_true ho
    have a5 : dg W (i + 1) < 5 := by have := a1.2; omega
    have g2 := (sw_0 (R := R) (v := 10 * dg W (i + 2) + dg W (i + 3)) a1.1 a5).2.2
    exact ⟨h.sw a1.1 a5 ⟨by omega, by omega⟩, ⟨by rw [g2]; exact hd1, by rw [g2]; exact hd2⟩, fun k hk => wrt_ne (by omega)⟩
  · obtain ⟨d1, d2⟩ := bd e
    rw [e, if_neg (by decide), if_neg (by decide), if_neg (by decide), if_neg (by decide), if_neg (by decide), if_neg (by decide), if_pos rfl] at ho
    rw [e, if_neg (by decide), if_neg (by decide), if_neg (by decide), if_neg (by decide), if_neg (by decide), if_neg (by decide), if_pos rfl]
    have z := of_decide_eq_true ho
    obtain ⟨o1, o2, o3, o4, o5⟩ := daysF_ok (10 * dg W (i + 1) + dg W (i + 2)).toNat h
    exact ⟨o1, ⟨by rw [o4]; omega, by rw [o4]; omega⟩, o5⟩
theorem WS.refl (σ : St) : WS σ σ := fun _ _ _ => Or.inr (Or.inr rfl)
theorem WS.trans {a b c : St} (h : WS a b) (g : WS b c) : WS a c := by
  intro t r k
  rcases h t r k with x | x | x
  · exact Or.inl x
  · exact Or.inr (Or.inl x)
  · rcases g t r k with y | y | y
    · exact Or.inl y
    · exact Or.inr (Or.inl y)
    · exact Or.inr (Or.inr (y.trans x))
theorem L_hear {W : Nat → Int} {M : Nat} {S : Rw} : ∀ (n i k : Nat) (c : Int) (σ : St) (R : Rw), Tld σ W M → RK σ 0 S → RK σ 1 R → Dk R → pgF W M n i = -9 → i ≤ M → M < n + i → k ≤ i → 0 ≤ c → c ≤ 1000 * i → ∃ σ', Rx k_X1_hear 18 [.inr (.inl (1, 0)), .inr (.inl (3, 0)), .inl (i : Int), .inl c, .inl (k : Int)] [] σ = some (some (.inl (if (rkG W M n i R).1 = -9 then c + pcN W M n i else (rkG W M n i R).1)), σ') ∧ WS σ σ' ∧ RK σ' 0 (if (rkG W M n i R).1 = -9 then (rkG W M n i R).2 else S) := by
  intro n
  induction n with
  | zero => intro i k c σ R _ _ _ _ _ h1 h2; omega
  | succ n ih =>
    intro i k c σ R hT hS hK hd hp hi hn hk hc hc2
    have hM := hT.1
    rw [rkG_s, pcN_s]
    by_cases e : M ≤ i
    · have e2 : i = M := by omega
      obtain ⟨σ1, s1, f1, g1⟩ := K_become hK 0 (by decide)
      refine ⟨σ1, ?_, f1.ws, ?_⟩
      · rw [if_pos e, if_pos e, if_pos (show (-9 : Int) = -9 from rfl), b_X1_hear_18]
        have e74 : Rx k_X1_hear 74 [.inr (.inl (1, 0)), .inr (.inl (3, 0)), .inl (i : Int), .inl c, .inl (k : Int)] [] σ = some (some (.inl (c + 0)), σ1) := by
          rw [b_X1_hear_74, s1, Int.add_zero]
          simp only [Option.bind_some, Option.toList_some, Option.toList_none, List.cons_append, List.nil_append, List.append_nil]
          rw [b_X1_hear_85]
        have e25 : Rx k_X1_hear 25 [.inr (.inl (1, 0)), .inr (.inl (3, 0)), .inl (i : Int), .inl c, .inl (k : Int)] [] σ = some (some (.inl (c + 0)), σ1) := by
          rw [b_X1_hear_25, hT.2.1, if_neg (by omega), e74]
        rw [e25, e74]
        split <;> rfl
      · rw [if_pos e, if_pos (show (-9 : Int) = -9 from rfl)]
        exact g1
    · obtain ⟨p1, p2⟩ := pg_ok hp (by omega)
      obtain ⟨σ1, s1, f1, g1⟩ := K_tell hT hK hd p1
      obtain ⟨o1, o2, o3⟩ := stm_ok (W := W) hi
      obtain ⟨_, of, ol, og⟩ := o3 p1
      have l := slen_fm _ of
      have start : Rx k_X1_hear 18 [.inr (.inl (1, 0)), .inr (.inl (3, 0)), .inl (i : Int), .inl c, .inl (k : Int)] [] σ = if (if stO R W i = true then (1 : Int) else 0) = 0 then Rx k_X1_hear 45 [.inr (.inl (1, 0)), .inr (.inl (3, 0)), .inl (i : Int), .inl c, .inl (k : Int)] [] σ1 else Rx k_X1_hear 51 [.inr (.inl (1, 0)), .inr (.inl (3, 0)), .inl (i : Int), .inl c, .inl (k : Int)] [] σ1 := by
        rw [b_X1_hear_18, if_pos (by omega), b_X1_hear_25, hT.2.1, if_pos (by omega), b_X1_hear_33, s1]
        simp only [Option.bind_some, Option.toList_some, Option.toList_none, List.cons_append, List.nil_append, List.append_nil]
        rw [b_X1_hear_42]
      rw [if_neg e, if_neg e, start]
      by_cases z : stO R W i = true
      · have hT1 := hT.fr f1
        have so := st_ok hK.1 hd p1 z
        obtain ⟨σ2, s2, f2, g2⟩ := ih (stm W M i).1 (k + 1) (c + 1) σ1 (stR R W i) hT1 (hS.fr f1 (by decide)) (g1 z) so.2.1 p2 o1 (by omega) (by omega) (by omega) (by omega)
        rw [if_pos z, if_neg (by decide), if_pos z]
        refine ⟨σ2, ?_, f1.xs.ws.trans f2, g2⟩
        rw [show c + (1 + pcN W M n (stm W M i).1) = c + 1 + pcN W M n (stm W M i).1 by omega, ← s2, b_X1_hear_51, K_letterAt hT1 (i : Int) i rfl (by omega)]
        simp only [Option.bind_some, Option.toList_some, Option.toList_none, List.cons_append, List.nil_append, List.append_nil]
        rw [b_X1_hear_57, K_formOf]
        simp only [Option.bind_some, Option.toList_some, Option.toList_none, List.cons_append, List.nil_append, List.append_nil]
        rw [b_X1_hear_60, K_len _ (by omega)]
        simp only [Option.bind_some, Option.toList_some, Option.toList_none, List.cons_append, List.nil_append, List.append_nil]
        rw [(b_X1_hear_63 (g0a := by omega) (g0b := by omega) (g1a := by omega) (g1b := by omega) (g2a := by omega) (g2b := by omega)), ol, Int.natCast_add, Int.natCast_add]
        rfl
      · rw [if_neg z, if_pos (show (0 : Int) = 0 from rfl), if_neg z, if_neg (show ¬ (-2000 - (i : Int)) = -9 by omega)]
        refine ⟨σ1, ?_, f1.xs.ws, ?_⟩
        · rw [(b_X1_hear_45 (g0a := by omega) (g0b := by omega))]
        · rw [if_neg (show ¬ (-2000 - (i : Int)) = -9 by omega)]
          exact hS.fr f1 (by decide)
theorem N_rack {σ : St} {W : Nat → Int} {M : Nat} {R : Rw} (hT : Tld σ W M) (h : RK σ 0 R) (hd : Dk R) (u1 u2 : AV) : ∃ σ1, Rx k_X4_rack 0 [.inr (.inl (0, 0)), u1, u2] [] σ = some (some (.inl (rackA W M R).1), up σ1 3 0 1 0) ∧ WS σ σ1 ∧ RK σ1 0 (rackA W M R).2 := by
  have hM := hT.1
  unfold rackA
  have start : ∀ f : Int, f = (if M = 0 then 0 else pgF W M (M + 1) 0) → Rx k_X4_rack 0 [.inr (.inl (0, 0)), u1, u2] [] σ = if f = -9 then Rx k_X4_rack 14 [.inr (.inl (0, 0)), .inl f, u2] [] σ else Rx k_X4_rack 28 [.inr (.inl (0, 0)), .inl f, u2] [] σ := by
    intro f hf
    rw [b_X4_rack_0, K_firstWrong hT, ← hf]
    simp only [Option.bind_some, Option.toList_some, Option.toList_none, List.cons_append, List.nil_append, List.append_nil]
    rw [b_X4_rack_7]
  have pgb : ∀ n j : Nat, j ≤ M → -9 ≤ pgF W M n j ∧ pgF W M n j ≤ M := by
    intro n
    induction n with
    | zero => intro j _; exact ⟨Int.le_refl _, by show (-9 : Int) ≤ M; omega⟩
    | succ n ih =>
      intro j hj
      obtain ⟨o1, o2, o3⟩ := stm_ok (W := W) hj
      have := ih (stm W M j).1 o1
      rw [pgF_s]
      split
      · omega
      · split
        · exact this
        · omega
  by_cases e : M = 0
  · refine ⟨σ, ?_, WS.refl σ, by rw [if_pos e]; exact h⟩
    rw [if_pos e, start 0 (by rw [if_pos e]), if_neg (by decide), (b_X4_rack_28 (g0a := by omega) (g0b := by omega))]
    rfl
  · rw [if_neg e]
    have b := pgb (M + 1) 0 (Nat.zero_le M)
    by_cases z : pgF W M (M + 1) 0 = -9
    · obtain ⟨σ1, s1, f1, g1, g0⟩ := h.bc
      obtain ⟨σ2, s2, f2, g2⟩ := L_hear (S := R) (M + 1) 0 0 0 σ1 R (hT.fr f1) g0 g1 hd z (Nat.zero_le M) (by omega) (Nat.le_refl 0) (Int.le_refl 0) (by omega)
      rw [if_pos z]
      refine ⟨σ2, ?_, f1.xs.ws.trans f2, ?_⟩
      · rw [show ((0 : Nat) : Int) = 0 from rfl] at s2
        rw [start _ (by rw [if_neg e]), if_pos z, b_X4_rack_14, b_X1_hear_0, s1]
        simp only [Option.bind_some, Option.toList_some, Option.toList_none, List.cons_append, List.nil_append, List.append_nil]
        rw [b_X1_hear_11, s2]
        simp only [Option.bind_some, Option.toList_some, Option.toList_none, List.cons_append, List.nil_append, List.append_nil]
        rw [b_X4_rack_25]
        by_cases y : (rkG W M (M + 1) 0 R).1 = -9
        · rw [if_pos y, if_pos y, Int.zero_add]
        · rw [if_neg y, if_neg y]
      · by_cases y : (rkG W M (M + 1) 0 R).1 = -9
        · rw [if_pos y] at g2 ⊢
          exact g2
        · rw [if_neg y] at g2 ⊢
          exact g2
    · rw [if_neg z]
      refine ⟨σ, ?_, WS.refl σ, h⟩
      rw [start _ (by rw [if_neg e]), if_neg z, (b_X4_rack_28 (g0a := by omega) (g0b := by omega))]
