/-! a rack told: the reference -/
/-- only the row now and the scratch of the day may differ -/
def DS (σ σ' : St) : Prop := ∀ t r k, (t = 17 ∧ r = 0) ∨ t = 18 ∨ σ' t r k = σ t r k
theorem DS.refl (σ : St) : DS σ σ := fun _ _ _ => Or.inr (Or.inr rfl)
theorem DS.set (σ : St) (R : Rw) : DS σ (setR σ 0 R) := fun t r k => by
  by_cases h : t = 17 ∧ r = 0
  · exact Or.inl h
  · right; right
    unfold setR
    rw [if_neg h]
theorem DS.sR (σ : St) (R : Rw) (g : Nat → Int) : DS σ (sR σ 0 R g) := fun t r k => by
  by_cases h : t = 18
  · exact Or.inr (Or.inl h)
  · rcases DS.set σ R t r k with x | x | x
    · exact Or.inl x
    · exact Or.inr (Or.inl x)
    · right; right
      rw [← x]
      show set18 (setR σ 0 R) g t r k = setR σ 0 R t r k
      rw [s18_t _ _ h]
theorem u4 (σ : St) (a b c d : Nat) (x y z v : Int) : up (up (up (up σ 17 0 a x) 17 0 b y) 17 0 c z) 17 0 d v = setR σ 0 (wrt (wrt (wrt (wrt (σ 17 0) a x) b y) c z) d v) := by rw [up17 σ 0 a x, up17s, up17s, up17s]
theorem u5 (σ : St) (a b c d e : Nat) (x y z v w : Int) : up (up (up (up (up σ 17 0 a x) 17 0 b y) 17 0 c z) 17 0 d v) 17 0 e w = setR σ 0 (wrt (wrt (wrt (wrt (wrt (σ 17 0) a x) b y) c z) d v) e w) := by rw [u4 σ a b c d x y z v, up17s]
theorem R_addsPurpose {σ : St} (hb : Iv0 (σ 17 0)) (k f v : Int) (u : AV) : Rx k_X5_addsPurpose 0 [.inr (.inl (16, 0)), .inl k, .inl f, .inl v, u] [] σ = some (some (.inl (if σ 17 0 0 ≠ 5 then 1 else 0)), if σ 17 0 0 ≠ 5 then setR σ 0 (adP (σ 17 0) k f v) else σ) := by
  unfold Iv0 at hb
  rw [b_X5_addsPurpose_0]
  by_cases e : σ 17 0 0 = 5
  · rw [if_pos e, b_X5_addsPurpose_10, if_neg (fun z => z e), if_neg (fun z => z e)]
  · have n1 : ∀ (a b c : Nat) (x y z : Int), a ≠ 0 → b ≠ 0 → c ≠ 0 → up (up (up σ 17 0 a x) 17 0 b y) 17 0 c z 17 0 0 = σ 17 0 0 := fun a b c x y z h1 h2 h3 => by
      rw [upx_k (Ne.symm h3), upx_k (Ne.symm h2), upx_k (Ne.symm h1)]
    rw [if_neg e, b_X5_addsPurpose_12, C_ofP _ _ (by omega) (by omega)]
    simp only [Option.bind_some, Option.toList_some, Option.toList_none, List.cons_append, List.nil_append, List.append_nil]
    rw [b_X5_addsPurpose_21 (h0 := by omega) (h1 := by omega) (h2 := by omega) (h3 := by omega) (h4 := by omega) (h5 := by omega) (g0a := by omega) (g0b := by omega) (g1a := by omega) (g1b := by omega) (g2a := by omega) (g2b := by omega) (g3a := by rw [n1 _ _ _ _ _ _ (by omega) (by omega) (by omega)]; omega) (g3b := by rw [n1 _ _ _ _ _ _ (by omega) (by omega) (by omega)]; omega), n1 _ _ _ _ _ _ (by omega) (by omega) (by omega), if_pos e, if_pos e, u4]
    rfl
theorem adT_eq (R : Rw) (w c p : Int) (h0 : 0 ≤ R 1) : wrt (wrt (wrt (wrt (wrt R (18 + 4 * R 1 + 0).toNat w) (18 + 4 * R 1 + 1).toNat c) (18 + 4 * R 1 + 2).toNat p) (18 + 4 * R 1 + 3).toNat 1) 1 (R 1 + 1) = adT R w c p := by
  funext j
  unfold adT adT0
  by_cases e : j = (18 + 4 * R 1 + 3).toNat
  · rw [wrt_ne (by omega), wrt_eq e, wrt_eq e]
  · by_cases f : j = 1
    · rw [wrt_eq f, wrt_ne e, wrt_eq f]
    · rw [wrt_ne f, wrt_ne e, wrt_ne e, wrt_ne f, wrt_ne e]
theorem R_addsThing {σ : St} (hb : Iv0 (σ 17 0)) (w c p : Int) (u : AV) : Rx k_X5_addsThing 0 [.inr (.inl (16, 0)), .inl w, .inl c, .inl p, u] [] σ = some (some (.inl (if ¬ w < 1 ∧ (0 ≤ c ∧ c ≤ 19) ∧ whoF (σ 17 0) c < 0 ∧ isP (σ 17 0) p ∧ σ 17 0 1 ≠ 10 then 1 else 0)), if ¬ w < 1 ∧ (0 ≤ c ∧ c ≤ 19) ∧ whoF (σ 17 0) c < 0 ∧ isP (σ 17 0) p ∧ σ 17 0 1 ≠ 10 then setR σ 0 (adT (σ 17 0) w c p) else σ) := by
  have hp := C_isPurpose p σ hb
  unfold Iv0 at hb
  have e42 : Rx k_X5_addsThing 42 [.inr (.inl (16, 0)), .inl w, .inl c, .inl p, u] [] σ = some (some (.inl 0), σ) := by rw [b_X5_addsThing_42]
  by_cases z : ¬ w < 1 ∧ (0 ≤ c ∧ c ≤ 19) ∧ whoF (σ 17 0) c < 0 ∧ isP (σ 17 0) p ∧ σ 17 0 1 ≠ 10
  · obtain ⟨z1, z2, z3, z4, z5⟩ := z
    have n1 : ∀ (a b d e : Nat) (x y q r : Int), a ≠ 1 → b ≠ 1 → d ≠ 1 → e ≠ 1 → up (up (up (up σ 17 0 a x) 17 0 b y) 17 0 d q) 17 0 e r 17 0 1 = σ 17 0 1 := fun a b d e x y q r h1 h2 h3 h4 => by
      rw [upx_k (Ne.symm h4), upx_k (Ne.symm h3), upx_k (Ne.symm h2), upx_k (Ne.symm h1)]
    rw [if_pos ⟨z1, z2, z3, z4, z5⟩, if_pos ⟨z1, z2, z3, z4, z5⟩, b_X5_addsThing_0, if_neg z1, b_X5_addsThing_5, C_isPlace, if_pos z2]
    simp only [Option.bind_some, Option.toList_some, Option.toList_none, List.cons_append, List.nil_append, List.append_nil]
    rw [b_X5_addsThing_9, if_neg (by decide), b_X5_addsThing_12, C_whoAt _ _ _ hb.2.2.1 hb.2.2.2]
    simp only [Option.bind_some, Option.toList_some, Option.toList_none, List.cons_append, List.nil_append, List.append_nil]
    rw [b_X5_addsThing_20, if_pos z3, b_X5_addsThing_23, hp, if_pos z4]
    simp only [Option.bind_some, Option.toList_some, Option.toList_none, List.cons_append, List.nil_append, List.append_nil]
    rw [b_X5_addsThing_28, if_neg (by decide), b_X5_addsThing_31, if_neg z5, b_X5_addsThing_44, C_ofT _ _ (by omega) (by omega)]
    simp only [Option.bind_some, Option.toList_some, Option.toList_none, List.cons_append, List.nil_append, List.append_nil]
    rw [b_X5_addsThing_53 (h0 := by omega) (h1 := by omega) (h2 := by omega) (h3 := by omega) (h4 := by omega) (h5 := by omega) (h6 := by omega) (h7 := by omega) (g0a := by omega) (g0b := by omega) (g1a := by omega) (g1b := by omega) (g2a := by omega) (g2b := by omega) (g3a := by omega) (g3b := by omega) (g4a := by rw [n1 _ _ _ _ _ _ _ _ (by omega) (by omega) (by omega) (by omega)]; omega) (g4b := by rw [n1 _ _ _ _ _ _ _ _ (by omega) (by omega) (by omega) (by omega)]; omega), n1 _ _ _ _ _ _ _ _ (by omega) (by omega) (by omega) (by omega), u5, adT_eq _ _ _ _ hb.2.2.1]
  · rw [if_neg z, if_neg z, b_X5_addsThing_0]
    by_cases z1 : w < 1
    · rw [if_pos z1, e42]
    · rw [if_neg z1, b_X5_addsThing_5, C_isPlace]
      simp only [Option.bind_some, Option.toList_some, Option.toList_none, List.cons_append, List.nil_append, List.append_nil]
      rw [b_X5_addsThing_9]
      by_cases z2 : 0 ≤ c ∧ c ≤ 19
      · rw [if_pos z2, if_neg (by decide), b_X5_addsThing_12, C_whoAt _ _ _ hb.2.2.1 hb.2.2.2]
        simp only [Option.bind_some, Option.toList_some, Option.toList_none, List.cons_append, List.nil_append, List.append_nil]
        rw [b_X5_addsThing_20]
        by_cases z3 : whoF (σ 17 0) c < 0
        · rw [if_pos z3, b_X5_addsThing_23, hp]
          simp only [Option.bind_some, Option.toList_some, Option.toList_none, List.cons_append, List.nil_append, List.append_nil]
          rw [b_X5_addsThing_28]
          by_cases z4 : isP (σ 17 0) p
          · rw [if_pos z4, if_neg (by decide), b_X5_addsThing_31, if_pos (Classical.not_not.1 (fun y => z ⟨z1, z2, z3, z4, y⟩)), e42]
          · rw [if_neg z4, if_pos rfl, e42]
        · rw [if_neg z3, e42]
      · rw [if_neg z2, if_pos rfl, e42]
/-- what a statement done leaves -/
def DN (σ : St) (x : Option (Option AV × St)) (ok : Bool) (R' : Rw) : Prop := ∃ σ', x = some (some (.inl (if ok = true then 1 else 0)), σ') ∧ DS σ σ' ∧ σ' 17 0 = if ok = true then R' else σ 17 0
theorem DN.of {σ : St} {x : Option (Option AV × St)} {c : Prop} [Decidable c] {R' : Rw} (h : x = some (some (.inl (if c then 1 else 0)), if c then setR σ 0 R' else σ)) : DN σ x (decide c) R' := by
  by_cases e : c
  · rw [if_pos e, if_pos e] at h
    exact ⟨_, by rw [if_pos (decide_eq_true e)]; exact h, DS.set σ R', by rw [if_pos (decide_eq_true e), setR_at]⟩
  · rw [if_neg e, if_neg e] at h
    exact ⟨σ, by rw [if_neg (fun z => e (of_decide_eq_true z))]; exact h, DS.refl σ, by rw [if_neg (fun z => e (of_decide_eq_true z))]⟩
theorem DN.rk {σ : St} {x : Option (Option AV × St)} {ok : Bool} {R' : Rw} {f : Option AV × St → Option (Option AV × St)} (h : DN σ x ok R') (hf : ∀ (b : Int) (τ : St), rkOK 2 b = true → f (some (.inl b), τ) = some (some (.inl b), τ)) : DN σ (x.bind f) ok R' := by
  obtain ⟨σ', h1, h2, h3⟩ := h
  refine ⟨σ', ?_, h2, h3⟩
  rw [h1]
  exact hf _ _ (rk01 _)
theorem R_isDone {σ : St} {W : Nat → Int} {M i : Nat} (hI : Iv (σ 17 0)) (hd : Dk (σ 17 0)) (hs : (stm W M i).2 = true) (hn : NFs W i σ) (u2 u3 : AV) : DN σ (Rx k_X5_isDone 0 [.inr (.inl (16, 0)), .inl (W i), u2, u3] [] σ) (stO (σ 17 0) W i) (stR (σ 17 0) W i) := by
  have hb := hI.1
  have hi := hI.1
  unfold Iv0 at hb
  have hd1 := hd.1
  have hd2 := hd.2
  obtain ⟨hf, _⟩ := stm_b hs
  obtain ⟨bp, bt, bl, bu, bs, bd⟩ := st_bits hs
  obtain ⟨n0, n1, n2⟩ := hn
  rw [b_X5_isDone_0]
  unfold stO stR dnO dnR
  rcases fm_c hf with e | e | e | e | e | e
  · have m1 := n1 (by rw [e]; decide) (by rw [e]; decide)
    have m2 := n2 (Or.inl e)
    rw [e, if_neg (show ¬ (112 : Int) = 108 by decide), if_pos (show (112 : Int) = 112 from rfl), if_pos (show (112 : Int) = 112 from rfl), if_pos (show (112 : Int) = 112 from rfl), b_X5_isDone_68, n0, m1, m2]
    refine DN.rk (DN.of (R_addsPurpose hi _ _ _ uns)) (fun b τ hb => ?_)
    simp only [Option.bind_some, Option.toList_some, Option.toList_none, List.cons_append, List.nil_append, List.append_nil]
    rw [b_X5_isDone_80 (h0 := hb)]
  · have m1 := n1 (by rw [e]; decide) (by rw [e]; decide)
    have m2 := n2 (Or.inr e)
    rw [e, if_neg (show ¬ (116 : Int) = 108 by decide), if_neg (show ¬ (116 : Int) = 112 by decide), if_neg (show ¬ (116 : Int) = 115 by decide), if_pos (show (116 : Int) = 116 from rfl), if_neg (show ¬ (116 : Int) = 112 by decide), if_pos (show (116 : Int) = 116 from rfl), if_neg (show ¬ (116 : Int) = 112 by decide), if_pos (show (116 : Int) = 116 from rfl), b_X5_isDone_81, n0, m1, m2]
    refine DN.rk (DN.of (R_addsThing hi _ _ _ uns)) (fun b τ hb => ?_)
    simp only [Option.bind_some, Option.toList_some, Option.toList_none, List.cons_append, List.nil_append, List.append_nil]
    rw [b_X5_isDone_93 (h0 := hb)]
  · have m1 := n1 (by rw [e]; decide) (by rw [e]; decide)
    rw [e, if_pos (show (108 : Int) = 108 from rfl), if_neg (show ¬ (108 : Int) = 112 by decide), if_neg (show ¬ (108 : Int) = 116 by decide), if_pos (show (108 : Int) = 108 from rfl), if_neg (show ¬ (108 : Int) = 112 by decide), if_neg (show ¬ (108 : Int) = 116 by decide), if_pos (show (108 : Int) = 108 from rfl), n0, m1]
    refine DN.of ?_
    rw [b_X5_isDone_94, C_isThing _ _ hi]
    simp only [Option.bind_some, Option.toList_some, Option.toList_none, List.cons_append, List.nil_append, List.append_nil]
    rw [b_X5_isDone_99]
    by_cases a : isT (σ 17 0) (nF0 W i)
    · rw [if_pos a, if_neg (by decide), b_X5_isDone_102, C_isPurpose _ _ hi]
      simp only [Option.bind_some, Option.toList_some, Option.toList_none, List.cons_append, List.nil_append, List.append_nil]
      rw [b_X5_isDone_107]
      by_cases b : isP (σ 17 0) (nF1 W i)
      · have a1 := a.1
        have a2 := a.2
        rw [if_pos b, if_neg (by decide), b_X5_isDone_112, C_ofT _ _ (by omega) (by omega), if_pos ⟨a, b⟩, if_pos ⟨a, b⟩]
        simp only [Option.bind_some, Option.toList_some, Option.toList_none, List.cons_append, List.nil_append, List.append_nil]
        rw [(b_X5_isDone_120 (h0 := by omega) (h1 := by omega) (g0a := by omega) (g0b := by omega)), up17]
      · rw [if_neg b, if_pos rfl, b_X5_isDone_110, if_neg (fun z => b z.2), if_neg (fun z => b z.2)]
    · rw [if_neg a, if_pos rfl, b_X5_isDone_110, if_neg (fun z => a z.1), if_neg (fun z => a z.1)]
  · rw [e, if_neg (show ¬ (117 : Int) = 108 by decide), if_neg (show ¬ (117 : Int) = 112 by decide), if_neg (show ¬ (117 : Int) = 115 by decide), if_neg (show ¬ (117 : Int) = 116 by decide), if_pos (show (117 : Int) = 117 from rfl), if_neg (show ¬ (117 : Int) = 112 by decide), if_neg (show ¬ (117 : Int) = 116 by decide), if_neg (show ¬ (117 : Int) = 108 by decide), if_pos (show (117 : Int) = 117 from rfl), if_neg (show ¬ (117 : Int) = 112 by decide), if_neg (show ¬ (117 : Int) = 116 by decide), if_neg (show ¬ (117 : Int) = 108 by decide), if_pos (show (117 : Int) = 117 from rfl), n0]
    refine DN.of ?_
    rw [b_X5_isDone_126, C_isThing _ _ hi]
    simp only [Option.bind_some, Option.toList_some, Option.toList_none, List.cons_append, List.nil_append, List.append_nil]
    rw [b_X5_isDone_131]
    by_cases a : isT (σ 17 0) (nF0 W i)
    · have a1 := a.1
      have a2 := a.2
      rw [if_pos a, if_neg (by decide), b_X5_isDone_136, C_ofT _ _ (by omega) (by omega), if_pos a]
      simp only [Option.bind_some, Option.toList_some, Option.toList_none, List.cons_append, List.nil_append, List.append_nil]
      rw [(b_X5_isDone_144 (h0 := by omega) (h1 := by omega) (g0a := by omega) (g0b := by omega)), up17]
    · rw [if_neg a, if_pos rfl, b_X5_isDone_134, if_neg a]
  · have m1 := n1 (by rw [e]; decide) (by rw [e]; decide)
    rw [e, if_neg (show ¬ (115 : Int) = 108 by decide), if_neg (show ¬ (115 : Int) = 112 by decide), if_pos (show (115 : Int) = 115 from rfl), if_neg (show ¬ (115 : Int) = 112 by decide), if_neg (show ¬ (115 : Int) = 116 by decide), if_neg (show ¬ (115 : Int) = 108 by decide), if_neg (show ¬ (115 : Int) = 117 by decide), if_pos (show (115 : Int) = 115 from rfl), if_neg (show ¬ (115 : Int) = 112 by decide), if_neg (show ¬ (115 : Int) = 116 by decide), if_neg (show ¬ (115 : Int) = 108 by decide), if_neg (show ¬ (115 : Int) = 117 by decide), if_pos (show (115 : Int) = 115 from rfl), n0, m1]
    refine DN.of ?_
    rw [b_X5_isDone_150, C_isPurpose _ _ hi]
    simp only [Option.bind_some, Option.toList_some, Option.toList_none, List.cons_append, List.nil_append, List.append_nil]
    rw [b_X5_isDone_155]
    by_cases a : isP (σ 17 0) (nF0 W i)
    · have a1 := a.1
      have a2 := a.2
      rw [if_pos a, if_neg (by decide), b_X5_isDone_160, C_ofP _ _ (by omega) (by omega), if_pos a]
      simp only [Option.bind_some, Option.toList_some, Option.toList_none, List.cons_append, List.nil_append, List.append_nil]
      rw [(b_X5_isDone_168 (h0 := by omega) (h1 := by omega) (g0a := by omega) (g0b := by omega)), up17]
    · rw [if_neg a, if_pos rfl, b_X5_isDone_158, if_neg a]
  · rw [e, if_neg (show ¬ (100 : Int) = 108 by decide), if_neg (show ¬ (100 : Int) = 112 by decide), if_neg (show ¬ (100 : Int) = 115 by decide), if_neg (show ¬ (100 : Int) = 116 by decide), if_neg (show ¬ (100 : Int) = 117 by decide), if_neg (show ¬ (100 : Int) = 112 by decide), if_neg (show ¬ (100 : Int) = 116 by decide), if_neg (show ¬ (100 : Int) = 108 by decide), if_neg (show ¬ (100 : Int) = 117 by decide), if_neg (show ¬ (100 : Int) = 115 by decide), if_neg (show ¬ (100 : Int) = 112 by decide), if_neg (show ¬ (100 : Int) = 116 by decide), if_neg (show ¬ (100 : Int) = 108 by decide), if_neg (show ¬ (100 : Int) = 117 by decide), if_neg (show ¬ (100 : Int) = 115 by decide), n0]
    obtain ⟨d1, d2⟩ := bd e
    have q1 := d1.2
    have q2 := d2.2
    have e0 : nF0 W i = 10 * dg W (i + 1) + dg W (i + 2) := by
      unfold nF0
      rw [e, if_neg (by decide), if_pos rfl]
    by_cases a : (1 ≤ nF0 W i ∧ nF0 W i ≤ 60) ∧ ¬ 999 < σ 17 0 2 + nF0 W i
    · obtain ⟨g, hg⟩ := C_daysOn 0 (nF0 W i) σ hI (by omega) hd1 (by omega)
      refine ⟨_, ?_, DS.sR σ (daysF (nF0 W i).toNat (σ 17 0)) g, by rw [if_pos (decide_eq_true a), sR_17]⟩
      rw [b_X5_isDone_174, C_isIn, if_pos a.1, if_pos (decide_eq_true a)]
      simp only [Option.bind_some, Option.toList_some, Option.toList_none, List.cons_append, List.nil_append, List.append_nil]
      rw [b_X5_isDone_181, if_neg (by decide), b_X5_isDone_184 (g0a := by omega) (g0b := by omega), if_neg a.2, b_X5_isDone_200, hg]
      simp only [Option.bind_some, Option.toList_some, Option.toList_none, List.cons_append, List.nil_append, List.append_nil]
      rw [b_X5_isDone_209]
    · have e198 : Rx k_X5_isDone 198 [.inr (.inl (16, 0)), .inl 100, .inl (nF0 W i), .inl (σ 22 0 1)] [] σ = some (some (.inl 0), σ) := by rw [b_X5_isDone_198]
      refine ⟨σ, ?_, DS.refl σ, by rw [if_neg (fun z => a (of_decide_eq_true z))]⟩
      rw [b_X5_isDone_174, C_isIn, if_neg (show ¬ decide ((1 ≤ nF0 W i ∧ nF0 W i ≤ 60) ∧ ¬ 999 < σ 17 0 2 + nF0 W i) = true from fun z => a (of_decide_eq_true z))]
      simp only [Option.bind_some, Option.toList_some, Option.toList_none, List.cons_append, List.nil_append, List.append_nil]
      rw [b_X5_isDone_181]
      by_cases b : 1 ≤ nF0 W i ∧ nF0 W i ≤ 60
      · rw [if_pos b, if_neg (by decide), b_X5_isDone_184 (g0a := by omega) (g0b := by omega), if_pos (by omega), e198]
      · rw [if_neg b, if_pos rfl, e198]
