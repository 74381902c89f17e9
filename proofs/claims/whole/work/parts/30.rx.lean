/-! the abstract machine without fuel, and its laws -/
theorem ex_mono1 : ∀ (n y pc : Nat) (ls st : List AV) (σ : St) (r : Option AV × St), ex n y pc ls st σ = some r → ex (n + 1) y pc ls st σ = some r := by
  intro n
  induction n with
  | zero => intro y pc ls st σ r h; cases h
  | succ n ih =>
    intro y pc ls st σ r h
    unfold ex at h ⊢
    split at h
    · cases h
    · rename_i i len hf
      try rw [hf]
      try dsimp only
      split at h
      · rename_i rv hrv
        try rw [hrv]
        exact h
      · rename_i hrv
        try rw [hrv]
        try dsimp only
        split at h
        · rename_i y' as rest hcall
          try rw [hcall]
          try dsimp only
          split at h
          · rename_i rv σ1 hex
            try rw [ih _ _ _ _ _ _ hex]
            exact ih _ _ _ _ _ _ h
          · cases h
        · rename_i hcall
          try rw [hcall]
          try dsimp only
          split at h
          · rename_i pc' ls' st' σ2 hstep
            try rw [hstep]
            exact ih _ _ _ _ _ _ h
          · cases h
theorem ex_mono {n y pc : Nat} {ls st : List AV} {σ : St} {r : Option AV × St} (h : ex n y pc ls st σ = some r) : ∀ k, ex (n + k) y pc ls st σ = some r := by
  intro k
  induction k with
  | zero => exact h
  | succ k ih => exact ex_mono1 _ _ _ _ _ _ _ ih
noncomputable def Rx (y pc : Nat) (ls st : List AV) (σ : St) : Option (Option AV × St) := ex (Classical.epsilon fun n => (ex n y pc ls st σ).isSome = true) y pc ls st σ
theorem Rx_of {n y pc : Nat} {ls st : List AV} {σ : St} {r : Option AV × St} (h : ex n y pc ls st σ = some r) : Rx y pc ls st σ = some r := by
  have h1 : (ex (Classical.epsilon fun n => (ex n y pc ls st σ).isSome = true) y pc ls st σ).isSome = true := Classical.epsilon_spec (p := fun n => (ex n y pc ls st σ).isSome = true) ⟨n, by rw [h]; rfl⟩
  obtain ⟨r2, h2⟩ := Option.isSome_iff_exists.mp h1
  have h3 := ex_mono h (Classical.epsilon fun n => (ex n y pc ls st σ).isSome = true)
  have h4 := ex_mono h2 n
  rw [Nat.add_comm] at h4
  rw [h3] at h4
  unfold Rx
  rw [h2, h4]
theorem Rx_ex {y pc : Nat} {ls st : List AV} {σ : St} {r : Option AV × St} (h : Rx y pc ls st σ = some r) : ∃ n, ex n y pc ls st σ = some r := ⟨_, h⟩
theorem Rx_eq {y pc : Nat} {ls st : List AV} {σ : St} {o : Option (Option AV × St)} (h1 : ∀ n r, ex n y pc ls st σ = some r → o = some r) (h2 : ∀ r, o = some r → ∃ n, ex n y pc ls st σ = some r) : Rx y pc ls st σ = o := by
  cases ho : o with
  | some r => obtain ⟨n, hn⟩ := h2 r ho; exact Rx_of hn
  | none =>
    cases hr : Rx y pc ls st σ with
    | none => rfl
    | some r =>
      obtain ⟨n, hn⟩ := Rx_ex hr
      have := h1 n r hn
      rw [ho] at this
      cases this
def one (y pc : Nat) (ls st : List AV) (σ : St) : Option AC := match fetch y pc with
  | none => none
  | some (i, n) => match aRet y i st with
    | some _ => none
    | none => match aCall y i st with
      | some _ => none
      | none => aStep y i n pc ls st σ
def aN : Nat → Nat → Nat → List AV → List AV → St → Option AC
  | 0, _, pc, ls, st, σ => some (pc, (ls, (st, σ)))
  | k + 1, y, pc, ls, st, σ => match one y pc ls st σ with
    | some (pc', (ls', (st', σ'))) => aN k y pc' ls' st' σ'
    | none => none
theorem Rx_one {y pc : Nat} {ls st : List AV} {σ : St} {pc' : Nat} {ls' st' : List AV} {σ' : St} (h : one y pc ls st σ = some (pc', (ls', (st', σ')))) : Rx y pc ls st σ = Rx y pc' ls' st' σ' := by
  unfold one at h
  have key : ∀ n, ex (n + 1) y pc ls st σ = ex n y pc' ls' st' σ' := by
    intro n
    conv => lhs; unfold ex
    split at h
    · cases h
    · rename_i i len hf
      rw [hf]
      dsimp only
      split at h
      · cases h
      · rename_i hrv
        rw [hrv]
        dsimp only
        split at h
        · cases h
        · rename_i hcall
          rw [hcall]
          dsimp only
          rw [h]
  refine Rx_eq (fun n r hn => ?_) (fun r hr => ?_)
  · exact Rx_of ((key n).symm.trans (ex_mono1 _ _ _ _ _ _ _ hn))
  · obtain ⟨n, hn⟩ := Rx_ex hr
    exact ⟨n + 1, (key n).trans hn⟩
theorem Rx_N {k y : Nat} : ∀ {pc : Nat} {ls st : List AV} {σ : St} {pc' : Nat} {ls' st' : List AV} {σ' : St}, aN k y pc ls st σ = some (pc', (ls', (st', σ'))) → Rx y pc ls st σ = Rx y pc' ls' st' σ' := by
  induction k with
  | zero => intro pc ls st σ pc' ls' st' σ' h; cases h; rfl
  | succ k ih =>
    intro pc ls st σ pc' ls' st' σ' h
    unfold aN at h
    split at h
    · rename_i p1 l1 s1 σ1 h1
      exact (Rx_one h1).trans (ih h)
    · cases h
theorem Rx_ret {y pc n : Nat} {i : Instr} {ls st : List AV} {σ : St} {rv : Option AV} (hf : fetch y pc = some (i, n)) (hr : aRet y i st = some rv) : Rx y pc ls st σ = some (rv, σ) := by
  refine Rx_of (n := 1) ?_
  unfold ex
  rw [hf]
  dsimp only
  rw [hr]
theorem Rx_call {y pc n : Nat} {i : Instr} {ls st : List AV} {σ : St} {y' : Nat} {as rest : List AV} (hf : fetch y pc = some (i, n)) (hr : aRet y i st = none) (hc : aCall y i st = some (y', (as, rest))) : Rx y pc ls st σ = (Rx y' 0 (ent y' as) [] σ).bind fun q => Rx y (pc + 3) ls (q.1.toList ++ rest) q.2 := by
  have key : ∀ n, ex (n + 1) y pc ls st σ = match ex n y' 0 (ent y' as) [] σ with
      | some (rv, σ') => ex n y (pc + 3) ls (rv.toList ++ rest) σ'
      | none => none := by
    intro n
    conv => lhs; unfold ex
    rw [hf]
    dsimp only
    rw [hr]
    dsimp only
    rw [hc]
    rfl
  refine Rx_eq (fun n r hn => ?_) (fun r h2 => ?_)
  · have hn := ex_mono1 _ _ _ _ _ _ _ hn
    rw [key] at hn
    split at hn
    · rename_i rv σ1 hex
      rw [Rx_of hex]
      exact Rx_of hn
    · cases hn
  · cases hq : Rx y' 0 (ent y' as) [] σ with
    | none => rw [hq] at h2; cases h2
    | some q =>
      rw [hq] at h2
      obtain ⟨rv, σ1⟩ := q
      obtain ⟨a, ha⟩ := Rx_ex hq
      obtain ⟨b, hb⟩ := Rx_ex h2
      refine ⟨a + b + 1, ?_⟩
      rw [key, ex_mono ha b]
      dsimp only
      rw [Nat.add_comm]
      exact ex_mono hb a
theorem Rx_ite {y a b : Nat} {ls st : List AV} {σ : St} (c : Prop) [Decidable c] : Rx y (if c then a else b) ls st σ = if c then Rx y a ls st σ else Rx y b ls st σ := by split <;> rfl
theorem Rx_eq0 {k y pc : Nat} {ls st : List AV} {σ : St} {a b : Nat} {ls' st' : List AV} {σ' : St} {x z : Int} (h : aN k y pc ls st σ = some (if cmpI .eq x z = true then a else b, (ls', (st', σ')))) : Rx y pc ls st σ = if x = z then Rx y a ls' st' σ' else Rx y b ls' st' σ' := by
  rw [Rx_N h, Rx_ite]; simp only [cmpI, decide_eq_true_eq]
theorem Rx_ne0 {k y pc : Nat} {ls st : List AV} {σ : St} {a b : Nat} {ls' st' : List AV} {σ' : St} {x z : Int} (h : aN k y pc ls st σ = some (if cmpI .ne x z = true then a else b, (ls', (st', σ')))) : Rx y pc ls st σ = if x = z then Rx y b ls' st' σ' else Rx y a ls' st' σ' := by
  rw [Rx_N h, Rx_ite]; by_cases q : x = z <;> simp [cmpI, q]
theorem Rx_lt0 {k y pc : Nat} {ls st : List AV} {σ : St} {a b : Nat} {ls' st' : List AV} {σ' : St} {x z : Int} (h : aN k y pc ls st σ = some (if cmpI .lt x z = true then a else b, (ls', (st', σ')))) : Rx y pc ls st σ = if x < z then Rx y a ls' st' σ' else Rx y b ls' st' σ' := by
  rw [Rx_N h, Rx_ite]; simp only [cmpI, decide_eq_true_eq]
theorem Rx_ge0 {k y pc : Nat} {ls st : List AV} {σ : St} {a b : Nat} {ls' st' : List AV} {σ' : St} {x z : Int} (h : aN k y pc ls st σ = some (if cmpI .ge x z = true then a else b, (ls', (st', σ')))) : Rx y pc ls st σ = if x < z then Rx y b ls' st' σ' else Rx y a ls' st' σ' := by
  rw [Rx_N h, Rx_ite]; by_cases q : x < z <;> simp only [cmpI, q, decide_true, decide_false, Bool.not_true, Bool.not_false, if_true, if_false, reduceCtorEq]
theorem Rx_gt0 {k y pc : Nat} {ls st : List AV} {σ : St} {a b : Nat} {ls' st' : List AV} {σ' : St} {x z : Int} (h : aN k y pc ls st σ = some (if cmpI .gt x z = true then a else b, (ls', (st', σ')))) : Rx y pc ls st σ = if z < x then Rx y a ls' st' σ' else Rx y b ls' st' σ' := by
  rw [Rx_N h, Rx_ite]; simp only [cmpI, decide_eq_true_eq]
theorem Rx_le0 {k y pc : Nat} {ls st : List AV} {σ : St} {a b : Nat} {ls' st' : List AV} {σ' : St} {x z : Int} (h : aN k y pc ls st σ = some (if cmpI .le x z = true then a else b, (ls', (st', σ')))) : Rx y pc ls st σ = if z < x then Rx y b ls' st' σ' else Rx y a ls' st' σ' := by
  rw [Rx_N h, Rx_ite]; by_cases q : z < x <;> simp only [cmpI, q, decide_true, decide_false, Bool.not_true, Bool.not_false, if_true, if_false, reduceCtorEq]
theorem one_of {y pc n : Nat} {i : Instr} {ls st : List AV} {σ : St} (hf : fetch y pc = some (i, n)) (hr : aRet y i st = none) (hc : aCall y i st = none) : one y pc ls st σ = aStep y i n pc ls st σ := by
  unfold one
  rw [hf]
  dsimp only
  rw [hr]
  dsimp only
  rw [hc]
theorem Rx_ild {y pc : Nat} {ls st : List AV} {σ : St} {t r : Nat} {i : Int} (N : Nat) (hf : fetch y pc = some (.iaload, 1)) (ht : (t == 32) = false) (hN : alen t = N) (h0 : 0 ≤ i) (h1 : i < (N : Int)) : Rx y pc ls (.inl i :: .inr (.inl (t, r)) :: st) σ = Rx y (pc + 1) ls (.inl (σ t r i.toNat) :: st) σ := by
  refine Rx_one ?_
  rw [one_of hf (by unfold aRet; split <;> simp_all) (by rfl)]
  simp only [aStep, aIld, ht, Bool.false_eq_true, if_false, hN]
  rw [if_pos ⟨h0, h1⟩]
theorem Rx_ist {y pc : Nat} {ls st : List AV} {σ : St} {t r : Nat} {i v : Int} (N : Nat) (hf : fetch y pc = some (.iastore, 1)) (hN : alen t = N) (h0 : 0 ≤ i) (h1 : i < (N : Int)) : Rx y pc ls (.inl v :: .inl i :: .inr (.inl (t, r)) :: st) σ = Rx y (pc + 1) ls st (up σ t r i.toNat v) := by
  refine Rx_one ?_
  rw [one_of hf (by unfold aRet; split <;> simp_all) (by rfl)]
  simp only [aStep, aIst, hN]
  rw [if_pos ⟨h0, h1⟩]
theorem Rx_sld {y pc : Nat} {ls st : List AV} {σ : St} {i : Int} (hf : fetch y pc = some (.iaload, 1)) (h0 : 0 ≤ i) (h1 : i < σ 32 1 0) : Rx y pc ls (.inl i :: .inr (.inl (32, 0)) :: st) σ = Rx y (pc + 1) ls (.inl (σ 32 0 i.toNat) :: st) σ := by
  refine Rx_one ?_
  rw [one_of hf (by unfold aRet; split <;> simp_all) (by rfl)]
  simp only [aStep, aIld, beq_self_eq_true, if_true]
  rw [if_pos ⟨h0, h1⟩]
theorem Rx_bld {y pc : Nat} {ls st : List AV} {σ : St} {r : Nat} {i : Int} (hf : fetch y pc = some (.baload, 1)) (h0 : 0 ≤ i) (h1 : i < (slen r : Int)) : Rx y pc ls (.inl i :: .inr (.inl (31, r)) :: st) σ = Rx y (pc + 1) ls (.inl (sbyt r i.toNat) :: st) σ := by
  refine Rx_one ?_
  rw [one_of hf (by unfold aRet; split <;> simp_all) (by rfl)]
  simp only [aStep, aBld, beq_self_eq_true, if_true]
  rw [if_pos ⟨h0, h1⟩]
theorem Rx_idiv {y pc : Nat} {ls st : List AV} {σ : St} {x z : Int} (hf : fetch y pc = some (.idiv, 1)) (hz : z ≠ 0) : Rx y pc ls (.inl z :: .inl x :: st) σ = Rx y (pc + 1) ls (.inl (wr (x.tdiv z)) :: st) σ := by
  refine Rx_one ?_
  rw [one_of hf (by unfold aRet; split <;> simp_all) (by rfl)]
  simp only [aStep, binI, if_neg hz]
theorem Rx_irem {y pc : Nat} {ls st : List AV} {σ : St} {x z : Int} (hf : fetch y pc = some (.irem, 1)) (hz : z ≠ 0) : Rx y pc ls (.inl z :: .inl x :: st) σ = Rx y (pc + 1) ls (.inl (x.tmod z) :: st) σ := by
  refine Rx_one ?_
  rw [one_of hf (by unfold aRet; split <;> simp_all) (by rfl)]
  simp only [aStep, binI, if_neg hz]
theorem Rx_ldiv {y pc : Nat} {ls st : List AV} {σ : St} {x z : Int} (hf : fetch y pc = some (.ldiv, 1)) (hz : z ≠ 0) : Rx y pc ls (.inr (.inr z) :: .inr (.inr x) :: st) σ = Rx y (pc + 1) ls (.inr (.inr (wl (x.tdiv z))) :: st) σ := by
  refine Rx_one ?_
  rw [one_of hf (by unfold aRet; split <;> simp_all) (by rfl)]
  simp only [aStep, binL, if_neg hz]
theorem Rx_lrem {y pc : Nat} {ls st : List AV} {σ : St} {x z : Int} (hf : fetch y pc = some (.lrem, 1)) (hz : z ≠ 0) : Rx y pc ls (.inr (.inr z) :: .inr (.inr x) :: st) σ = Rx y (pc + 1) ls (.inr (.inr (x.tmod z)) :: st) σ := by
  refine Rx_one ?_
  rw [one_of hf (by unfold aRet; split <;> simp_all) (by rfl)]
  simp only [aStep, binL, if_neg hz]
theorem Rx_tout {y pc n : Nat} {ls st : List AV} {σ : St} {d lo hi : Int} {offs : Array Int} {x : Int} {t : Nat} (hf : fetch y pc = some (.tableswitch d lo hi offs, n)) (hx : x < lo ∨ hi < x) (ht : tgt pc d = some t) : Rx y pc ls (.inl x :: st) σ = Rx y t ls st σ := by
  refine Rx_one ?_
  rw [one_of hf (by unfold aRet; split <;> simp_all) (by rfl)]
  simp only [aStep]
  rw [if_pos hx, ht]
  rfl
theorem Rx_lout {y pc n : Nat} {ls st : List AV} {σ : St} {d : Int} {ps : Array (Int × Int)} {x : Int} {t : Nat} (hf : fetch y pc = some (.lookupswitch d ps, n)) (hp : (ps.toList.zip (ps.toList.drop 1)).all (fun (a, next) => a.1 < next.1) = true) (ho : Op.lookupswitch.offset ps.toList d x = d) (ht : tgt pc d = some t) : Rx y pc ls (.inl x :: st) σ = Rx y t ls st σ := by
  refine Rx_one ?_
  rw [one_of hf (by unfold aRet; split <;> simp_all) (by rfl)]
  simp only [aStep]
  rw [if_pos hp, ho, ht]
  rfl
/-! the bit operations of ints -/
def bAnd (x y : Int) : Int := (Int32.ofInt x &&& Int32.ofInt y).toInt
def bOr (x y : Int) : Int := (Int32.ofInt x ||| Int32.ofInt y).toInt
def bXor (x y : Int) : Int := (Int32.ofInt x ^^^ Int32.ofInt y).toInt
def bShl (x y : Int) : Int := (Int32.ofInt x <<< (Int32.ofInt y &&& 31)).toInt
def bShr (x y : Int) : Int := (Int32.ofInt x >>> (Int32.ofInt y &&& 31)).toInt
def bUshr (x y : Int) : Int := ((Int32.ofInt x).toUInt32 >>> ((Int32.ofInt y).toUInt32 &&& Int32.toUInt32 31)).toInt32.toInt
def bI2c (x : Int) : Int := ((Int32.ofInt x).toUInt32 % 65536).toInt32.toInt
def bI2b (x : Int) : Int := (Int32.ofInt x).toInt8.toInt32.toInt
