/-! bits of ints: small numbers -/
theorem sm_l : ∀ n, n < 32 → ((nI n &&& 31).toBitVec.smod 32).toNat = n := by decide +kernel
theorem sm_u : ∀ n, n < 32 → (((nI n).toUInt32 &&& Int32.toUInt32 31).toBitVec % 32).toNat = n := by decide +kernel
theorem nI_of_nat (n : Nat) : Int32.ofInt (n : Int) = nI n := (I_nat n).symm
theorem nI_nat {n : Nat} (h : n < 2147483648) : (nI n).toInt = (n : Int) := nI_toInt (by omega)
theorem nI_and (a b : Nat) : nI a &&& nI b = nI (a &&& b) := by
  apply Int32.toBitVec_inj.1
  show BitVec.ofNat 32 a &&& BitVec.ofNat 32 b = BitVec.ofNat 32 (a &&& b)
  apply BitVec.eq_of_getLsbD_eq
  intro i hi
  simp [hi]
theorem nI_or (a b : Nat) : nI a ||| nI b = nI (a ||| b) := by
  apply Int32.toBitVec_inj.1
  show BitVec.ofNat 32 a ||| BitVec.ofNat 32 b = BitVec.ofNat 32 (a ||| b)
  apply BitVec.eq_of_getLsbD_eq
  intro i hi
  simp [hi]
theorem bAnd_nat {a b : Nat} (ha : a < 2147483648) : bAnd (a : Int) (b : Int) = ((a &&& b : Nat) : Int) := by
  unfold bAnd
  rw [nI_of_nat, nI_of_nat, nI_and, nI_nat (Nat.lt_of_le_of_lt Nat.and_le_left ha)]
theorem bOr_nat {a b : Nat} (ha : a < 1073741824) (hb : b < 1073741824) : bOr (a : Int) (b : Int) = ((a ||| b : Nat) : Int) := by
  unfold bOr
  have h : a ||| b < 2 ^ 30 := Nat.or_lt_two_pow (by omega) (by omega)
  rw [nI_of_nat, nI_of_nat, nI_or, nI_nat (by omega)]
theorem bShr_nat {x k : Nat} (hx : x < 2147483648) (hk : k < 32) : bShr (x : Int) (k : Int) = ((x / 2 ^ k : Nat) : Int) := by
  unfold bShr
  have h : x / 2 ^ k ≤ x := Nat.div_le_self _ _
  rw [nI_of_nat, nI_of_nat, pk_shrN (by omega) _ k (sm_l k hk), nI_nat (by omega)]
theorem bUshr_nat {x k : Nat} (hx : x < 2147483648) (hk : k < 32) : bUshr (x : Int) (k : Int) = ((x / 2 ^ k : Nat) : Int) := by
  unfold bUshr
  have h : x / 2 ^ k ≤ x := Nat.div_le_self _ _
  rw [nI_of_nat, nI_of_nat, pk_ushrN (by omega) _ k (sm_u k hk), nI_nat (by omega)]
theorem bShl_nat {x k : Nat} (hk : k < 32) (h : x * 2 ^ k < 2147483648) : bShl (x : Int) (k : Int) = ((x * 2 ^ k : Nat) : Int) := by
  unfold bShl
  rw [nI_of_nat, nI_of_nat, pk_shlN _ k (sm_l k hk) (by omega), nI_nat h]
theorem bAndNot_nat {a b : Nat} (ha : a < 2147483648) : bAnd (a : Int) (bXor (b : Int) (-1)) = ((a ^^^ (a &&& b) : Nat) : Int) := by
  have e : nI a &&& (nI b ^^^ Int32.ofInt (-1)) = nI (a ^^^ (a &&& b)) := by
    apply Int32.toBitVec_inj.1
    show BitVec.ofNat 32 a &&& (BitVec.ofNat 32 b ^^^ BitVec.ofInt 32 (-1)) = BitVec.ofNat 32 (a ^^^ (a &&& b))
    have e1 : BitVec.ofInt 32 (-1) = BitVec.allOnes 32 := by decide
    rw [e1]
    apply BitVec.eq_of_getLsbD_eq
    intro i hi
    simp only [BitVec.getLsbD_and, BitVec.getLsbD_xor, BitVec.getLsbD_ofNat, BitVec.getLsbD_allOnes, Nat.testBit_xor, Nat.testBit_and, hi, decide_true, Bool.true_and]
    cases a.testBit i <;> cases b.testBit i <;> rfl
  have h : a ^^^ (a &&& b) ≤ a := by
    have h1 : a ^^^ (a &&& b) = (a ^^^ (a &&& b)) &&& a := by
      apply Nat.eq_of_testBit_eq
      intro i
      simp only [Nat.testBit_and, Nat.testBit_xor]
      cases a.testBit i <;> cases b.testBit i <;> rfl
    rw [h1]
    exact Nat.and_le_right
  unfold bAnd bXor
  rw [Int32.ofInt_toInt, nI_of_nat, nI_of_nat, e, nI_nat (by omega)]
theorem bit1 (x k : Nat) : x / 2 ^ k &&& 1 = if x.testBit k = true then 1 else 0 := by
  rw [Nat.and_one_is_mod, Nat.testBit_eq_decide_div_mod_eq]
  by_cases h : x / 2 ^ k % 2 = 1
  · simp [h]
  · have : x / 2 ^ k % 2 = 0 := by omega
    simp [this]
/-- bit k of x, as both sides ask for it -/
theorem bitS {x k : Nat} (hx : x < 2147483648) (hk : k < 32) : bAnd (bShr (x : Int) (k : Int)) 1 = if x.testBit k = true then 1 else 0 := by
  rw [bShr_nat hx hk, show (1 : Int) = ((1 : Nat) : Int) from rfl, bAnd_nat (by have h : x / 2 ^ k ≤ x := Nat.div_le_self _ _; omega), bit1]
  split <;> rfl
theorem bitU {x k : Nat} (hx : x < 2147483648) (hk : k < 32) : bAnd (bUshr (x : Int) (k : Int)) 1 = if x.testBit k = true then 1 else 0 := by
  rw [bUshr_nat hx hk, show (1 : Int) = ((1 : Nat) : Int) from rfl, bAnd_nat (by have h : x / 2 ^ k ≤ x := Nat.div_le_self _ _; omega), bit1]
  split <;> rfl
theorem shl1 {k : Nat} (hk : k < 31) : bShl 1 (k : Int) = ((2 ^ k : Nat) : Int) := by
  have h : 2 ^ k < 2 ^ 31 := Nat.pow_lt_pow_right (by decide) hk
  have := bShl_nat (x := 1) (k := k) (by omega) (by omega)
  rw [Nat.one_mul] at this
  exact this
