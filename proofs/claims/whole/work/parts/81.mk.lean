/-! the reference: lots -/
theorem ofInt_nI (s : Int) : Int32.ofInt s = nI (s % 4294967296).toNat := by
  apply Int32.toBitVec_inj.1
  show BitVec.ofInt 32 s = BitVec.ofNat 32 (s % 4294967296).toNat
  apply BitVec.eq_of_toNat_eq
  rw [BitVec.toNat_ofInt, BitVec.toNat_ofNat]
  have e : ((2 ^ 32 : Nat) : Int) = 4294967296 := by decide
  rw [e]
  omega
theorem bAnd_mx (s : Int) : 0 ≤ bAnd s 2147483647 ∧ bAnd s 2147483647 < 2147483648 := by
  have hl : (s % 4294967296).toNat &&& 2147483647 ≤ 2147483647 := Nat.and_le_right
  have e : bAnd s 2147483647 = (((s % 4294967296).toNat &&& 2147483647 : Nat) : Int) := by
    unfold bAnd
    rw [ofInt_nI, show Int32.ofInt 2147483647 = nI 2147483647 from nI_of_nat 2147483647, nI_and, nI_nat (by omega)]
  rw [e]
  omega
theorem drF_bd (s : Int) {n : Int} (hn : 0 < n) : 0 ≤ drF s n ∧ drF s n < n := by
  have h := bAnd_mx (sdF s)
  have e : (bAnd (sdF s) 2147483647).tdiv 256 = bAnd (sdF s) 2147483647 / 256 := Int.tdiv_eq_ediv_of_nonneg h.1
  unfold drF
  rw [e, wr_id (x := bAnd (sdF s) 2147483647 / 256) (by omega) (by omega), Int.tmod_eq_emod_of_nonneg (by omega)]
  exact ⟨Int.emod_nonneg _ (by omega), Int.emod_lt_of_pos _ hn⟩
/-- every thing leaned anew by lot: of the things from m on -/
def lotR (P : Int) : Nat → Nat → Rw → Int → Rw × Int
  | 0, _, R, s => (R, s)
  | n + 1, m, R, s => lotR P n (m + 1) (wrt R (18 + 4 * (m : Int) + 2).toNat (drF s P)) (sdF s)
theorem lotR_s (P : Int) (n m : Nat) (R : Rw) (s : Int) : lotR P (n + 1) m R s = lotR P n (m + 1) (wrt R (18 + 4 * (m : Int) + 2).toNat (drF s P)) (sdF s) := rfl
theorem lotR_ok {P : Int} (hP : 0 < P) : ∀ (n m : Nat) (R : Rw) (s : Int), m + n ≤ 10 → Iv R → R 0 = P → Iv (lotR P n m R s).1 ∧ (lotR P n m R s).1 0 = R 0 ∧ (lotR P n m R s).1 1 = R 1 ∧ (lotR P n m R s).1 2 = R 2 ∧ (∀ k : Nat, 58 ≤ k → (lotR P n m R s).1 k = R k) := by
  intro n
  induction n with
  | zero => intro m R s h1 h2 h3; exact ⟨h2, rfl, rfl, rfl, fun _ _ => rfl⟩
  | succ n ih =>
    intro m R s h1 h2 h3
    have hd := drF_bd s hP
    obtain ⟨w0, w1, w2, w3, w4⟩ := tw (R := R) (v := drF s P) 2 (show (0 : Int) ≤ (m : Int) by omega) (by omega)
    obtain ⟨k1, k2, k3, k4, k5⟩ := ih (m + 1) _ (sdF s) (by omega) (h2.onw (t := (m : Int)) (p := drF s P) (by omega) (by omega)) (w0.trans h3)
    rw [lotR_s]
    exact ⟨k1, k2.trans w0, k3.trans w1, k4.trans w2, fun k hk => (k5 k hk).trans (w3 k hk (by omega))⟩
