/-! numbers -/
def okI (x : Int) : Prop := -2147483648 ≤ x ∧ x < 2147483648
def okL (x : Int) : Prop := -9223372036854775808 ≤ x ∧ x < 9223372036854775808
theorem toI {x : Int} (h : okI x) : (Int32.ofInt x).toInt = x := Int32.toInt_ofInt_of_le (by have := h.1; omega) (by have := h.2; omega)
theorem toL {x : Int} (h : okL x) : (Int64.ofInt x).toInt = x := Int64.toInt_ofInt_of_le (by have := h.1; omega) (by have := h.2; omega)
theorem okI_to (x : Int32) : okI x.toInt := ⟨by have := x.le_toInt; omega, by have := x.toInt_lt; omega⟩
theorem wr_ok (x : Int) : okI (wr x) := by
  have h1 := Int.le_bmod (x := x) (m := 4294967296) (by decide)
  have h2 := Int.bmod_lt (x := x) (m := 4294967296) (by decide)
  unfold wr okI; constructor <;> omega
theorem wl_ok (x : Int) : okL (wl x) := by
  have h1 := Int.le_bmod (x := x) (m := 18446744073709551616) (by decide)
  have h2 := Int.bmod_lt (x := x) (m := 18446744073709551616) (by decide)
  unfold wl okL; constructor <;> omega
theorem wr_id {x : Int} (h1 : -2147483648 ≤ x) (h2 : x < 2147483648) : wr x = x := Int.bmod_eq_of_le (by omega) (by omega)
theorem wl_id {x : Int} (h1 : -9223372036854775808 ≤ x) (h2 : x < 9223372036854775808) : wl x = x := Int.bmod_eq_of_le (by omega) (by omega)
theorem I_wr (x : Int) : Int32.ofInt (wr x) = Int32.ofInt x := by
  apply Int32.toInt_inj.mp
  rw [Int32.toInt_ofInt, Int32.toInt_ofInt]
  unfold wr
  exact Int.bmod_bmod
theorem L_wl (x : Int) : Int64.ofInt (wl x) = Int64.ofInt x := by
  apply Int64.toInt_inj.mp
  rw [Int64.toInt_ofInt, Int64.toInt_ofInt]
  unfold wl
  exact Int.bmod_bmod
theorem I_eq {x y : Int} (hx : okI x) (hy : okI y) : Int32.ofInt x = Int32.ofInt y ↔ x = y := ⟨fun h => by rw [← toI hx, ← toI hy, h], fun h => by rw [h]⟩
theorem I_lt {x y : Int} (hx : okI x) (hy : okI y) : Int32.ofInt x < Int32.ofInt y ↔ x < y := by rw [Int32.lt_iff_toInt_lt, toI hx, toI hy]
theorem I_le {x y : Int} (hx : okI x) (hy : okI y) : Int32.ofInt x ≤ Int32.ofInt y ↔ x ≤ y := by rw [Int32.le_iff_toInt_le, toI hx, toI hy]
theorem L_eq {x y : Int} (hx : okL x) (hy : okL y) : Int64.ofInt x = Int64.ofInt y ↔ x = y := ⟨fun h => by rw [← toL hx, ← toL hy, h], fun h => by rw [h]⟩
theorem L_lt {x y : Int} (hx : okL x) (hy : okL y) : Int64.ofInt x < Int64.ofInt y ↔ x < y := by rw [Int64.lt_iff_toInt_lt, toL hx, toL hy]
theorem okI_0 : okI 0 := ⟨by omega, by omega⟩
theorem I_clamp {x : Int} (h : okI x) : (Int32.ofInt x).toNatClampNeg = x.toNat := by
  show (Int32.ofInt x).toInt.toNat = x.toNat
  rw [toI h]
theorem I_in {x : Int} {n : Nat} (h : okI x) (h0 : 0 ≤ x) (hn : x < (n : Int)) : vp_in (Int32.ofInt x) n := by
  rw [vp_in_iff, toI h]
  exact ⟨h0, hn⟩
theorem I_div {x y : Int} (hx : okI x) (hy : okI y) : Int32.ofInt x / Int32.ofInt y = Int32.ofInt (wr (x.tdiv y)) := by
  apply Int32.toInt_inj.mp
  rw [Int32.toInt_div, toI hx, toI hy, toI (wr_ok _)]
  rfl
theorem tmod_ok {x y : Int} (hx : okI x) : okI (x.tmod y) := by
  unfold okI at *
  have h0 : (x.tmod y).natAbs ≤ x.natAbs := by rw [Int.natAbs_tmod]; exact Nat.mod_le _ _
  rcases Int.lt_or_le x 0 with h | h
  · have h1 := Int.tmod_nonneg y (show 0 ≤ -x by omega)
    rw [Int.neg_tmod] at h1
    omega
  · have h1 := Int.tmod_nonneg y h
    omega
theorem tmodL_ok {x y : Int} (hx : okL x) : okL (x.tmod y) := by
  unfold okL at *
  have h0 : (x.tmod y).natAbs ≤ x.natAbs := by rw [Int.natAbs_tmod]; exact Nat.mod_le _ _
  rcases Int.lt_or_le x 0 with h | h
  · have h1 := Int.tmod_nonneg y (show 0 ≤ -x by omega)
    rw [Int.neg_tmod] at h1
    omega
  · have h1 := Int.tmod_nonneg y h
    omega
theorem I_rem {x y : Int} (hx : okI x) (hy : okI y) : Int32.ofInt x - Int32.ofInt x / Int32.ofInt y * Int32.ofInt y = Int32.ofInt (x.tmod y) := by
  rw [I_div hx hy, I_wr, ← Int32.ofInt_mul, ← Int32.ofInt_sub]
  congr 1
  have := Int.tdiv_mul_add_tmod x y
  omega
theorem L_div {x y : Int} (hx : okL x) (hy : okL y) : Int64.ofInt x / Int64.ofInt y = Int64.ofInt (wl (x.tdiv y)) := by
  apply Int64.toInt_inj.mp
  rw [Int64.toInt_div, toL hx, toL hy, toL (wl_ok _)]
  rfl
theorem L_rem {x y : Int} (hx : okL x) (hy : okL y) : Int64.ofInt x - Int64.ofInt x / Int64.ofInt y * Int64.ofInt y = Int64.ofInt (x.tmod y) := by
  rw [L_div hx hy, L_wl, ← Int64.ofInt_mul, ← Int64.ofInt_sub]
  congr 1
  have := Int.tdiv_mul_add_tmod x y
  omega
theorem I_i2l {x : Int} (h : okI x) : (Int32.ofInt x).toInt64 = Int64.ofInt x := by
  apply Int64.toInt_inj.mp
  rw [Int32.toInt_toInt64, toI h, toL ⟨by have := h.1; omega, by have := h.2; omega⟩]
theorem I_cmp {x y : Int} (hx : okL x) (hy : okL y) : lg_cmp (Int64.ofInt x) (Int64.ofInt y) = Int32.ofInt (if y < x then 1 else if x = y then 0 else -1) := by
  unfold lg_cmp
  simp only [gt_iff_lt, L_lt hy hx, L_eq hx hy]
  split
  · rfl
  · split <;> rfl
theorem I_8 {v : Int} (h : -128 ≤ v ∧ v ≤ 127) : (Int8.ofInt v).toInt32 = Int32.ofInt v := by
  apply Int32.toInt_inj.mp
  rw [Int8.toInt_toInt32, Int8.toInt_ofInt_of_le (by omega) (by omega), toI ⟨by omega, by omega⟩]
theorem I_16 {v : Int} (h : -32768 ≤ v ∧ v ≤ 32767) : (Int16.ofInt v).toInt32 = Int32.ofInt v := by
  apply Int32.toInt_inj.mp
  rw [Int16.toInt_toInt32, Int16.toInt_ofInt_of_le (by omega) (by omega), toI ⟨by omega, by omega⟩]
theorem L_nat (n : Nat) : Int64.ofNat n = Int64.ofInt (n : Int) := (Int64.ofInt_eq_ofNat).symm
theorem I_nat (n : Nat) : Int32.ofNat n = Int32.ofInt (n : Int) := (Int32.ofInt_eq_ofNat).symm
/-! references and values -/
def okR (t r : Nat) : Prop := vld t r ∨ ((t = 30 ∨ t = 31) ∧ r < 8) ∨ (t = 32 ∧ r = 0) ∨ t = 33 ∨ t = 99
def okV : AV → Prop
  | .inl x => okI x
  | .inr (.inl (t, r)) => okR t r
  | .inr (.inr w) => okL w
def okS (σ : St) : Prop := ∀ t r k, okI (σ t r k)
def cvv (ad : Nat → Nat → Nat) (vF : Value) : AV → Value
  | .inl x => .int (Int32.ofInt x)
  | .inr (.inl (t, r)) => if t = 33 then vF else .ref (ad t r)
  | .inr (.inr w) => .long (Int64.ofInt w)
def okF (vF : Value) : Prop := vF = .null ∨ ∃ q, vF = .ref q
theorem cvv_cat {ad : Nat → Nat → Nat} {vF : Value} (hF : okF vF) (v : AV) : (cvv ad vF v).category = if isLg v = true then 2 else 1 := by
  rcases v with x | ⟨t, r⟩ | w
  · rfl
  · show (if t = 33 then vF else .ref (ad t r) : Value).category = 1
    split
    · rcases hF with h | ⟨q, h⟩ <;> rw [h] <;> rfl
    · rfl
  · rfl
theorem cvv_sum {ad : Nat → Nat → Nat} {vF : Value} (hF : okF vF) (st : List AV) : ((st.map (cvv ad vF)).map fun v => v.category).sum = catS st := by
  induction st with
  | nil => rfl
  | cons v l ih => rw [List.map_cons, List.map_cons, List.sum_cons, ih, cvv_cat hF]; rfl
/-! locals -/
def lvo (ad : Nat → Nat → Nat) (vF : Value) : Nat → List AV → List (Nat × Value)
  | _, [] => []
  | i, v :: l => if isU v = true then lvo ad vF (i + 1) l else (i, cvv ad vF v) :: lvo ad vF (i + 1) l
theorem lvo_mem {ad : Nat → Nat → Nat} {vF : Value} {q : Nat × Value} : ∀ {ls : List AV} {i : Nat}, q ∈ lvo ad vF i ls ↔ ∃ j v, ls[j]? = some v ∧ isU v = false ∧ q = (i + j, cvv ad vF v) := by
  intro ls
  induction ls with
  | nil => intro i; simp [lvo]
  | cons v l ih =>
    intro i
    unfold lvo
    constructor
    · intro h
      by_cases hu : isU v = true
      · rw [if_pos hu] at h
        obtain ⟨j, w, h1, h2, h3⟩ := ih.mp h
        exact ⟨j + 1, w, by simpa using h1, h2, by rw [h3]; congr 1; omega⟩
      · rw [if_neg hu] at h
        rcases List.mem_cons.mp h with h | h
        · exact ⟨0, v, rfl, by simpa using hu, h⟩
        · obtain ⟨j, w, h1, h2, h3⟩ := ih.mp h
          exact ⟨j + 1, w, by simpa using h1, h2, by rw [h3]; congr 1; omega⟩
    · rintro ⟨j, w, h1, h2, h3⟩
      cases j with
      | zero =>
        have e : v = w := by simpa using h1
        subst e
        rw [if_neg (by rw [h2]; decide), h3]
        exact List.mem_cons_self
      | succ j =>
        have hm : q ∈ lvo ad vF (i + 1) l := ih.mpr ⟨j, w, by simpa using h1, h2, by rw [h3]; congr 1; omega⟩
        split
        · exact hm
        · exact List.mem_cons_of_mem _ hm
def LR (ad : Nat → Nat → Nat) (vF : Value) (n : Nat) (ls : List AV) (lsM : Array Slot) : Prop := ls.length = n ∧ lv_has lsM n (lvo ad vF 0 ls)
theorem LR.at {ad : Nat → Nat → Nat} {vF : Value} {n : Nat} {ls : List AV} {lsM : Array Slot} (h : LR ad vF n ls lsM) {i : Nat} {v : AV} (hi : ls[i]? = some v) (hu : isU v = false) : lsM[i]? = some (.val (cvv ad vF v)) :=
  h.2.2.2 (i, cvv ad vF v) (lvo_mem.mpr ⟨i, v, hi, hu, by rw [Nat.zero_add]⟩)
theorem lv_mono {lsM : Array Slot} {n : Nat} {l l' : List (Nat × Value)} (h : lv_has lsM n l) (hm : ∀ q ∈ l', q ∈ l) : lv_has lsM n l' := ⟨h.1, h.2.1, fun q hq => h.2.2 q (hm q hq)⟩
theorem stl_len (ls : List AV) (i : Nat) (v : AV) : (stl ls i v).length = ls.length := by
  unfold stl
  split
  · simp
  · split <;> simp
theorem stl_get {ls : List AV} {i : Nat} {v w : AV} {j : Nat} (h : (stl ls i v)[j]? = some w) (hu : isU w = false) : (j = i ∧ w = v) ∨ (j ≠ i ∧ ls[j]? = some w ∧ ¬ (j + 1 = i ∧ isLg w = true)) := by
  unfold stl at h
  cases i with
  | zero =>
    simp only at h
    rw [List.getElem?_set] at h
    by_cases e : 0 = j
    · rw [if_pos e] at h
      split at h
      · left; exact ⟨e.symm, (Option.some.inj h).symm⟩
      · cases h
    · rw [if_neg e] at h
      right; exact ⟨fun q => e q.symm, h, fun q => by omega⟩
  | succ i =>
    simp only at h
    rw [List.getElem?_set] at h
    by_cases e : i + 1 = j
    · rw [if_pos e] at h
      by_cases z : i + 1 < (if isLg (ls.getD i uns) = true then ls.set i uns else ls).length
      · rw [if_pos z] at h
        left; exact ⟨e.symm, (Option.some.inj h).symm⟩
      · rw [if_neg z] at h
        cases h
    · rw [if_neg e] at h
      right
      refine ⟨fun q => e q.symm, ?_⟩
      by_cases hl : isLg (ls.getD i uns) = true
      · rw [if_pos hl, List.getElem?_set] at h
        by_cases e2 : i = j
        · rw [if_pos e2] at h
          split at h
          · have e3 := Option.some.inj h
            rw [← e3] at hu
            cases hu
          · cases h
        · rw [if_neg e2] at h
          exact ⟨h, fun q => by omega⟩
      · rw [if_neg hl] at h
        refine ⟨h, fun q => hl ?_⟩
        have e2 : i = j := by omega
        rw [e2, List.getD_eq_getElem?_getD, h]
        exact q.2
theorem LR.st1 {ad : Nat → Nat → Nat} {vF : Value} (hF : okF vF) {n : Nat} {ls : List AV} {lsM lsM' : Array Slot} (h : LR ad vF n ls lsM) {i : Nat} {v : AV} (hk : lv_has lsM' n ((i, cvv ad vF v) :: (lvo ad vF 0 ls).filter (fun q => !(q.1 == i) && !(q.1 + 1 == i && q.2.category == 2)))) : LR ad vF n (stl ls i v) lsM' := by
  refine ⟨(stl_len ls i v).trans h.1, lv_mono hk fun q hq => ?_⟩
  obtain ⟨j, w, h1, h2, h3⟩ := lvo_mem.mp hq
  rw [Nat.zero_add] at h3
  rcases stl_get h1 h2 with ⟨e1, e2⟩ | ⟨e1, e2, e3⟩
  · rw [h3, e1, e2]; exact List.mem_cons_self
  · refine List.mem_cons_of_mem _ (List.mem_filter.mpr ⟨lvo_mem.mpr ⟨j, w, e2, h2, by rw [h3, Nat.zero_add]⟩, ?_⟩)
    rw [h3]
    simp only [Bool.and_eq_true, Bool.not_eq_true', beq_eq_false_iff_ne, ne_eq, Bool.and_eq_false_iff]
    refine ⟨e1, ?_⟩
    by_cases q : j + 1 = i
    · right
      rw [cvv_cat hF]
      rw [if_neg (fun z => e3 ⟨q, z⟩)]
      decide
    · left; exact q
theorem LR.st2 {ad : Nat → Nat → Nat} {vF : Value} (hF : okF vF) {n : Nat} {ls : List AV} {lsM lsM' : Array Slot} (h : LR ad vF n ls lsM) {i : Nat} {v : AV} (hk : lv_has lsM' n ((i, cvv ad vF v) :: (lvo ad vF 0 ls).filter (fun q => !(q.1 == i) && (!(q.1 == i + 1) && !(q.1 + 1 == i && q.2.category == 2))))) : LR ad vF n ((stl ls i v).set (i + 1) uns) lsM' := by
  refine ⟨by rw [List.length_set]; exact (stl_len ls i v).trans h.1, lv_mono hk fun q hq => ?_⟩
  obtain ⟨j, w, h1, h2, h3⟩ := lvo_mem.mp hq
  rw [Nat.zero_add] at h3
  rw [List.getElem?_set] at h1
  by_cases ej : i + 1 = j
  · rw [if_pos ej] at h1
    split at h1
    · have e3 := Option.some.inj h1
      rw [← e3] at h2
      cases h2
    · cases h1
  · rw [if_neg ej] at h1
    rcases stl_get h1 h2 with ⟨e1, e2⟩ | ⟨e1, e2, e3⟩
    · rw [h3, e1, e2]; exact List.mem_cons_self
    · refine List.mem_cons_of_mem _ (List.mem_filter.mpr ⟨lvo_mem.mpr ⟨j, w, e2, h2, by rw [h3, Nat.zero_add]⟩, ?_⟩)
      rw [h3]
      simp only [Bool.and_eq_true, Bool.not_eq_true', beq_eq_false_iff_ne, ne_eq, Bool.and_eq_false_iff]
      refine ⟨e1, fun z => ej z.symm, ?_⟩
      by_cases q : j + 1 = i
      · right
        rw [cvv_cat hF]
        rw [if_neg (fun z => e3 ⟨q, z⟩)]
        decide
      · left; exact q
theorem stl_ok {ls : List AV} {i : Nat} {v : AV} (hl : ∀ w ∈ ls, okV w) (hv : okV v) : ∀ w ∈ stl ls i v, okV w := by
  have hu : okV uns := Or.inr (Or.inr (Or.inr (Or.inr rfl)))
  have hset : ∀ (l : List AV) (k : Nat) (x : AV), (∀ w ∈ l, okV w) → okV x → ∀ w ∈ l.set k x, okV w := fun l k x h1 h2 w hw => by
    rcases List.mem_or_eq_of_mem_set hw with h | h
    · exact h1 w h
    · rw [h]; exact h2
  unfold stl
  split
  · exact hset _ _ _ hl hv
  · split
    · exact hset _ _ _ (hset _ _ _ hl hu) hv
    · exact hset _ _ _ hl hv
theorem set_ok {ls : List AV} {i : Nat} (hl : ∀ w ∈ ls, okV w) : ∀ w ∈ ls.set i uns, okV w := fun w hw => by
  rcases List.mem_or_eq_of_mem_set hw with h | h
  · exact hl w h
  · rw [h]; exact Or.inr (Or.inr (Or.inr (Or.inr rfl)))
