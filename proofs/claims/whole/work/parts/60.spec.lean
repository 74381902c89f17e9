/-! THE SPEC: a row of 58 ints, as the reference keeps it -/
abbrev Rw : Type := Nat → Int
def wrt (R : Rw) (k : Nat) (v : Int) : Rw := fun j => if j = k then v else R j
theorem wrt_eq {R : Rw} {k j : Nat} {v : Int} (h : j = k) : wrt R k v j = v := if_pos h
theorem wrt_ne {R : Rw} {k j : Nat} {v : Int} (h : j ≠ k) : wrt R k v j = R j := if_neg h
def kd (R : Rw) (p : Int) : Int := R (3 + 3 * p + 0).toNat
def fg (R : Rw) (p : Int) : Int := R (3 + 3 * p + 1).toNat
def sg (R : Rw) (p : Int) : Int := R (3 + 3 * p + 2).toNat
def wt (R : Rw) (t : Int) : Int := R (18 + 4 * t + 0).toNat
def pl (R : Rw) (t : Int) : Int := R (18 + 4 * t + 1).toNat
def on (R : Rw) (t : Int) : Int := R (18 + 4 * t + 2).toNat
def uq (R : Rw) (t : Int) : Int := R (18 + 4 * t + 3).toNat
/-- the counts alone -/
def Iv0 (R : Rw) : Prop := 0 ≤ R 0 ∧ R 0 ≤ 5 ∧ 0 ≤ R 1 ∧ R 1 ≤ 10
/-- as a row may stand in mind: a thing that was taken away has the place -5 and is down -/
def Iv1 (R : Rw) : Prop := Iv0 R ∧ ∀ t, 0 ≤ t → t < R 1 → 1 ≤ wt R t ∧ wt R t ≤ 9 ∧ -5 ≤ pl R t ∧ pl R t ≤ 19 ∧ (uq R t = 0 ∨ uq R t = 1)
def IvP (R : Rw) : Prop := ∀ p, 0 ≤ p → p < R 0 → 0 ≤ kd R p ∧ kd R p ≤ 5 ∧ 0 ≤ fg R p ∧ fg R p ≤ 9 ∧ 0 ≤ sg R p ∧ sg R p ≤ 99
def IvT (R : Rw) : Prop := ∀ t, 0 ≤ t → t < R 1 → 1 ≤ wt R t ∧ wt R t ≤ 9 ∧ 0 ≤ pl R t ∧ pl R t ≤ 19 ∧ 0 ≤ on R t ∧ on R t < R 0 ∧ (uq R t = 0 ∨ uq R t = 1)
def IvD (R : Rw) : Prop := ∀ t t', 0 ≤ t → t < R 1 → 0 ≤ t' → t' < R 1 → pl R t = pl R t' → t = t'
def Iv (R : Rw) : Prop := Iv0 R ∧ IvP R ∧ IvT R ∧ IvD R
theorem Iv.to1 {R : Rw} (h : Iv R) : Iv1 R := ⟨h.1, fun t h0 h1 => by have := h.2.2.1 t h0 h1; omega⟩
/-- the thing in a place; -9 -/
def whoG (R : Rw) (c : Int) : Nat → Int → Int
  | 0, _ => -9
  | n + 1, t => if pl R t = c then t else whoG R c n (t + 1)
def whoF (R : Rw) (c : Int) : Int := whoG R c (R 1).toNat 0
/-- what leans on a purpose and is up, together: of the things below n -/
def loadG (R : Rw) (p : Int) : Nat → Int
  | 0 => 0
  | n + 1 => loadG R p n + (if uq R n = 1 ∧ on R n = p then wt R n else 0)
def loadF (R : Rw) (p : Int) : Int := loadG R p (R 1).toNat
def spareF (R : Rw) (p : Int) : Int := sg R p - loadF R p
def lessF (R : Rw) (p day : Int) : Int :=
  let f := fg R p
  let habit : Int := if day.tmod (f + 1) = 0 then 1 else 0
  let vow : Int := if sg R p < 50 then habit else 0
  if kd R p = 1 then habit else if kd R p = 2 then vow else if kd R p = 3 then vow + f.tdiv 3 else if kd R p = 4 then 1 + f else if kd R p = 5 then (if 0 < loadF R p then 2 * (1 + f) else 0) else 1
/-- a fall: the row behind it, and how many -/
def fellM : Nat → Rw → Int → Int → Int → Rw × Int
  | 0, R, _, _, n => (R, n)
  | k + 1, R, t, w, n => if t < 0 then (R, n) else if uq R t = 1 then (if w < wt R t then (R, n) else fellM k (wrt R (18 + 4 * t + 3).toNat 0) (whoF (wrt R (18 + 4 * t + 3).toNat 0) (pl R t + 1)) (wt R t) (n + 1)) else (R, n)
def fellF (R : Rw) (t : Int) : Rw × Int := fellM 26 R t (wt R t) 0
/-- the heaviest on a purpose, of several that of the least place -/
def heavG (R : Rw) (p : Int) : Nat → Int → Int → Int
  | 0, _, f => f
  | n + 1, t, f => heavG R p n (t + 1) (if uq R t = 1 ∧ on R t = p then (if f < 0 then t else if 0 < wt R t - wt R f then t else if wt R t - wt R f = 0 ∧ pl R t < pl R f then t else f) else f)
def heavF (R : Rw) (p : Int) : Int := heavG R p (R 1).toNat 0 (-9)
/-- the strengths of a day, by what is told of the row as the day began -/
def wkG (R0 : Rw) : Nat → Rw → Rw
  | 0, R => R
  | n + 1, R => let R' := wkG R0 n R; wrt R' (3 + 3 * (n : Int) + 2).toNat (if 0 < sg R' n - lessF R0 n (R0 2) then sg R' n - lessF R0 n (R0 2) else 0)
def flG : Nat → Rw → Rw
  | 0, R => R
  | n + 1, R => let R' := flG n R; if spareF R' n < 0 then (if heavF R' n < 0 then R' else (fellF R' (heavF R' n)).1) else R'
def dayF (R : Rw) : Rw := let R0 := wrt R 2 (R 2 + 1); let R1 := wkG R0 (R 0).toNat R0; flG (R 0).toNat R1
def daysF : Nat → Rw → Rw
  | 0, R => R
  | n + 1, R => daysF n (dayF R)
/-- who is up, as bits: of the things below n -/
def upG (R : Rw) : Nat → Nat
  | 0 => 0
  | n + 1 => upG R n ||| (if uq R n = 1 then 2 ^ n else 0)
def upF (R : Rw) : Nat := upG R (R 1).toNat
def pcG (x : Nat) : Nat → Nat
  | 0 => 0
  | n + 1 => pcG x n + (if x.testBit n = true then 1 else 0)
/-- how many bits of the first ten -/
def pc10 (x : Nat) : Nat := pcG x 10
/-! rows in the store -/
def setR (σ : St) (q : Nat) (R : Rw) : St := fun t r k => if t = 17 ∧ r = q then R k else σ t r k
theorem setR_at (σ : St) (q : Nat) (R : Rw) : setR σ q R 17 q = R := by funext k; unfold setR; rw [if_pos ⟨rfl, rfl⟩]
theorem setR_tag (σ : St) (q : Nat) (R : Rw) {t : Nat} (h : t ≠ 17) : setR σ q R t = σ t := by funext r k; unfold setR; rw [if_neg (fun z => h z.1)]
theorem setR_in (σ : St) (q : Nat) (R : Rw) {r : Nat} (h : r ≠ q) : setR σ q R 17 r = σ 17 r := by funext k; unfold setR; rw [if_neg (fun z => h z.2)]
theorem setR_set (σ : St) (q : Nat) (R R' : Rw) : setR (setR σ q R) q R' = setR σ q R' := by
  funext t r k
  unfold setR
  split <;> rfl
theorem setR_self (σ : St) (q : Nat) : setR σ q (σ 17 q) = σ := by
  funext t r k
  unfold setR
  split
  · rename_i h; rw [h.1, h.2]
  · rfl
theorem up17 (σ : St) (q k : Nat) (v : Int) : up σ 17 q k v = setR σ q (wrt (σ 17 q) k v) := by
  funext t r j
  unfold up setR wrt
  by_cases h : t = 17 ∧ r = q
  · obtain ⟨rfl, rfl⟩ := h
    simp
  · rw [if_neg (fun z => h ⟨z.1, z.2.1⟩), if_neg h]
theorem up17s (σ : St) (q : Nat) (R : Rw) (k : Nat) (v : Int) : up (setR σ q R) 17 q k v = setR σ q (wrt R k v) := by rw [up17, setR_at, setR_set]
theorem whoG_s (R : Rw) (c : Int) (n : Nat) (t : Int) : whoG R c (n + 1) t = if pl R t = c then t else whoG R c n (t + 1) := rfl
theorem loadG_s (R : Rw) (p : Int) (n : Nat) : loadG R p (n + 1) = loadG R p n + (if uq R n = 1 ∧ on R n = p then wt R n else 0) := rfl
theorem heavG_s (R : Rw) (p : Int) (n : Nat) (t f : Int) : heavG R p (n + 1) t f = heavG R p n (t + 1) (if uq R t = 1 ∧ on R t = p then (if f < 0 then t else if 0 < wt R t - wt R f then t else if wt R t - wt R f = 0 ∧ pl R t < pl R f then t else f) else f) := rfl
theorem upG_s (R : Rw) (n : Nat) : upG R (n + 1) = upG R n ||| (if uq R n = 1 then 2 ^ n else 0) := rfl
theorem pcG_s (x n : Nat) : pcG x (n + 1) = pcG x n + (if x.testBit n = true then 1 else 0) := rfl
theorem wkG_s (R0 : Rw) (n : Nat) (R : Rw) : wkG R0 (n + 1) R = wrt (wkG R0 n R) (3 + 3 * (n : Int) + 2).toNat (if 0 < sg (wkG R0 n R) n - lessF R0 n (R0 2) then sg (wkG R0 n R) n - lessF R0 n (R0 2) else 0) := rfl
theorem flG_s (n : Nat) (R : Rw) : flG (n + 1) R = if spareF (flG n R) n < 0 then (if heavF (flG n R) n < 0 then flG n R else (fellF (flG n R) (heavF (flG n R) n)).1) else flG n R := rfl
theorem daysF_s (n : Nat) (R : Rw) : daysF (n + 1) R = daysF n (dayF R) := rfl
