/-! the world: 44 cells -/
def celF (ad : Nat → Nat → Nat) (σ : St) (t r k : Nat) (sp : FD) : Value := match sp with
  | .inl _ => .int (Int32.ofInt (σ t r k))
  | .inr (t', rr) => .ref (ad t' (rr.getD r))
def cel (cA : ClassId) (ad : Nat → Nat → Nat) (σ : St) (t r : Nat) : va_E := if alen t = 0 then .inr (ocl t, (fds t).mapIdx (celF ad σ t r)) else .inl (cA, (alen t, .inl (fun j => Int32.ofInt (σ t r j))))
def wld (cA : ClassId) (ad : Nat → Nat → Nat) (σ : St) : va_W := wlst.map fun q => (ad q.1 q.2, cel cA ad σ q.1 q.2)
theorem wld_at {cA : ClassId} {ad : Nat → Nat → Nat} {σ : St} {t r : Nat} (h : vld t r) : (wld cA ad σ)[wpos t r]? = some (ad t r, cel cA ad σ t r) := by
  unfold wld
  rw [List.getElem?_map, h]
  rfl
theorem wpos_all : ∀ i, i < 44 → ∀ q, wlst[i]? = some q → wpos q.1 q.2 = i := by
  have h : (List.range 44).all (fun i => match wlst[i]? with | some q => wpos q.1 q.2 == i | none => true) = true := by decide +kernel
  intro i hi q hq
  have h1 := List.all_eq_true.mp h i (List.mem_range.mpr hi)
  rw [hq] at h1
  simpa using h1
theorem wlst_pos {i : Nat} {q : Nat × Nat} (hq : wlst[i]? = some q) : wpos q.1 q.2 = i := wpos_all i (by have := (List.getElem?_eq_some_iff.mp hq).1; exact this) q hq
theorem cel_congr {cA : ClassId} {ad : Nat → Nat → Nat} {σ σ' : St} {t r : Nat} (h : ∀ k, σ' t r k = σ t r k) : cel cA ad σ' t r = cel cA ad σ t r := by
  have e1 : celF ad σ' t r = celF ad σ t r := by
    funext k sp
    rcases sp with n | ⟨t', rr⟩
    · show Value.int _ = Value.int _; rw [h]
    · rfl
  have e2 : (fun j => Int32.ofInt (σ' t r j)) = fun j => Int32.ofInt (σ t r j) := by funext j; rw [h]
  unfold cel
  rw [e1, e2]
theorem wld_set {cA : ClassId} {ad : Nat → Nat → Nat} {σ σ' : St} {t r : Nat} (h : vld t r) (hσ : ∀ t' r', ¬ (t' = t ∧ r' = r) → ∀ k, σ' t' r' k = σ t' r' k) : (wld cA ad σ).set (wpos t r) (ad t r, cel cA ad σ' t r) = wld cA ad σ' := by
  refine List.ext_getElem? fun i => ?_
  rw [List.getElem?_set]
  have hl : wpos t r < (wld cA ad σ).length := by
    have := (List.getElem?_eq_some_iff.mp h).1
    unfold wld; rw [List.length_map]; exact this
  by_cases e : wpos t r = i
  · rw [if_pos e, if_pos (e ▸ hl), ← e, wld_at h]
  · rw [if_neg e]
    unfold wld
    rw [List.getElem?_map, List.getElem?_map]
    cases hq : wlst[i]? with
    | none => rfl
    | some q =>
      show some (ad q.1 q.2, cel cA ad σ q.1 q.2) = some (ad q.1 q.2, cel cA ad σ' q.1 q.2)
      rw [cel_congr (hσ q.1 q.2 fun z => e (by rw [← z.1, ← z.2]; exact wlst_pos hq))]
theorem vld_lt {t r : Nat} (h : vld t r) : t < 23 := by
  have h1 : wlst.all (fun q => Nat.blt q.1 23) = true := by decide +kernel
  have h2 := List.all_eq_true.mp h1 (t, r) (List.mem_of_getElem? h)
  exact Nat.le_of_ble_eq_true h2
/-- references out of fields are valid -/
theorem fd_vld {t r k t' : Nat} {rr : Option Nat} (h : vld t r) (hk : (fds t)[k]? = some (.inr (t', rr))) : vld t' (rr.getD r) := by
  have h1 : wlst.all (fun q => (fds q.1).all (fun sp => match sp with | .inl _ => true | .inr (t', rr) => decide (wlst[wpos t' (rr.getD q.2)]? = some (t', rr.getD q.2)))) = true := by decide +kernel
  have h2 := List.all_eq_true.mp h1 (t, r) (List.mem_of_getElem? h)
  have h3 := List.all_eq_true.mp h2 _ (List.mem_of_getElem? hk)
  have h4 : wlst[wpos t' (rr.getD r)]? = some (t', rr.getD r) := of_decide_eq_true h3
  exact h4
theorem fd_obj {t k : Nat} {sp : FD} (h : (fds t)[k]? = some sp) : alen t = 0 := by
  have h1 : ∀ t, t < 17 → ((fds t).isEmpty || alen t == 0) = true := by decide +kernel
  by_cases ht : t < 17
  · have h2 := h1 t ht
    cases e : fds t with
    | nil => rw [e] at h; cases h
    | cons a l => rw [e] at h2; simpa using h2
  · have e : fds t = [] := by
      unfold fds
      rw [List.getD_eq_getElem?_getD, List.getElem?_eq_none (by show fdT.length ≤ t; have : fdT.length = 17 := rfl; omega)]
      rfl
    rw [e] at h; cases h
theorem okR_obj {t r : Nat} (h : okR t r) (hk : ocl t < 5) : vld t r := by
  have hn : ∀ t, 23 ≤ t → ocl t = 9 := fun t ht => by
    unfold ocl
    rw [List.getD_eq_getElem?_getD, List.getElem?_eq_none (by have : ocT.length = 17 := rfl; omega)]
    rfl
  rcases h with h | h | h | h | h
  · exact h
  · rw [hn t (by omega)] at hk; omega
  · rw [hn t (by omega)] at hk; omega
  · rw [hn t (by omega)] at hk; omega
  · rw [hn t (by omega)] at hk; omega
theorem alen_big {t : Nat} (h : 23 ≤ t) : alen t = 0 := by
  unfold alen
  rw [List.getD_eq_getElem?_getD, List.getElem?_eq_none (by have : alT.length = 23 := rfl; omega)]
  rfl
theorem okR_arr {t r : Nat} (h : okR t r) (hk : alen t ≠ 0) : vld t r := by
  rcases h with h | h | h | h | h
  · exact h
  · exact absurd (alen_big (by omega)) hk
  · exact absurd (alen_big (by omega)) hk
  · exact absurd (alen_big (by omega)) hk
  · exact absurd (alen_big (by omega)) hk
theorem cel_arr {cA : ClassId} {ad : Nat → Nat → Nat} {σ : St} {t r : Nat} (h : alen t ≠ 0) : cel cA ad σ t r = .inl (cA, (alen t, .inl (fun j => Int32.ofInt (σ t r j)))) := by unfold cel; rw [if_neg h]
theorem cel_obj {cA : ClassId} {ad : Nat → Nat → Nat} {σ : St} {t r : Nat} (h : alen t = 0) : cel cA ad σ t r = .inr (ocl t, (fds t).mapIdx (celF ad σ t r)) := by unfold cel; rw [if_pos h]
theorem up_ne {σ : St} {t r k : Nat} {v : Int} : ∀ t' r', ¬ (t' = t ∧ r' = r) → ∀ j, up σ t r k v t' r' j = σ t' r' j := by
  intro t' r' h j
  unfold up
  rw [if_neg (fun z => h ⟨z.1, z.2.1⟩)]
theorem cpy_ne {σ : St} {t0 r0 sp t r dp n : Nat} : ∀ t' r', ¬ (t' = t ∧ r' = r) → ∀ j, cpy σ t0 r0 sp t r dp n t' r' j = σ t' r' j := by
  intro t' r' h j
  unfold cpy
  rw [if_neg (fun z => h ⟨z.1, z.2.1⟩)]
def strB32 : List (List Int32) := strB.map fun l => l.map Int32.ofInt
theorem strB32_at (i j : Nat) : (strB32.getD i []).getD j 0 = Int32.ofInt (sbyt i j) := by
  unfold strB32 sbyt
  rw [List.getD_eq_getElem?_getD, List.getD_eq_getElem?_getD (l := List.map _ _), List.getElem?_map, List.getD_eq_getElem?_getD, List.getD_eq_getElem?_getD (l := strB)]
  cases strB[i]? with
  | none => rfl
  | some l =>
    show (List.map Int32.ofInt l)[j]?.getD 0 = Int32.ofInt (l[j]?.getD 0)
    rw [List.getElem?_map]
    cases l[j]? with
    | none => rfl
    | some x => rfl
theorem sbyt_ok (i j : Nat) : okI (sbyt i j) := by
  have h1 : strB.all (fun l => l.all (fun x => decide (-2147483648 ≤ x ∧ x < 2147483648))) = true := by decide +kernel
  unfold sbyt
  rw [List.getD_eq_getElem?_getD, List.getD_eq_getElem?_getD]
  cases h2 : strB[i]? with
  | none => exact okI_0
  | some l =>
    show okI (l[j]?.getD 0)
    cases h3 : l[j]? with
    | none => exact okI_0
    | some x =>
      have h4 : -2147483648 ≤ x ∧ x < 2147483648 := of_decide_eq_true (List.all_eq_true.mp (List.all_eq_true.mp h1 l (List.mem_of_getElem? h2)) x (List.mem_of_getElem? h3))
      exact h4
theorem slen_ok : ∀ i, i < 8 → slen i < 100 := by decide +kernel
/-- what holds of the store behind the heap -/
def WP (D : va_G) (cA : ClassId) (ad : Nat → Nat → Nat) (L : Nat) (xs : Nat → Int32) (σ : St) (H : Heap) : Prop :=
  va_P D vwC (wld cA ad σ) H ∧ (∀ j : Nat, j < L → σ 32 0 j = (xs j).toInt) ∧ σ 32 1 0 = (L : Int) ∧ okS σ
/-- what is fixed while the machine runs -/
def Evn (D : va_G) (cA : ClassId) (ad : Nat → Nat → Nat) (vF : Value) (L : Nat) (xs : Nat → Int32) (A : Nat → Prop) (U : State) : Prop :=
  va_K D vwC [(cA, .int)] U ∧ vk_S 8 strL strB32 (ad 30) (ad 31) A U U.heap ∧ (∀ k, k < 8 → vk_R RX0 (strI.getD k 0) (strX.getD k "") (ad 30 k) U) ∧
  va_Z "java/lang/String" "COMPACT_STRINGS" "Z" (.int 1) A U U.heap ∧ va_Z "jdk/internal/util/Preconditions" "SIOOBE_FORMATTER" "Ljava/util/function/BiFunction;" vF A U U.heap ∧
  (∀ q ∈ nsT, va_Nw (.methodLinkNest (cN q.1) q.2.1 (mN q.2.2) RX4) U) ∧ va_X (ad 32 0) L xs U U.heap ∧ ad 32 0 < U.heap.size ∧ ¬ A (ad 32 0)
/-- the addresses -/
def AdOK (ad : Nat → Nat → Nat) (vF : Value) (L : Nat) : Prop := (∀ t r t' r', vld t r → vld t' r' → ad t r = ad t' r' → t = t' ∧ r = r') ∧ okF vF ∧ L ≤ 3072
def AdIn (ad : Nat → Nat → Nat) (A : Nat → Prop) : Prop := ∀ t r, vld t r → A (ad t r)
/-- the world's own cells -/
def Aw (ad : Nat → Nat → Nat) : Nat → Prop := fun q => ∃ t r, vld t r ∧ q = ad t r
theorem AdIn.self {ad : Nat → Nat → Nat} : AdIn ad (Aw ad) := fun t r h => ⟨t, r, h, rfl⟩
theorem AdIn.le {ad : Nat → Nat → Nat} {A : Nat → Prop} (h : AdIn ad A) : ∀ q, Aw ad q → A q := fun q ⟨t, r, h1, h2⟩ => h2 ▸ h t r h1
theorem wld_D {cA : ClassId} {ad : Nat → Nat → Nat} {vF : Value} {L : Nat} {A : Nat → Prop} (O : AdOK ad vF L) (hA : AdIn ad A) (σ : St) : va_D A (wld cA ad σ) := by
  have key : ∀ (i : Nat) (p : Nat × va_E), (wld cA ad σ)[i]? = some p → ∃ q, wlst[i]? = some q ∧ p.1 = ad q.1 q.2 := by
    intro i p hp
    unfold wld at hp
    rw [List.getElem?_map] at hp
    cases hq : wlst[i]? with
    | none => rw [hq] at hp; cases hp
    | some q => rw [hq] at hp; cases hp; exact ⟨q, rfl, rfl⟩
  have vl : ∀ {i : Nat} {q : Nat × Nat}, wlst[i]? = some q → vld q.1 q.2 := fun {i q} hq => by
    unfold vld; rw [wlst_pos hq]; exact hq
  refine ⟨fun i j p q hp hq e => ?_, fun k q hq => ?_⟩
  · obtain ⟨a, ha, ea⟩ := key i p hp
    obtain ⟨b, hb, eb⟩ := key j q hq
    obtain ⟨e1, e2⟩ := O.1 a.1 a.2 b.1 b.2 (vl ha) (vl hb) (by rw [← ea, ← eb, e])
    rw [← wlst_pos ha, ← wlst_pos hb, e1, e2]
  · obtain ⟨a, ha, ea⟩ := key k q hq
    rw [ea]
    exact hA _ _ (vl ha)
theorem Evn.move {D : va_G} {cA : ClassId} {ad : Nat → Nat → Nat} {vF : Value} {L : Nat} {xs : Nat → Int32} {A B : Nat → Prop} {s U : State} (h : Evn D cA ad vF L xs A s) (hW : s.WarmedH U.vm) (hz : s.heap.size ≤ U.heap.size) (hq : ∀ q : Nat, q < s.heap.size → ¬ A q → U.heap[q]? = s.heap[q]?) (hB : ∀ q, B q → A q) : Evn D cA ad vF L xs B U := by
  obtain ⟨h1, h2, h3, h4, h5, h6, h7, h8, h9⟩ := h
  exact ⟨h1.moved hW.alike, (h2.kept hq).moved hW.alike |>.narrow hB, fun k hk => (h3 k hk).warm hW, ((h4.kept hq).moved hW.alike).narrow hB, ((h5.kept hq).moved hW.alike).narrow hB,
    fun q hm => va_Nw.warmM hW (h6 q hm), (h7.kept (hq _ h8 h9)).moved hW.alike, Nat.lt_of_lt_of_le h8 hz, fun z => h9 (hB _ z)⟩
theorem Evn.calling {D : va_G} {cA : ClassId} {ad : Nat → Nat → Nat} {vF : Value} {L : Nat} {xs : Nat → Int32} {A : Nat → Prop} {U : State} (a : Array Value) (g : JFrame) (mk : MethodId) (h : Evn D cA ad vF L xs A U) : Evn D cA ad vF L xs A (U.calling g mk a) := by
  obtain ⟨h1, h2, h3, h4, h5, h6, h7, h8, h9⟩ := h
  have al : U.vm.Alike (U.calling g mk a).vm := Vm.Alike.refl U.vm
  exact ⟨h1.moved al, h2.moved al, fun k hk => vk_R.same (u := U) rfl (h3 k hk), h4.moved al, h5.moved al, fun q hm => va_Nw.same rfl (u := U) rfl (h6 q hm), h7.moved al, h8, h9⟩
