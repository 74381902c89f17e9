theorem vw_at : ∀ o, o < 5 → vwC[o]? = some (vwD o) := fun o ho => by rcases o with _ | _ | _ | _ | _ | o <;> first | rfl | omega
theorem wu_all : ∀ o, o < 5 → ∀ w ∈ u_ws (vwD o).1 (vwD o).2.1 (vwD o).2.2, w ∈ lwg := fun o ho => by
  have key : ∀ {l : List Cond}, l.all (fun w => decide (w ∈ lwg)) = true → ∀ w ∈ l, w ∈ lwg := fun h w hw => of_decide_eq_true (List.all_eq_true.mp h w hw)
  rcases o with _ | _ | _ | _ | _ | o
  · exact key wu_RX0
  · exact key wu_RX1
  · exact key wu_RX2
  · exact key wu_RX4
  · exact key wu_RX5
  · omega
theorem vw_ty : ∀ o, o < 5 → ∃ ty0 : Nat → FieldType, (∀ k, k < (vwD o).2.2 → parseFieldDescriptor ((vwD o).2.1 k).2.2.1 = some (ty0 k)) ∧ (∀ a, a < (vwD o).2.2 → ∀ b, b < (vwD o).2.2 → a ≠ b → ((vwD o).2.1 a).2.1 ≠ ((vwD o).2.1 b).2.1) := fun o ho => by
  rcases o with _ | _ | _ | _ | _ | o
  · exact ⟨tyX0, tyX0_ok, nmX0⟩
  · exact ⟨tyX1, tyX1_ok, nmX1⟩
  · exact ⟨tyX2, tyX2_ok, nmX2⟩
  · exact ⟨tyX4, tyX4_ok, nmX4⟩
  · exact ⟨tyX5, tyX5_ok, nmX5⟩
  · omega
theorem okR_str {t r : Nat} (h : okR t r) (ht : t = 30 ∨ t = 31) : r < 8 := by
  rcases h with h | h | h | h | h
  · have := vld_lt h; omega
  · exact h.2
  · omega
  · omega
  · omega
theorem getD_lt {α : Type} {t : List (List (Nat × α))} {cc idx : Nat} {v : α} (h : (t.getD cc []).lookup idx = some v) : cc < t.length := by
  rcases Nat.lt_or_ge cc t.length with q | q
  · exact q
  · rw [List.getD_eq_getElem?_getD, List.getElem?_eq_none q] at h; cases h
theorem fk_spec {cc idx o kf ps : Nat} (h : (fkT.getD cc []).lookup idx = some (o, (kf, ps))) : Cond.fieldLink (cN cc) idx ((vwD o).2.1 kf).1 ((vwD o).2.1 kf).2.1 ((vwD o).2.1 kf).2.2.1 ∈ lwg ∧ kf < (vwD o).2.2 ∧ o < 5 := by
  have h1 := List.all_eq_true.mp (List.all_eq_true.mp wFld_ok cc (List.mem_range.mpr (getD_lt h))) _ (lookup_in _ h)
  unfold wFld at h1
  rw [Bool.and_eq_true, Bool.and_eq_true] at h1
  exact ⟨wAt_in h1.1.1, Nat.le_of_ble_eq_true h1.1.2, Nat.le_of_ble_eq_true h1.2⟩
theorem ck_spec {cc idx ps : Nat} {v : Int} (h : (ckT.getD cc []).lookup idx = some (v, ps)) : Cond.constant (cN cc) idx (Int32.ofInt v) ∈ lwg ∧ okI v := by
  have h1 := List.all_eq_true.mp (List.all_eq_true.mp wCst_ok cc (List.mem_range.mpr (getD_lt h))) _ (lookup_in _ h)
  rw [Bool.and_eq_true] at h1
  have h2 : -2147483648 ≤ v ∧ v < 2147483648 := of_decide_eq_true h1.2
  exact ⟨wAt_in h1.1, h2⟩
theorem cl_spec {cc idx ps : Nat} {v : Int} (h : (clT.getD cc []).lookup idx = some (v, ps)) : Cond.constantLong (cN cc) idx (Int64.ofInt v) ∈ lwg ∧ okL v := by
  have h1 := List.all_eq_true.mp (List.all_eq_true.mp wCsl_ok cc (List.mem_range.mpr (getD_lt h))) _ (lookup_in _ h)
  rw [Bool.and_eq_true] at h1
  have h2 : -9223372036854775808 ≤ v ∧ v < 9223372036854775808 := of_decide_eq_true h1.2
  exact ⟨wAt_in h1.1, h2⟩
theorem pm_spec {cc idx w ps : Nat} (h : (pmT.getD cc []).lookup idx = some (w, ps)) : Cond.methodLink (cN cc) idx (if w == 0 then Lib.Math.max.name else Lib.Math.min.name) ∈ lwg := by
  have h1 := List.all_eq_true.mp (List.all_eq_true.mp wPm_ok cc (List.mem_range.mpr (getD_lt h))) _ (lookup_in _ h)
  exact wAt_in h1
set_option maxRecDepth 100000 in
theorem wJs : (wAt 5205 (.fieldLink RJ0 9 "java/lang/String" "value" "[B") && wAt 5206 (.fieldLink RJ0 15 "java/lang/String" "coder" "B") && wAt 1178 (.fieldLink RJ0 38 "java/lang/String" "COMPACT_STRINGS" "Z") && wAt 1203 (.fieldLink RJ0 1053 "jdk/internal/util/Preconditions" "SIOOBE_FORMATTER" "Ljava/util/function/BiFunction;")) = true := by decide +kernel
theorem wJs_all : Cond.fieldLink RJ0 9 "java/lang/String" "value" "[B" ∈ lwg ∧ Cond.fieldLink RJ0 15 "java/lang/String" "coder" "B" ∈ lwg ∧ Cond.fieldLink RJ0 38 "java/lang/String" "COMPACT_STRINGS" "Z" ∈ lwg ∧ Cond.fieldLink RJ0 1053 "jdk/internal/util/Preconditions" "SIOOBE_FORMATTER" "Ljava/util/function/BiFunction;" ∈ lwg := by
  have h := wJs
  rw [Bool.and_eq_true, Bool.and_eq_true, Bool.and_eq_true] at h
  exact ⟨wAt_in h.1.1.1, wAt_in h.1.1.2, wAt_in h.1.2, wAt_in h.2⟩
/-- the objects' fields, as the tables have them -/
theorem fd_all : ((List.range 17).all fun t => (List.range 14).all fun k => match (fds t)[k]? with | some (.inl b) => decide (ocl t < 5) && decide (parseFieldDescriptor ((vwD (ocl t)).2.1 k).2.2.1 = some (if b == 0 then .int else .boolean)) && decide (((vwD (ocl t)).2.1 k).2.2.2 = false) | _ => true) = true := by decide +kernel
theorem fd_len : ((List.range 17).all fun t => decide ((fds t).length ≤ 14)) = true := by decide +kernel
theorem fd_spec {t k b : Nat} (h : (fds t)[k]? = some (.inl b)) : parseFieldDescriptor ((vwD (ocl t)).2.1 k).2.2.1 = some (if b == 0 then .int else .boolean) ∧ ((vwD (ocl t)).2.1 k).2.2.2 = false := by
  have ht : t < 17 := by
    rcases Nat.lt_or_ge t 17 with q | q
    · exact q
    · have e : fds t = [] := by
        unfold fds
        rw [List.getD_eq_getElem?_getD, List.getElem?_eq_none (by have : fdT.length = 17 := rfl; omega)]
        rfl
      rw [e] at h; cases h
  have hk : k < 14 := Nat.lt_of_lt_of_le (List.getElem?_eq_some_iff.mp h).1 (of_decide_eq_true (List.all_eq_true.mp fd_len t (List.mem_range.mpr ht)))
  have h1 := List.all_eq_true.mp (List.all_eq_true.mp fd_all t (List.mem_range.mpr ht)) k (List.mem_range.mpr hk)
  rw [h] at h1
  simp only [Bool.and_eq_true] at h1
  exact ⟨of_decide_eq_true h1.1.2, of_decide_eq_true h1.2⟩
theorem idxOf_spec {idx : Nat} : ∀ (l : List Nat) (j k : Nat), idxOf (fun a => a == idx) l j = some k → ∃ q, k = j + q ∧ l[q]? = some idx := by
  intro l
  induction l with
  | nil => intro j k h; cases h
  | cons a l ih =>
    intro j k h
    unfold idxOf at h
    split at h
    · rename_i ha
      cases h
      exact ⟨0, rfl, by have : a = idx := by simpa using ha
                        rw [this]; rfl⟩
    · obtain ⟨q, h1, h2⟩ := ih _ _ h
      exact ⟨q + 1, by omega, by simpa using h2⟩
theorem cel_up_obj {cA : ClassId} {ad : Nat → Nat → Nat} {σ : St} {t r k b : Nat} {v : Int} (h : (fds t)[k]? = some (.inl b)) : cel cA ad (up σ t r k v) t r = .inr (ocl t, ((fds t).mapIdx (celF ad σ t r)).set k (.int (Int32.ofInt v))) := by
  rw [cel_obj (fd_obj h)]
  congr 2
  refine List.ext_getElem? fun i => ?_
  rw [List.getElem?_mapIdx, List.getElem?_set, List.length_mapIdx, List.getElem?_mapIdx]
  by_cases e : k = i
  · subst e
    rw [if_pos rfl, if_pos (List.getElem?_eq_some_iff.mp h).1, h]
    show some (Value.int (Int32.ofInt (up σ t r k v t r k))) = _
    unfold up
    rw [if_pos ⟨rfl, rfl, rfl⟩]
  · rw [if_neg e]
    cases hq : (fds t)[i]? with
    | none => rfl
    | some sp =>
      show some _ = some _
      congr 1
      rcases sp with b2 | ⟨t2, rr⟩
      · show Value.int (Int32.ofInt (up σ t r k v t r i)) = Value.int (Int32.ofInt (σ t r i))
        unfold up
        rw [if_neg (fun z => e z.2.2.symm)]
      · rfl
theorem cel_up_arr {cA : ClassId} {ad : Nat → Nat → Nat} {σ : St} {t r k : Nat} {v : Int} (h : alen t ≠ 0) : cel cA ad (up σ t r k v) t r = .inl (cA, (alen t, .inl (upd (fun j => Int32.ofInt (σ t r j)) k (Int32.ofInt v)))) := by
  rw [cel_arr h]
  congr 4
  funext j
  show Int32.ofInt (up σ t r k v t r j) = if j = k then Int32.ofInt v else Int32.ofInt (σ t r j)
  unfold up
  by_cases e : j = k
  · rw [if_pos ⟨rfl, rfl, e⟩, if_pos e]
  · rw [if_neg (fun z => e z.2.2), if_neg e]
theorem cel_cpy {cA : ClassId} {ad : Nat → Nat → Nat} {σ : St} {t0 r0 sp t r dp n : Nat} (h : alen t ≠ 0) : cel cA ad (cpy σ t0 r0 sp t r dp n) t r = .inl (cA, (alen t, .inl (va_cpy (fun j => Int32.ofInt (σ t0 r0 j)) (fun j => Int32.ofInt (σ t r j)) sp dp n))) := by
  rw [cel_arr h]
  congr 4
  funext j
  show Int32.ofInt (cpy σ t0 r0 sp t r dp n t r j) = if dp ≤ j ∧ j < dp + n then Int32.ofInt (σ t0 r0 (sp + (j - dp))) else Int32.ofInt (σ t r j)
  unfold cpy
  by_cases e : dp ≤ j ∧ j < dp + n
  · rw [if_pos ⟨rfl, rfl, e.1, e.2⟩, if_pos e]
  · rw [if_neg (fun z => e ⟨z.2.2.1, z.2.2.2⟩), if_neg e]
theorem okS_up {σ : St} {t r k : Nat} {v : Int} (h : okS σ) (hv : okI v) : okS (up σ t r k v) := fun a b c => by
  unfold up
  split
  · exact hv
  · exact h a b c
theorem okS_cpy {σ : St} {t0 r0 sp t r dp n : Nat} (h : okS σ) : okS (cpy σ t0 r0 sp t r dp n) := fun a b c => by
  unfold cpy
  split
  · exact h _ _ _
  · exact h a b c

section STEP3
variable {p : Program} {l : Launch} {e : Env} {R : Room} {s : State} {m : MethodId} {args : Array Value} {below : List Frame} {meth : Method} {c : Code} {cells slots : Nat} {Q : State → Prop}
variable {D : va_G} {cA : ClassId} {ad : Nat → Nat → Nat} {vF : Value} {L : Nat} {xs : Nat → Int32} {A : Nat → Prop} {y : Nat} {pc n : Nat} {ls st : List AV} {σ : St} {pc' : Nat} {ls' st' : List AV} {σ' : St}

theorem sk_get (C : Cx p s m args c y) (E : Evn D cA ad vF L xs A s) (O : AdOK ad vF L) (hA : AdIn ad A) (hR : mFr y ≤ R.frames ∧ mLo y ≤ R.locals ∧ cells ≤ R.cells ∧ slots ≤ R.slots) {i : Instr} (hf : fetch y pc = some (i, n)) (hi : ∃ j, i = .getfield j)
    (ha : aStep y i n pc ls st σ = some (pc', (ls', (st', σ')))) (k : Wk p l e R s m args below meth c cells slots Q D cA ad vF L xs A y pc' ls' st' σ') : Wk p l e R s m args below meth c cells slots Q D cA ad vF L xs A y pc ls st σ := by
  intro H locs lsM hL hl hs hW hS
  obtain ⟨hx, hb, hml, hown, hts⟩ := C
  obtain ⟨eK, eS, eR, eZ1, eZ2, eN, eX, eb, ebA⟩ := E
  have hd := fetch_ok hf
  have hn := len_ok hf
  obtain ⟨idx, rfl⟩ := hi
  obtain rfl := il1 hn (Nat.succ_ne_zero _)
  simp only [aStep, aGet] at ha
  split at ha
  · rename_i t r st0
    obtain ⟨h1, h2⟩ := okV1 hs
    split at ha
    · rename_i ht
      obtain rfl : t = 30 := by simpa using ht
      split at ha
      · rename_i hc
        have hc : mC y = 7 := by simpa using hc
        have hr : r < 8 := okR_str h1 (Or.inl rfl)
        have hown' : s.vm.findClass RJ0 = some m.cls := by rw [hc] at hown; exact hown
        split at ha
        · rename_i hi9
          obtain rfl : idx = 9 := by simpa using hi9
          cases ha
          exact vk_getf hx hb (eS.1 r hr).2.2.1 hS hown' (hts _ wJs_all.1) (fun _ h9 => h9) hd (k H locs lsM hL hl (okVc (v := .inr (.inl (31, r))) (Or.inr (Or.inl ⟨Or.inr rfl, hr⟩)) h2) hW hS)
        · split at ha
          · rename_i hi9
            obtain rfl : idx = 15 := by simpa using hi9
            cases ha
            exact vk_getf hx hb (eS.1 r hr).2.1 hS hown' (hts _ wJs_all.2.1) (fun _ h9 => h9) hd (k H locs lsM hL hl (okVc okI_0 h2) hW hS)
          · cases ha
      · cases ha
    · split at ha
      · cases ha
      · rename_i o9 kf ps hlk
        split at ha
        · rename_i ho
          obtain rfl : ocl t = o9 := by simpa using ho
          obtain ⟨w1, w2, w3⟩ := fk_spec hlk
          have hv := okR_obj h1 w3
          have h33 : ¬ t = 33 := by have := vld_lt hv; omega
          split at ha
          · rename_i b hk
            cases ha
            have he := wld_at (cA := cA) (ad := ad) (σ := σ) hv
            rw [cel_obj (fd_obj hk)] at he
            rw [List.map_cons, cvv_r h33]
            exact va_get (D := D) (ci := ocl t) (C := (vwD (ocl t)).1) (T := (vwD (ocl t)).2.1) (N := (vwD (ocl t)).2.2) hx hb hts (wu_all _ w3) hown eK hW.1 (wpos t r) he (vw_at _ w3) kf w2 (hts _ w1) (fun _ h9 => h9) (by rw [List.getElem?_mapIdx, hk]; rfl) hd (k H locs lsM hL hl (okVc (v := .inl (σ t r kf)) (hW.2.2.2 _ _ _) h2) hW hS)
          · rename_i t2 rr hk
            cases ha
            have he := wld_at (cA := cA) (ad := ad) (σ := σ) hv
            rw [cel_obj (fd_obj hk)] at he
            have hv2 := fd_vld hv hk
            have h332 : ¬ t2 = 33 := by have := vld_lt hv2; omega
            have kk := k H locs lsM hL hl (okVc (v := .inr (.inl (t2, rr.getD r))) (Or.inl hv2) h2) hW hS
            rw [List.map_cons, cvv_r h332] at kk
            rw [List.map_cons, cvv_r h33]
            exact va_get (D := D) (ci := ocl t) (C := (vwD (ocl t)).1) (T := (vwD (ocl t)).2.1) (N := (vwD (ocl t)).2.2) hx hb hts (wu_all _ w3) hown eK hW.1 (wpos t r) he (vw_at _ w3) kf w2 (hts _ w1) (fun _ h9 => h9) (by rw [List.getElem?_mapIdx, hk]; rfl) hd kk
          · cases ha
        · cases ha
  · cases ha
theorem sk_put (C : Cx p s m args c y) (E : Evn D cA ad vF L xs A s) (O : AdOK ad vF L) (hA : AdIn ad A) (hR : mFr y ≤ R.frames ∧ mLo y ≤ R.locals ∧ cells ≤ R.cells ∧ slots ≤ R.slots) {i : Instr} (hf : fetch y pc = some (i, n)) (hi : ∃ j, i = .putfield j)
    (ha : aStep y i n pc ls st σ = some (pc', (ls', (st', σ')))) (k : Wk p l e R s m args below meth c cells slots Q D cA ad vF L xs A y pc' ls' st' σ') : Wk p l e R s m args below meth c cells slots Q D cA ad vF L xs A y pc ls st σ := by
  intro H locs lsM hL hl hs hW hS
  obtain ⟨hx, hb, hml, hown, hts⟩ := C
  obtain ⟨eK, eS, eR, eZ1, eZ2, eN, eX, eb, ebA⟩ := E
  have hd := fetch_ok hf
  have hn := len_ok hf
  obtain ⟨idx, rfl⟩ := hi
  obtain rfl := il1 hn (Nat.succ_ne_zero _)
  simp only [aStep, aPut] at ha
  split at ha
  · rename_i v t r st0
    obtain ⟨h0, h1, h2⟩ := okV2 hs
    split at ha
    · cases ha
    · rename_i o9 kf ps hlk
      split at ha
      · rename_i ho
        obtain rfl : ocl t = o9 := by simpa using ho
        obtain ⟨w1, w2, w3⟩ := fk_spec hlk
        have hv := okR_obj h1 w3
        have h33 : ¬ t = 33 := by have := vld_lt hv; omega
        split at ha
        · rename_i b hk
          split at ha
          · rename_i hb9
            cases ha
            have he := wld_at (cA := cA) (ad := ad) (σ := σ) hv
            rw [cel_obj (fd_obj hk)] at he
            obtain ⟨ty0, q1, q2⟩ := vw_ty (ocl t) w3
            obtain ⟨f1, f2⟩ := fd_spec hk
            have hnf : narrow (if b == 0 then .int else .boolean) (.int (Int32.ofInt v)) = .int (Int32.ofInt v) ∧ fits (if b == 0 then .int else .boolean) (.int (Int32.ofInt v)) = true := by
              by_cases hb0 : (b == 0) = true
              · rw [if_pos hb0]; exact ⟨rfl, rfl⟩
              · rw [if_neg hb0]
                simp only [hb0, Bool.false_or, Bool.or_eq_true, decide_eq_true_eq] at hb9
                rcases hb9 with rfl | rfl <;> exact ⟨by decide, by decide⟩
            rw [List.map_cons, List.map_cons, cvv_r h33]
            have hset := wld_set (cA := cA) (ad := ad) (σ := σ) (σ' := up σ t r kf v) hv up_ne
            rw [cel_up_obj hk] at hset
            exact va_put (D := D) (ci := ocl t) (C := (vwD (ocl t)).1) (T := (vwD (ocl t)).2.1) (N := (vwD (ocl t)).2.2) hx hb hts (wu_all _ w3) ty0 q1 q2 hown eK hW.1 (wld_D O hA σ) hS (wpos t r) he (vw_at _ w3) kf w2 (hts _ w1) (fun _ h9 => h9) f2 f1 hnf.1 hnf.2 (by rw [List.length_mapIdx]; exact (List.getElem?_eq_some_iff.mp hk).1) hd
              (fun H1 locs1 p1 p2 p3 => k H1 locs1 lsM hL hl h2 ⟨hset ▸ p1, fun j hj => (up_ne 32 0 (fun z => by have := vld_lt hv; omega) j).trans (hW.2.1 j hj), (up_ne 32 1 (fun z => by have := vld_lt hv; omega) 0).trans hW.2.2.1, okS_up hW.2.2.2 h0⟩ p3)
          · cases ha
        · cases ha
      · cases ha
  · cases ha
theorem sk_arr (C : Cx p s m args c y) (E : Evn D cA ad vF L xs A s) (O : AdOK ad vF L) (hA : AdIn ad A) (hR : mFr y ≤ R.frames ∧ mLo y ≤ R.locals ∧ cells ≤ R.cells ∧ slots ≤ R.slots) {i : Instr} (hf : fetch y pc = some (i, n)) (hi : i = .iaload ∨ i = .iastore ∨ i = .baload ∨ i = .arraylength)
    (ha : aStep y i n pc ls st σ = some (pc', (ls', (st', σ')))) (k : Wk p l e R s m args below meth c cells slots Q D cA ad vF L xs A y pc' ls' st' σ') : Wk p l e R s m args below meth c cells slots Q D cA ad vF L xs A y pc ls st σ := by
  intro H locs lsM hL hl hs hW hS
  obtain ⟨hx, hb, hml, hown, hts⟩ := C
  obtain ⟨eK, eS, eR, eZ1, eZ2, eN, eX, eb, ebA⟩ := E
  have hd := fetch_ok hf
  have hn := len_ok hf
  rcases hi with rfl | rfl | rfl | rfl
  · obtain rfl := il1 hn (Nat.succ_ne_zero _)
    simp only [aStep, aIld] at ha
    split at ha
    · rename_i i0 t r st0
      obtain ⟨h0, h1, h2⟩ := okV2 hs
      by_cases ht : t = 32
      · subst ht
        simp only [beq_self_eq_true, if_true] at ha
        by_cases hin : 0 ≤ i0 ∧ i0 < σ 32 1 0
        · rw [if_pos hin] at ha
          cases ha
          obtain rfl : r = 0 := by
            rcases h1 with h | h | h | h | h
            · have := vld_lt h; omega
            · omega
            · exact h.2
            · omega
            · omega
          have kk := k H locs lsM hL hl (okVc (v := .inl (σ 32 0 i0.toNat)) (hW.2.2.2 _ _ _) h2) hW hS
          have hlt : i0.toNat < L := by have := hW.2.2.1; omega
          rw [List.map_cons, show cvv ad vF (.inl (σ 32 0 i0.toNat)) = .int (xs (Int32.ofInt i0).toNatClampNeg) from congrArg Value.int (by rw [hW.2.1 _ hlt, I_clamp h0, Int32.ofInt_toInt])] at kk
          exact va_sld hx hb eX eb ebA hS (I_in h0 hin.1 (by have := hW.2.2.1; omega)) hd kk
        · rw [if_neg hin] at ha; cases ha
      · have ht2 : ¬ (t == 32) = true := by simpa using ht
        simp only [if_neg ht2] at ha
        by_cases hin : 0 ≤ i0 ∧ i0 < (alen t : Int)
        · rw [if_pos hin] at ha
          cases ha
          have hal : alen t ≠ 0 := by omega
          have hv := okR_arr h1 hal
          have h33 : ¬ t = 33 := by have := vld_lt hv; omega
          have he := wld_at (cA := cA) (ad := ad) (σ := σ) hv
          rw [cel_arr hal] at he
          have kk := k H locs lsM hL hl (okVc (v := .inl (σ t r i0.toNat)) (hW.2.2.2 _ _ _) h2) hW hS
          rw [List.map_cons, show cvv ad vF (.inl (σ t r i0.toNat)) = .int ((fun j => Int32.ofInt (σ t r j)) (Int32.ofInt i0).toNatClampNeg) from congrArg Value.int (by rw [I_clamp h0])] at kk
          rw [List.map_cons, List.map_cons, cvv_r h33]
          exact va_iald hx hb eK hW.1 (wpos t r) 0 he rfl (I_in h0 hin.1 hin.2) hd kk
        · rw [if_neg hin] at ha; cases ha
    · cases ha
  · obtain rfl := il1 hn (Nat.succ_ne_zero _)
    simp only [aStep, aIst] at ha
    split at ha
    · rename_i v i0 t r st0
      obtain ⟨h0, hs2⟩ := okV1 hs
      obtain ⟨h3, h1, h2⟩ := okV2 hs2
      split at ha
      · rename_i hin
        cases ha
        have hal : alen t ≠ 0 := by omega
        have hv := okR_arr h1 hal
        have h33 : ¬ t = 33 := by have := vld_lt hv; omega
        have he := wld_at (cA := cA) (ad := ad) (σ := σ) hv
        rw [cel_arr hal] at he
        have hset := wld_set (cA := cA) (ad := ad) (σ := σ) (σ' := up σ t r i0.toNat v) hv up_ne
        rw [cel_up_arr hal, ← I_clamp h3] at hset
        rw [List.map_cons, List.map_cons, List.map_cons, cvv_r h33]
        exact va_iast hx hb eK hW.1 (wld_D O hA σ) hS (wpos t r) 0 he rfl (I_in h3 hin.1 hin.2) hd
          (fun H1 locs1 p1 p2 p3 => k H1 locs1 lsM hL hl h2 ⟨by rw [hset] at p1; rw [I_clamp h3] at p1; exact p1, fun j hj => (up_ne 32 0 (fun z => by have := vld_lt hv; omega) j).trans (hW.2.1 j hj), (up_ne 32 1 (fun z => by have := vld_lt hv; omega) 0).trans hW.2.2.1, okS_up hW.2.2.2 h0⟩ p3)
      · cases ha
    · cases ha
  · obtain rfl := il1 hn (Nat.succ_ne_zero _)
    simp only [aStep, aBld] at ha
    split at ha
    · rename_i i0 t r st0
      obtain ⟨h0, h1, h2⟩ := okV2 hs
      split at ha
      · rename_i hc
        obtain rfl : t = 31 := by simpa using hc
        have hr : r < 8 := okR_str h1 (Or.inr rfl)
        split at ha
        · rename_i hin
          cases ha
          exact va_tb hx hb (eS.1 r hr).2.2.2 hS (I_in h0 hin.1 hin.2) (by show Value.int _ = _; rw [I_clamp h0, strB32_at]; rfl) hd (k H locs lsM hL hl (okVc (v := .inl (sbyt r i0.toNat)) (sbyt_ok _ _) h2) hW hS)
        · cases ha
      · cases ha
    · cases ha
  · obtain rfl := il1 hn (Nat.succ_ne_zero _)
    simp only [aStep, aLen] at ha
    split at ha
    · rename_i t r st0
      obtain ⟨h1, h2⟩ := okV1 hs
      split at ha
      · rename_i ht
        obtain rfl : t = 31 := by simpa using ht
        have hr : r < 8 := okR_str h1 (Or.inr rfl)
        cases ha
        have := slen_ok r hr
        exact va_tlen hx hb (eS.1 r hr).2.2.2 hS (I_nat _) hd (k H locs lsM hL hl (okVc (v := .inl (slen r : Int)) ⟨by omega, by omega⟩ h2) hW hS)
      · split at ha
        · rename_i ht
          obtain rfl : t = 32 := by simpa using ht
          cases ha
          obtain rfl : r = 0 := by
            rcases h1 with h | h | h | h | h
            · have := vld_lt h; omega
            · omega
            · exact h.2
            · omega
            · omega
          have kk := k H locs lsM hL hl (okVc (v := .inl (σ 32 1 0)) (hW.2.2.2 _ _ _) h2) hW hS
          rw [List.map_cons, show cvv ad vF (.inl (σ 32 1 0)) = .int (Int32.ofNat L) from congrArg Value.int (by rw [hW.2.2.1, I_nat])] at kk
          exact va_slen hx hb eX eb ebA hS hd kk
        · split at ha
          · cases ha
          · rename_i hal0
            have hal : alen t ≠ 0 := by simpa using hal0
            cases ha
            have hv := okR_arr h1 hal
            have h33 : ¬ t = 33 := by have := vld_lt hv; omega
            have he := wld_at (cA := cA) (ad := ad) (σ := σ) hv
            rw [cel_arr hal] at he
            have hlt : alen t < 100 := by
              have h9 : ∀ t, t < 23 → alen t < 100 := by decide +kernel
              exact h9 t (vld_lt hv)
            rw [List.map_cons, cvv_r h33]
            exact va_alen hx hb eK hW.1 (wpos t r) 0 he rfl (I_nat _) hd (k H locs lsM hL hl (okVc (v := .inl (alen t : Int)) ⟨by omega, by omega⟩ h2) hW hS)
    · cases ha
theorem sk_cst (C : Cx p s m args c y) (E : Evn D cA ad vF L xs A s) (O : AdOK ad vF L) (hA : AdIn ad A) (hR : mFr y ≤ R.frames ∧ mLo y ≤ R.locals ∧ cells ≤ R.cells ∧ slots ≤ R.slots) {i : Instr} (hf : fetch y pc = some (i, n)) (hi : (∃ j, i = .getstatic j) ∨ (∃ j, i = .ldc j) ∨ (∃ j, i = .ldc_w j) ∨ (∃ j, i = .ldc2_w j))
    (ha : aStep y i n pc ls st σ = some (pc', (ls', (st', σ')))) (k : Wk p l e R s m args below meth c cells slots Q D cA ad vF L xs A y pc' ls' st' σ') : Wk p l e R s m args below meth c cells slots Q D cA ad vF L xs A y pc ls st σ := by
  intro H locs lsM hL hl hs hW hS
  obtain ⟨hx, hb, hml, hown, hts⟩ := C
  obtain ⟨eK, eS, eR, eZ1, eZ2, eN, eX, eb, ebA⟩ := E
  have hd := fetch_ok hf
  have hn := len_ok hf
  rcases hi with ⟨idx, rfl⟩ | ⟨idx, rfl⟩ | ⟨idx, rfl⟩ | ⟨idx, rfl⟩
  · obtain rfl := il1 hn (Nat.succ_ne_zero _)
    simp only [aStep, aGs] at ha
    split at ha
    · rename_i hc
      have hc : mC y = 7 := by simpa using hc
      have hown' : s.vm.findClass RJ0 = some m.cls := by rw [hc] at hown; exact hown
      split at ha
      · rename_i h9
        obtain rfl : idx = 38 := by simpa using h9
        cases ha
        exact va_gets hx hb eZ1 hS hown' (hts _ wJs_all.2.2.1) (fun _ h9 => h9) hd (k H locs lsM hL hl (okVc (v := .inl 1) ⟨by omega, by omega⟩ hs) hW hS)
      · split at ha
        · rename_i h9
          obtain rfl : idx = 1053 := by simpa using h9
          cases ha
          exact va_gets hx hb eZ2 hS hown' (hts _ wJs_all.2.2.2) (fun _ h9 => h9) hd (k H locs lsM hL hl (okVc (v := .inr (.inl (33, 0))) (Or.inr (Or.inr (Or.inr (Or.inl rfl)))) hs) hW hS)
        · cases ha
    · cases ha
  · obtain rfl := il1 hn (Nat.succ_ne_zero _)
    simp only [aStep, aLdc] at ha
    split at ha
    · rename_i v ps hlk
      cases ha
      obtain ⟨w1, w2⟩ := ck_spec hlk
      exact lv_ldc hx hb hown (hts _ w1) hd (k H locs lsM hL hl (okVc w2 hs) hW hS)
    · split at ha
      · rename_i hc
        simp only [Bool.and_eq_true, beq_iff_eq] at hc
        have hown' : s.vm.findClass RX0 = some m.cls := by rw [hc.1] at hown; exact hown
        split at ha
        · rename_i j hj
          cases ha
          obtain ⟨q, q1, q2⟩ := idxOf_spec _ _ _ hj
          have hj8 : j < 8 := by have := (List.getElem?_eq_some_iff.mp q2).1; have h8 : strI.length = 8 := rfl; omega
          have hR := eR j hj8
          have he : strI.getD j 0 = idx := by rw [List.getD_eq_getElem?_getD, q1, Nat.zero_add, q2]; rfl
          rw [he] at hR
          exact va_ldcS hx hb hown' hR hd (k H locs lsM hL hl (okVc (v := .inr (.inl (30, j))) (Or.inr (Or.inl ⟨Or.inl rfl, hj8⟩)) hs) hW hS)
        · cases ha
      · cases ha
  · obtain rfl := il1 hn (Nat.succ_ne_zero _)
    simp only [aStep, aLdc] at ha
    split at ha
    · rename_i v ps hlk
      cases ha
      obtain ⟨w1, w2⟩ := ck_spec hlk
      exact lv_ldcw hx hb hown (hts _ w1) hd (k H locs lsM hL hl (okVc w2 hs) hW hS)
    · simp at ha
  · obtain rfl := il1 hn (Nat.succ_ne_zero _)
    simp only [aStep, aLd2] at ha
    split at ha
    · rename_i v ps hlk
      cases ha
      obtain ⟨w1, w2⟩ := cl_spec hlk
      exact lv_ldc2 hx hb hown (hts _ w1) hd (k H locs lsM hL hl (okVc (v := .inr (.inr v)) w2 hs) hW hS)
    · cases ha
theorem sk_nat (C : Cx p s m args c y) (E : Evn D cA ad vF L xs A s) (O : AdOK ad vF L) (hA : AdIn ad A) (hR : mFr y ≤ R.frames ∧ mLo y ≤ R.locals ∧ cells ≤ R.cells ∧ slots ≤ R.slots) {i : Instr} (hf : fetch y pc = some (i, n)) (hi : ∃ j, i = .invokestatic j)
    (ha : aStep y i n pc ls st σ = some (pc', (ls', (st', σ')))) (k : Wk p l e R s m args below meth c cells slots Q D cA ad vF L xs A y pc' ls' st' σ') : Wk p l e R s m args below meth c cells slots Q D cA ad vF L xs A y pc ls st σ := by
  intro H locs lsM hL hl hs hW hS
  obtain ⟨hx, hb, hml, hown, hts⟩ := C
  obtain ⟨eK, eS, eR, eZ1, eZ2, eN, eX, eb, ebA⟩ := E
  have hd := fetch_ok hf
  have hn := len_ok hf
  obtain ⟨idx, rfl⟩ := hi
  obtain rfl := il1 hn (Nat.succ_ne_zero _)
  have hsz : c.maxLocals = lsM.size := hml.trans hL.2.1.symm
  simp only [aStep] at ha
  split at ha
  · rename_i hc
    simp only [Bool.and_eq_true, beq_iff_eq] at hc
    obtain ⟨⟨⟨hc1, rfl⟩, hc3⟩, hc4⟩ := hc
    have hown' : s.vm.findClass RX2 = some m.cls := by rw [hc1] at hown; exact hown
    have hfr : 1 ≤ mFr y := Nat.le_of_ble_eq_true hc3
    have hlo : 48 ≤ mLo y := Nat.le_of_ble_eq_true hc4
    have hw := wAr
    rw [Bool.and_eq_true, Bool.and_eq_true, Bool.and_eq_true] at hw
    unfold aCpy at ha
    split at ha
    · rename_i nn dp t r sp t0 r0 st0
      obtain ⟨g1, g2, hs2⟩ := okV2 hs
      obtain ⟨g3, g4, hs3⟩ := okV2 hs2
      obtain ⟨g5, g6⟩ := okV1 hs3
      split at ha
      · rename_i hin
        obtain ⟨b1, b2, b3, b4, b5, b6, b7, b8⟩ := hin
        have hnil := List.length_eq_zero_iff.mp b8
        subst hnil
        cases ha
        have hv := okR_arr g3 b7
        have hv0 := okR_arr g5 b6
        have h33 : ¬ t = 33 := by have := vld_lt hv; omega
        have h330 : ¬ t0 = 33 := by have := vld_lt hv0; omega
        have he := wld_at (cA := cA) (ad := ad) (σ := σ) hv
        rw [cel_arr b7] at he
        have he0 := wld_at (cA := cA) (ad := ad) (σ := σ) hv0
        rw [cel_arr b6] at he0
        have hset := wld_set (cA := cA) (ad := ad) (σ := σ) (σ' := cpy σ t0 r0 sp.toNat t r dp.toNat nn.toNat) hv cpy_ne
        rw [cel_cpy b7] at hset
        rw [List.map_cons, List.map_cons, List.map_cons, List.map_cons, List.map_cons, cvv_r h33, cvv_r h330]
        have nz : ∀ {x : Int}, okI x → 0 ≤ x → ¬ Int32.ofInt x < 0 := fun {x} hx0 h0 z => by
          rw [I_0, I_lt hx0 okI_0] at z; omega
        refine va_copyi (ty := .int) hx hb hsz hown' (hts _ (wAt_in hw.1.1.1)) (hts _ (wAt_in hw.1.1.2)) (hts _ (wAt_in hw.1.2)) (hts _ (wAt_in hw.2)) eK hW.1 (wld_D O hA σ) hS (wpos t0 r0) (wpos t r) 0 0 he0 he rfl rfl rfl (nz g4 b3) (nz g2 b2) (nz g1 b1) ?_ ?_ (fun _ _ => rfl) (Nat.le_trans hfr hR.1) ?_ hd
          (fun H1 locs1 p1 p2 p3 => k H1 locs1 lsM hL hl g6 ⟨?_, fun j hj => (cpy_ne 32 0 (fun z => by have := vld_lt hv; omega) j).trans (hW.2.1 j hj), (cpy_ne 32 1 (fun z => by have := vld_lt hv; omega) 0).trans hW.2.2.1, okS_cpy hW.2.2.2⟩ p3)
        · rw [I_clamp g4, I_clamp g1]; omega
        · rw [I_clamp g2, I_clamp g1]; omega
        · have h18 : nativeFrameWords "java/lang/System" "arraycopy" 5 = 7 := by decide +kernel
          rw [h18]
          show 0 + (7 + 11) ≤ R.locals
          have := hR.2.1
          omega
        · rw [I_clamp g4, I_clamp g2, I_clamp g1, hset] at p1
          exact p1
      · cases ha
    · cases ha
  · unfold aPrm at ha
    split at ha
    · cases ha
    · rename_i w ps hlk
      have hw0 := pm_spec hlk
      have hw := wPm2
      rw [Bool.and_eq_true, Bool.and_eq_true, Bool.and_eq_true, Bool.and_eq_true] at hw
      split at ha
      · rename_i y0 x0 st0
        obtain ⟨h1, h2, h3⟩ := okV2 hs
        split at ha
        · rename_i hc
          simp only [Bool.and_eq_true] at hc
          have hfr : 1 ≤ mFr y := Nat.le_of_ble_eq_true hc.1.1
          have hlo : 21 ≤ mLo y := Nat.le_of_ble_eq_true hc.1.2
          have hlen : st0.length ≤ 4 := Nat.le_of_ble_eq_true hc.2
          have hcat : ∀ l : List AV, catS l ≤ 2 * l.length := by
            intro l
            induction l with
            | nil => exact Nat.le_refl _
            | cons a l ih => show (if isLg a = true then 2 else 1) + catS l ≤ 2 * (l.length + 1); split <;> omega
          have hroom : (((st0.map (cvv ad vF)).map fun v => v.category).sum) + 13 ≤ R.locals := by
            rw [cvv_sum O.2.1]
            have := hcat st0
            have := hR.2.1
            omega
          cases ha
          by_cases hw9 : (w == 0) = true
          · rw [if_pos hw9] at hw0 k
            have hok : okI (if x0 < y0 then y0 else x0) := by split; exact h1; exact h2
            have kk := k H locs lsM hL hl (okVc hok h3) hW hS
            rw [List.map_cons, show cvv ad vF (.inl (if x0 < y0 then y0 else x0)) = .int (if Int32.ofInt x0 < Int32.ofInt y0 then Int32.ofInt y0 else Int32.ofInt x0) from congrArg Value.int (by simp only [I_lt h2 h1]; split <;> rfl)] at kk
            exact va_mmax hx hb hsz hown (hts _ hw0) (hts _ (wAt_in hw.1.1.1.2)) (hts _ (wAt_in hw.1.1.1.1)) (hts _ (wAt_in hw.1.1.2)) (Nat.le_trans hfr hR.1) hroom hR.2.2.1 hR.2.2.2 hd kk
          · rw [if_neg hw9] at hw0 k
            have hok : okI (if y0 < x0 then y0 else x0) := by split; exact h1; exact h2
            have kk := k H locs lsM hL hl (okVc hok h3) hW hS
            rw [List.map_cons, show cvv ad vF (.inl (if y0 < x0 then y0 else x0)) = .int (if Int32.ofInt y0 < Int32.ofInt x0 then Int32.ofInt y0 else Int32.ofInt x0) from congrArg Value.int (by simp only [I_lt h1 h2]; split <;> rfl)] at kk
            exact va_mmin hx hb hsz hown (hts _ hw0) (hts _ (wAt_in hw.1.2)) (hts _ (wAt_in hw.1.1.1.1)) (hts _ (wAt_in hw.2)) (Nat.le_trans hfr hR.1) hroom hR.2.2.1 hR.2.2.2 hd kk
        · cases ha
      · cases ha
end STEP3
