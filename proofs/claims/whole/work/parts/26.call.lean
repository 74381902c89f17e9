/-! what is known of every method by its number -/
theorem wn_spec {y : Nat} (hy : y < NM) : wNam y = true ∧ rtK (mK y) (mRt y) = true := by
  have key : ∀ (a : Nat) (h : (((List.range 221).drop a).take 60).all (fun y => wNam y && rtK (mK y) (mRt y)) = true), a ≤ y → y < a + 60 → wNam y = true ∧ rtK (mK y) (mRt y) = true := by
    intro a h h1 h2
    have hm : y ∈ ((List.range 221).drop a).take 60 := by
      refine List.mem_of_getElem? (i := y - a) ?_
      rw [List.getElem?_take, if_pos (by omega), List.getElem?_drop, List.getElem?_range (by have : NM = 221 := rfl; omega)]
      congr 1
      omega
    have h3 := List.all_eq_true.mp h y hm
    rw [Bool.and_eq_true] at h3
    exact h3
  have hN : NM = 221 := rfl
  rcases Nat.lt_or_ge y 60 with q | q
  · exact key 0 wn_0 (by omega) (by omega)
  · rcases Nat.lt_or_ge y 120 with q2 | q2
    · exact key 60 wn_1 (by omega) (by omega)
    · rcases Nat.lt_or_ge y 180 with q3 | q3
      · exact key 120 wn_2 (by omega) (by omega)
      · exact key 180 wn_3 (by omega) (by omega)
theorem wNam_spec {y : Nat} (hy : y < NM) : (mN y).cls = cN (mC y) ∧ plainName (mN y).cls = true ∧ (mN y).cls ≠ "java/lang/invoke/MethodHandle" ∧ (mN y).cls ≠ "java/lang/invoke/VarHandle" ∧ (parseMethodDescriptor (mN y).desc).map (fun d => d.parameters.length) = some (if mSt y = true then mNA y else mNA y - 1) ∧ (mSt y = true ∨ 1 ≤ mNA y) := by
  have h := (wn_spec hy).1
  unfold wNam at h
  simp only [Bool.and_eq_true] at h
  obtain ⟨⟨⟨⟨⟨⟨h1, h2⟩, h3⟩, h4⟩, h5⟩, h6⟩, -⟩ := h
  refine ⟨of_decide_eq_true h1, h2, of_decide_eq_true h3, of_decide_eq_true h4, of_decide_eq_true h5, ?_⟩
  by_cases q : mSt y = true
  · exact Or.inl q
  · rw [if_neg q] at h6; exact Or.inr (Nat.le_of_ble_eq_true h6)
theorem wc_spec {y : Nat} (hy : y < 220) : Cond.code (mN y) (mB y) (mL y) (mRt y) ∈ lwg ∧ Cond.initialized (mN y).cls ∈ lwg ∧ (mSt y = true → Cond.static (mN y) ∈ lwg) ∧ (mSt y = false → Cond.instanceMethod (mN y) ∈ lwg ∧ Cond.selects (mN y).cls (mN y) (mN y) ∈ lwg) := by
  have hc : wCode y = true ∧ wFace y = true := by
    have key : ∀ {l : List Nat} {f : Nat → Bool}, l.all (fun y => f y) = true → y ∈ l → f y = true := fun h hm => List.all_eq_true.mp h y hm
    have cases22 : y / 10 < 22 := by omega
    have hm : ∀ j, y / 10 = j → y ∈ [10 * j, 10 * j + 1, 10 * j + 2, 10 * j + 3, 10 * j + 4, 10 * j + 5, 10 * j + 6, 10 * j + 7, 10 * j + 8, 10 * j + 9] := by
      intro j hj
      simp only [List.mem_cons, List.not_mem_nil, or_false]
      omega
    generalize hj : y / 10 = j at cases22
    have hm := hm j hj
    rcases j with _ | _ | _ | _ | _ | _ | _ | _ | _ | _ | _ | _ | _ | _ | _ | _ | _ | _ | _ | _ | _ | _ | j
    · exact ⟨key wc_0 hm, key wf_0 hm⟩
    · exact ⟨key wc_1 hm, key wf_1 hm⟩
    · exact ⟨key wc_2 hm, key wf_2 hm⟩
    · exact ⟨key wc_3 hm, key wf_3 hm⟩
    · exact ⟨key wc_4 hm, key wf_4 hm⟩
    · exact ⟨key wc_5 hm, key wf_5 hm⟩
    · exact ⟨key wc_6 hm, key wf_6 hm⟩
    · exact ⟨key wc_7 hm, key wf_7 hm⟩
    · exact ⟨key wc_8 hm, key wf_8 hm⟩
    · exact ⟨key wc_9 hm, key wf_9 hm⟩
    · exact ⟨key wc_10 hm, key wf_10 hm⟩
    · exact ⟨key wc_11 hm, key wf_11 hm⟩
    · exact ⟨key wc_12 hm, key wf_12 hm⟩
    · exact ⟨key wc_13 hm, key wf_13 hm⟩
    · exact ⟨key wc_14 hm, key wf_14 hm⟩
    · exact ⟨key wc_15 hm, key wf_15 hm⟩
    · exact ⟨key wc_16 hm, key wf_16 hm⟩
    · exact ⟨key wc_17 hm, key wf_17 hm⟩
    · exact ⟨key wc_18 hm, key wf_18 hm⟩
    · exact ⟨key wc_19 hm, key wf_19 hm⟩
    · exact ⟨key wc_20 hm, key wf_20 hm⟩
    · exact ⟨key wc_21 hm, key wf_21 hm⟩
    · omega
  obtain ⟨h1, h2⟩ := hc
  unfold wCode at h1
  unfold wFace at h2
  rw [Bool.and_eq_true] at h2
  refine ⟨wAt_in h1, wAt_in h2.1, fun hs => ?_, fun hs => ?_⟩
  · have h3 := h2.2
    rw [if_pos hs] at h3
    exact wAt_in h3
  · have h3 := h2.2
    rw [if_neg (by rw [hs]; decide), Bool.and_eq_true] at h3
    exact ⟨wAt_in h3.1, wAt_in h3.2⟩
theorem lk_spec {cc idx y ps : Nat} (h : (lkT.getD cc []).lookup idx = some (y, ps)) : Cond.methodLink (cN cc) idx (mN y) ∈ lwg ∧ y < 220 := by
  have hc := getD_lt h
  have hm : (cc, (idx, (y, ps))) ∈ lkR := by
    have hall : (List.range 11).all (fun cc => (lkT.getD cc []).all (fun q => decide ((cc, (q.1, (q.2.1, q.2.2))) ∈ lkR))) = true := by decide +kernel
    exact of_decide_eq_true (List.all_eq_true.mp (List.all_eq_true.mp hall cc (List.mem_range.mpr hc)) _ (lookup_in _ h))
  have hw : wLnk (cc, (idx, (y, ps))) = true := by
    obtain ⟨i, hi⟩ := List.mem_iff_getElem?.mp hm
    have hlt := (List.getElem?_eq_some_iff.mp hi).1
    have key : ∀ (a : Nat), ((lkR.drop a).take 40).all wLnk = true → a ≤ i → i < a + 40 → wLnk (cc, (idx, (y, ps))) = true := by
      intro a h0 h1 h2
      refine List.all_eq_true.mp h0 _ (List.mem_of_getElem? (i := i - a) ?_)
      rw [List.getElem?_take, if_pos (by omega), List.getElem?_drop, show a + (i - a) = i by omega]
      exact hi
    have hlen : lkR.length ≤ 280 := by decide +kernel
    rcases Nat.lt_or_ge i 40 with q | q
    · exact key 0 wl_0 (by omega) (by omega)
    rcases Nat.lt_or_ge i 80 with q | q
    · exact key 40 wl_1 (by omega) (by omega)
    rcases Nat.lt_or_ge i 120 with q | q
    · exact key 80 wl_2 (by omega) (by omega)
    rcases Nat.lt_or_ge i 160 with q | q
    · exact key 120 wl_3 (by omega) (by omega)
    rcases Nat.lt_or_ge i 200 with q | q
    · exact key 160 wl_4 (by omega) (by omega)
    rcases Nat.lt_or_ge i 240 with q | q
    · exact key 200 wl_5 (by omega) (by omega)
    · exact key 240 wl_6 (by omega) (by omega)
  unfold wLnk at hw
  rw [Bool.and_eq_true] at hw
  exact ⟨wAt_in hw.1, Nat.le_of_ble_eq_true hw.2⟩
theorem ln_spec {cc idx y : Nat} (h : (lkN.getD cc []).lookup idx = some y) : (cc, (idx, y)) ∈ nsT ∧ y < 220 := by
  have hc := getD_lt h
  have hall : (List.range 11).all (fun cc => (lkN.getD cc []).all (fun q => decide ((cc, (q.1, q.2)) ∈ nsT) && decide (q.2 < 220))) = true := by decide +kernel
  have h1 := List.all_eq_true.mp (List.all_eq_true.mp hall cc (List.mem_range.mpr hc)) _ (lookup_in _ h)
  rw [Bool.and_eq_true] at h1
  exact ⟨of_decide_eq_true h1.1, of_decide_eq_true h1.2⟩
theorem rc_spec {t : Nat} (h : rcl t < 11) : (t = 30 ∧ rcl t = 7) ∨ (ocl t < 5 ∧ (vwD (ocl t)).1 = cN (rcl t) ∧ alen t = 0) := by
  have hall : (List.range 31).all (fun t => decide (11 ≤ rcl t) || (decide (t = 30) && decide (rcl t = 7)) || (decide (ocl t < 5) && decide ((vwD (ocl t)).1 = cN (rcl t)) && decide (alen t = 0))) = true := by decide +kernel
  by_cases ht : t < 31
  · have h1 := List.all_eq_true.mp hall t (List.mem_range.mpr ht)
    simp only [Bool.or_eq_true, Bool.and_eq_true, decide_eq_true_eq] at h1
    rcases h1 with (h1 | h1) | h1
    · omega
    · exact Or.inl h1
    · exact Or.inr ⟨h1.1.1, h1.1.2, h1.2⟩
  · unfold rcl at h
    rw [List.getD_eq_getElem?_getD, List.getElem?_eq_none (by have : rcT.length = 31 := rfl; omega)] at h
    exact absurd h (by decide)
/-- what a method answers, and what it leaves -/
def Qc (D : va_G) (cA : ClassId) (ad : Nat → Nat → Nat) (vF : Value) (L : Nat) (xs : Nat → Int32) (rv : Option AV) (σ1 : St) : Array Value → State → Outcome → State → Prop := fun _ st o t => o = .returned (rv.map (cvv ad vF)) ∧ WP D cA ad L xs σ1 t.heap ∧ va_F (Aw ad) st t ∧ ∀ v, rv = some v → okV v
def wsY (y : Nat) : List Cond := .code (mN y) (mB y) (mL y) (mRt y) :: lwg
def rmY (y : Nat) : Room := { frames := mFr y, cells := 0, slots := 0, locals := mLo y }
def PcY (D : va_G) (cA : ClassId) (ad : Nat → Nat → Nat) (vF : Value) (L : Nat) (xs : Nat → Int32) (as : List AV) (σ : St) : Array Value → State → Prop := va_Pc (as.map (cvv ad vF)) (fun U => WP D cA ad L xs σ U.heap ∧ Evn D cA ad vF L xs (Aw ad) U)
/-- the machine runs what the abstract one runs, for n steps of it -/
def PP (l : Launch) (n : Nat) : Prop := ∀ (y pc : Nat) (ls st : List AV) (σ : St) (res : Option AV) (σ' : St), ex n y pc ls st σ = some (res, σ') → y < NM →
  ∀ (p : Program) (e : Env) (R : Room) (s : State) (m : MethodId) (args : Array Value) (below : List Frame) (meth : Method) (c : Code) (cells slots : Nat) (Q : State → Prop) (D : va_G) (cA : ClassId) (ad : Nat → Nat → Nat) (vF : Value) (L : Nat) (xs : Nat → Int32) (A : Nat → Prop),
  Cx p s m args c y → Evn D cA ad vF L xs A s → AdOK ad vF L → AdIn ad A → (mFr y ≤ R.frames ∧ mLo y ≤ R.locals ∧ cells ≤ R.cells ∧ slots ≤ R.slots) →
  (∀ (H : Heap) (locs : List Loc) (lsM : Array Slot) (pc n : Nat) (i : Instr) (st' : List AV), fetch y pc = some (i, n) → aRet y i st' = some res → (∀ v ∈ st', okV v) → WP D cA ad L xs σ' H → va_S A s.heap H locs → W p l e R s m args below meth c H locs cells slots Q (F0 m pc lsM (st'.map (cvv ad vF)))) →
  Wk p l e R s m args below meth c cells slots Q D cA ad vF L xs A y pc ls st σ
theorem PcY_blind {D : va_G} {cA : ClassId} {ad : Nat → Nat → Nat} {vF : Value} {L : Nat} {xs : Nat → Int32} {as : List AV} {σ : St} : FrameBlind (PcY D cA ad vF L xs as σ) := fun a U g mk h => ⟨h.1, h.2.1, h.2.2.calling a g mk⟩
theorem aRet_ok {y : Nat} {i : Instr} {st : List AV} {v : AV} (h : aRet y i st = some (some v)) (hs : ∀ v ∈ st, okV v) : okV v := by
  unfold aRet at h
  split at h
  · split at h <;> cases h
  · split at h
    · cases h; exact hs _ List.mem_cons_self
    · cases h
  · split at h
    · cases h; exact hs _ List.mem_cons_self
    · cases h
  · split at h
    · cases h; exact hs _ List.mem_cons_self
    · cases h
  · cases h
theorem met_of {l : Launch} {n : Nat} (ih : PP l n) {y : Nat} {as : List AV} {σ : St} {rv : Option AV} {σ1 : St} (hex : ex n y 0 (ent y as) [] σ = some (rv, σ1)) (hy : y < NM) (has : ∀ v ∈ as, okV v) (hcat : catS as ≤ mL y) {D : va_G} {cA : ClassId} {ad : Nat → Nat → Nat} {vF : Value} {L : Nat} {xs : Nat → Int32} (O : AdOK ad vF L) :
    Met l (mN y) (wsY y) (rmY y) (PcY D cA ad vF L xs as σ) (Qc D cA ad vF L xs rv σ1) 0 0 (Aw ad) := by
  obtain ⟨n1, n2, n3, n4, n5, n6⟩ := wNam_spec hy
  have nr := (wn_spec hy).2
  refine Met.ofW (cc := mB y) (maxL := mL y) (ret := mRt y) n2 rfl ?_
  intro p e s m args below meth c s₁ B hml hv
  obtain ⟨rfl, hWP, hE⟩ := hv
  have hts := atoms_spec (ws := wsY y) B.pre
  have hown : s.vm.findClass (mN y).cls = some m.cls := findClass_of_methodNamed B.named
  have hlocks := B.notSynchronized
  have hx := B.exec
  have hb := B.bytes
  have hr := B.returns
  rw [n1] at hown
  rw [lg_entry_eq]
  have hL := LR_ent (ad := ad) O.2.1 y as hcat
  refine ih y 0 (ent y as) [] σ rv σ1 hex hy p e _ s m _ below meth c 0 0 _ D cA ad vF L xs (Aw ad) ⟨hx, hb, hml, hown, fun w hw => hts w (List.mem_cons_of_mem _ hw)⟩ hE O AdIn.self ⟨Nat.le_refl _, Nat.le_refl _, Nat.zero_le _, Nat.zero_le _⟩ ?_ _ _ _ hL (ent_ok has) (fun v hv => by cases hv) hWP va_S.rf
  intro H locs lsM pc k i st' hf ha hs hW hS
  have hd := fetch_ok hf
  have hn := len_ok hf
  have hq : ∀ t : State, t.heap = H → s.WarmedH t.vm → ∀ v : Option Value, v = rv.map (cvv ad vF) → Qc D cA ad vF L xs rv σ1 (as.map (cvv ad vF)).toArray s (.returned v) t := fun t ht _ v hv => ⟨by rw [hv], by rw [ht]; exact hW, hS.F ht, fun w hw => aRet_ok (hw ▸ ha) hs⟩
  unfold aRet at ha
  split at ha
  · split at ha
    · rename_i hk
      cases ha
      obtain rfl := il1 hn (Nat.succ_ne_zero _)
      have hk : mK y = 0 := by simpa using hk
      rw [hk] at nr
      exact W.vret hx hb (hr.trans (of_decide_eq_true nr)) (fun t ht hW => hq t ht hW _ rfl) hS.2.2 hd
    · cases ha
  · rename_i v
    split at ha
    · rename_i hk
      cases ha
      obtain rfl := il1 hn (Nat.succ_ne_zero _)
      obtain ⟨okv, -⟩ := okV1 hs
      generalize hkk : mK y = kk at nr hk
      unfold rkOK at hk
      split at hk
      · exact W.iret hx hb (hr.trans (of_decide_eq_true nr)) (fun t ht hW => hq t ht hW _ rfl) hS.2.2 hd
      · refine W.zret (v := Int32.ofInt v) hx hb (hr.trans (of_decide_eq_true nr)) ?_ (fun t ht hW => hq t ht hW _ rfl) hS.2.2 hd
        simp only [Bool.or_eq_true, decide_eq_true_eq] at hk
        rcases hk with rfl | rfl <;> decide
      · refine W.zret (v := Int32.ofInt v) hx hb (hr.trans (of_decide_eq_true nr)) ?_ (fun t ht hW => hq t ht hW _ rfl) hS.2.2 hd
        have hk := of_decide_eq_true hk
        have h2 := (pk_charN (q := v.toNat) (by omega)).1
        have h3 : nI v.toNat = Int32.ofInt v := by
          show Int32.ofNat v.toNat = Int32.ofInt v
          rw [I_nat]
          congr 1
          omega
        rw [h3] at h2
        exact h2
      · refine W.zret (v := Int32.ofInt v) hx hb (hr.trans (of_decide_eq_true nr)) ?_ (fun t ht hW => hq t ht hW _ rfl) hS.2.2 hd
        have hk := of_decide_eq_true hk
        have h2 := pk_nb (Int32.ofInt v)
        have h3 : (Int32.ofInt v).toInt8.toInt32 = Int32.ofInt v := by
          apply Int32.toInt_inj.mp
          rw [Int8.toInt_toInt32, Int32.toInt_toInt8, toI okv]
          exact Int.bmod_eq_of_le (by omega) (by omega)
        rw [h3] at h2
        exact h2
      · cases hk
    · cases ha
  · split at ha
    · rename_i hk
      cases ha
      obtain rfl := il1 hn (Nat.succ_ne_zero _)
      have hk : mK y = 5 := by simpa using hk
      rw [hk] at nr
      exact W.lret hx hb (hr.trans (of_decide_eq_true nr)) (fun t ht hW => hq t ht hW _ rfl) hS.2.2 hd
    · cases ha
  · rename_i t r
    split at ha
    · rename_i hk
      cases ha
      obtain rfl := il1 hn (Nat.succ_ne_zero _)
      simp only [Bool.and_eq_true, beq_iff_eq] at hk
      have h33 : ¬ t = 33 := by have := hk.2; simpa using this
      rw [hk.1] at nr
      have hrt : ∃ nm, mRt y = some (.object nm) := by
        unfold rtK at nr
        cases hq9 : mRt y with
        | none => rw [hq9] at nr; cases nr
        | some ft =>
          rw [hq9] at nr
          cases ft with
          | object nm => exact ⟨nm, rfl⟩
          | _ => cases nr
      obtain ⟨nm, hrt⟩ := hrt
      rw [List.map_cons, cvv_r h33]
      exact W.aret hx hb (hr.trans hrt) (Or.inl ⟨nm, rfl⟩) (Or.inr ⟨_, rfl⟩) (fun t2 ht hW => hq t2 ht hW _ (by show some _ = some _; rw [cvv_r h33])) hS.2.2 hd
    · cases ha
  · cases ha
