theorem aGo_spec {m y : Nat} {st : List AV} {y' : Nat} {as rest : List AV} (h : aGo m y st = some (y', (as, rest))) : y' = y ∧ st = as.reverse ++ rest ∧ as.length = mNA y ∧ mFr y + 1 ≤ mFr m ∧ 19 + mL y + mLo y ≤ mLo m ∧ catS rest ≤ 8 ∧ catS as ≤ mL y := by
  unfold aGo at h
  split at h
  · rename_i hc
    simp only [Bool.and_eq_true] at hc
    obtain ⟨⟨⟨⟨h1, h2⟩, h3⟩, h4⟩, h5⟩ := hc
    have h3 := Nat.le_of_ble_eq_true h3
    cases h
    refine ⟨rfl, by rw [List.reverse_reverse, List.take_append_drop], by rw [List.length_reverse, List.length_take]; omega, Nat.le_of_ble_eq_true h1, Nat.le_of_ble_eq_true h2, Nat.le_of_ble_eq_true h4, Nat.le_of_ble_eq_true h5⟩
  · cases h
theorem nest_use {a h : String} {i : Nat} {x : MethodName} {U : State} {B : Array Value} (hZ : va_Nw (.methodLinkNest a i x h) U) : (Cond.methodLinkNest a i x h).before B U = true := va_Nw.use rfl hZ
section CALL
variable {p : Program} {l : Launch} {e : Env} {R : Room} {s : State} {m : MethodId} {args : Array Value} {below : List Frame} {meth : Method} {c : Code} {cells slots : Nat} {Q : State → Prop}
variable {D : va_G} {cA : ClassId} {ad : Nat → Nat → Nat} {vF : Value} {L : Nat} {xs : Nat → Int32} {A : Nat → Prop} {y : Nat} {pc n : Nat} {ls st : List AV} {σ : St}
/-- behind a call's run -/
theorem call_on {H : Heap} {locs : List Loc} {lsM : Array Slot} {st0 : List Value} {rest : List AV} {a : Array Value} {rv : Option AV} {σ1 : St} (hA : AdIn ad A)
    (hr : va_Run p l e R s m args below meth c H locs cells slots 0 0 (F0 m pc lsM st0) (rest.map (cvv ad vF)) (Qc D cA ad vF L xs rv σ1 a) (Aw ad)) (hS : va_S A s.heap H locs) (hs : ∀ v ∈ rest, okV v) (hL : LR ad vF (mL y) ls lsM) (hl : ∀ v ∈ ls, okV v)
    (k : Wk p l e R s m args below meth c cells slots Q D cA ad vF L xs A y (pc + 3) ls (rv.toList ++ rest) σ1) : W p l e R s m args below meth c H locs cells slots Q (F0 m pc lsM st0) := by
  intro T hT X
  obtain ⟨v, st₀, t, T', L2, h0, X', hL2, e1, e2, ⟨hv, hWP, ⟨hz, hk⟩, hok⟩, stp⟩ := hr T hT X
  have hv : v = rv.map (cvv ad vF) := by cases hv; rfl
  rw [h0] at hz hk
  have hS1 : va_S A s.heap T'.heap (locs ++ L2) := ⟨Nat.le_trans hS.1 (by rw [e1]; exact hz), fun q h1 h2 => by rw [e1, hk q (Nat.lt_of_lt_of_le h1 hS.1) (fun z => h2 (hA.le q z))]; exact hS.2.1 q h1 h2, fun q hq => by
    rcases List.mem_append.mp hq with h | h
    · exact hS.2.2 q h
    · exact hA.le _ (hL2 q h)⟩
  have hst : (rv.toList ++ rest).map (cvv ad vF) = v.toList ++ rest.map (cvv ad vF) := by
    rw [List.map_append, hv]
    cases rv <;> rfl
  have hok2 : ∀ w ∈ rv.toList ++ rest, okV w := fun w hw => by
    rcases List.mem_append.mp hw with h | h
    · cases rv with
      | none => cases h
      | some u => rcases List.mem_cons.mp h with h | h
                  · rw [h]; exact hok u rfl
                  · cases h
    · exact hs w h
  obtain ⟨t2, a1, b1⟩ := k T'.heap (locs ++ L2) lsM hL hl hok2 (by rw [e1]; exact hWP) hS1 T' rfl X'
  rw [hst] at a1
  exact ⟨t2, stp t2 a1, b1⟩
theorem call_sim {y' : Nat} {as rest : List AV} {i : Instr} (C : Cx p s m args c y) (E : Evn D cA ad vF L xs A s) (O : AdOK ad vF L) (hA : AdIn ad A) (hR : mFr y ≤ R.frames ∧ mLo y ≤ R.locals ∧ cells ≤ R.cells ∧ slots ≤ R.slots) (hf : fetch y pc = some (i, n)) (hc : aCall y i st = some (y', (as, rest)))
    {rv : Option AV} {σ1 : St} (hM : y' < NM → (∀ v ∈ as, okV v) → catS as ≤ mL y' → Met l (mN y') (wsY y') (rmY y') (PcY D cA ad vF L xs as σ) (Qc D cA ad vF L xs rv σ1) 0 0 (Aw ad))
    (k : Wk p l e R s m args below meth c cells slots Q D cA ad vF L xs A y (pc + 3) ls (rv.toList ++ rest) σ1) : Wk p l e R s m args below meth c cells slots Q D cA ad vF L xs A y pc ls st σ := by
  intro H locs lsM hL hl hs hW hS
  obtain ⟨hx, hb, hml, hown, hts⟩ := C
  have hd := fetch_ok hf
  have hn := len_ok hf
  have hsz : lsM.size = mL y := hL.2.1
  have fix : CallFix p m c (mB y) (mL y) s args lwg (cN (mC y)) := ⟨hx, hb, hml, hown, hts⟩
  -- what every callee gives
  have face : ∀ y', y' < 220 → mFr y' + 1 ≤ mFr y → 19 + mL y' + mLo y' ≤ mLo y →
      (rmY y').cells = 0 ∧ (rmY y').slots = 0 ∧ (rmY y').frames + 1 ≤ R.frames ∧ 8 + (mL y' + 11) + (rmY y').locals ≤ R.locals ∧ (∀ w ∈ wsY y', ∀ (a' : Array Value) (U : State), s.WarmedH U.vm → w.before a' U = true) ∧ Cond.code (mN y') (mB y') (mL y') (mRt y') ∈ wsY y' ∧
      (Cond.code (mN y') (mB y') (mL y') (mRt y')).before args s = true ∧ (Cond.initialized (mN y').cls).before args s = true ∧ ((mN y').cls ≠ "java/lang/invoke/MethodHandle" ∧ (mN y').cls ≠ "java/lang/invoke/VarHandle") := by
    intro y' hy h1 h2
    obtain ⟨c1, c2, -, -⟩ := wc_spec hy
    obtain ⟨-, -, n3, n4, -, -⟩ := wNam_spec (y := y') (by have : NM = 221 := rfl; omega)
    refine ⟨rfl, rfl, Nat.le_trans h1 hR.1, ?_, ?_, List.mem_cons_self, hts _ c1, hts _ c2, n3, n4⟩
    · have h3 : (rmY y').locals = mLo y' := rfl
      rw [h3]
      have := hR.2.1
      omega
    · refine pay_in (big := lwg) hts (fun w hw => ?_)
      have hm : w ∈ lwg := by
        rcases List.mem_cons.mp hw with h | h
        · rw [h]; exact c1
        · exact h
      exact ⟨hm, good_of_word (List.all_eq_true.mp lwg_all w hm)⟩
  have pcs : ∀ (y' : Nat) (as : List AV) (U : State), U.heap = H → s.WarmedH U.vm → PcY D cA ad vF L xs as σ (as.map (cvv ad vF)).toArray U := fun y' as U hU hWm => ⟨rfl, by rw [hU]; exact hW, E.move hWm (by rw [hU]; exact hS.1) (fun q h1 h2 => by rw [hU]; exact hS.2.1 q h1 h2) hA.le⟩
  unfold aCall at hc
  split at hc
  · rename_i idx
    obtain rfl := il1 hn (Nat.succ_ne_zero _)
    split at hc
    · rename_i y1 ps hlk
      split at hc
      · rename_i hst
        obtain ⟨rfl, hsplit, hlen, hfr, hlo, hcr, hca⟩ := aGo_spec hc
        obtain ⟨w1, w2⟩ := lk_spec hlk
        obtain ⟨f1, f2, f3, f4, f5, f6, f7, f8, f9⟩ := face y' w2 hfr hlo
        obtain ⟨-, -, c3, -⟩ := wc_spec w2
        have hN : y' < NM := by have : NM = 221 := rfl; omega
        obtain ⟨-, -, -, -, n5, -⟩ := wNam_spec hN
        have hsA : ∀ v ∈ as, okV v := fun v hv => hs v (by rw [hsplit]; exact List.mem_append_left _ (List.mem_reverse.mpr hv))
        have hsR : ∀ v ∈ rest, okV v := fun v hv => hs v (by rw [hsplit]; exact List.mem_append_right _ hv)
        refine call_on hA (va_runS (n := (as.map (cvv ad vF)).length) (As := as.map (cvv ad vF)) (rest := rest.map (cvv ad vF)) fix (hM hN hsA hca) ⟨⟨f1, f2, f3, f4, f5, f6, f7, f8, f9, fun sig h => ?_, hts _ w1⟩, hts _ (c3 hst)⟩ ⟨PcY_blind, pcs y' as⟩ rfl rfl hsz ?_ ?_ hd ⟨hR.2.2.1, hR.2.2.2⟩) hS hsR hL hl k
        · rw [h, if_pos hst] at n5
          have := Option.some.inj n5
          rw [List.length_map, hlen]
          exact this.symm
        · show st.map (cvv ad vF) = _
          rw [hsplit, List.map_append, List.map_reverse]
        · exact lv_room (pc := pc) (ls := lsM) (rest := st.map (cvv ad vF)) (by rw [cvv_sum O.2.1]; exact hcr)
      · cases hc
    · split at hc
      · rename_i y1 hlk
        split at hc
        · rename_i hst
          obtain ⟨rfl, hsplit, hlen, hfr, hlo, hcr, hca⟩ := aGo_spec hc
          obtain ⟨w1, w2⟩ := ln_spec hlk
          obtain ⟨f1, f2, f3, f4, f5, f6, f7, f8, f9⟩ := face y' w2 hfr hlo
          obtain ⟨-, -, c3, -⟩ := wc_spec w2
          have hN : y' < NM := by have : NM = 221 := rfl; omega
          obtain ⟨-, -, -, -, n5, -⟩ := wNam_spec hN
          have hsA : ∀ v ∈ as, okV v := fun v hv => hs v (by rw [hsplit]; exact List.mem_append_left _ (List.mem_reverse.mpr hv))
          have hsR : ∀ v ∈ rest, okV v := fun v hv => hs v (by rw [hsplit]; exact List.mem_append_right _ hv)
          refine call_on hA (va_runSN (n := (as.map (cvv ad vF)).length) (As := as.map (cvv ad vF)) (rest := rest.map (cvv ad vF)) (host := RX4) fix (hM hN hsA hca) ⟨⟨⟨f1, f2, f3, f4, f5, f6⟩, f7, f8, f9, fun sig h => ?_, nest_use (E.2.2.2.2.2.1 (mC y, (idx, y')) w1)⟩, hts _ (c3 hst), trivial⟩ ⟨PcY_blind, pcs y' as⟩ rfl rfl hsz ?_ ?_ hd ⟨hR.2.2.1, hR.2.2.2⟩) hS hsR hL hl k
          · rw [h, if_pos hst] at n5
            have := Option.some.inj n5
            rw [List.length_map, hlen]
            exact this.symm
          · show st.map (cvv ad vF) = _
            rw [hsplit, List.map_append, List.map_reverse]
          · exact lv_room (pc := pc) (ls := lsM) (rest := st.map (cvv ad vF)) (by rw [cvv_sum O.2.1]; exact hcr)
        · cases hc
      · cases hc
  · rename_i idx
    obtain rfl := il1 hn (Nat.succ_ne_zero _)
    split at hc
    · rename_i y1 ps hlk
      split at hc
      · rename_i y2 as2 rest2 hgo
        split at hc
        · rename_i hst
          cases hc
          rw [Bool.and_eq_true] at hst
          obtain ⟨hst, hrc⟩ := hst
          have hst : mSt y1 = false := by simpa using hst
          obtain ⟨rfl, hsplit, hlen, hfr, hlo, hcr, hca⟩ := aGo_spec hgo
          obtain ⟨w1, w2⟩ := lk_spec hlk
          obtain ⟨f1, f2, f3, f4, f5, f6, f7, f8, f9⟩ := face y' w2 hfr hlo
          obtain ⟨-, -, -, c4⟩ := wc_spec w2
          have hN : y' < NM := by have : NM = 221 := rfl; omega
          obtain ⟨n1, -, -, -, n5, n6⟩ := wNam_spec hN
          have hsA : ∀ v ∈ as, okV v := fun v hv => hs v (by rw [hsplit]; exact List.mem_append_left _ (List.mem_reverse.mpr hv))
          have hsR : ∀ v ∈ rest, okV v := fun v hv => hs v (by rw [hsplit]; exact List.mem_append_right _ hv)
          unfold recv at hrc
          split at hrc
          · rename_i t r as0
            have hrc : rcl t = mC y' := by simpa using hrc
            have hmc : mC y' < 11 := by
              have h9 := (wn_spec hN).1
              unfold wNam at h9
              rw [Bool.and_eq_true] at h9
              exact Nat.le_of_ble_eq_true h9.2
            have h33 : ¬ t = 33 := by
              intro z
              subst z
              have : rcl 33 = 99 := rfl
              omega
            have hrec : ∃ cellB : Cell, H[ad t r]? = some cellB ∧ cellB.vm.isStatics = false ∧ s.vm.findClass (mN y').cls = some cellB.cls := by
              rw [n1, ← hrc]
              have hokr : okR t r := hsA _ List.mem_cons_self
              rcases rc_spec (t := t) (by omega) with ⟨rfl, h7⟩ | ⟨h5, h6, h7⟩
              · rw [h7]
                rcases hokr with h | h | h | h | h
                · have := vld_lt h; omega
                · exact vk_recv E.2.1 h.2 hS
                · omega
                · omega
                · omega
              · have hv := okR_obj hokr h5
                have he := wld_at (cA := cA) (ad := ad) (σ := σ) hv
                rw [cel_obj h7] at he
                rw [← h6]
                exact va_recv E.1 hW.1 (vw_at _ h5) he
            refine call_on hA (va_runV (n := (as0.map (cvv ad vF)).length) (C := (mN y').cls) (b := ad t r) (As := as0.map (cvv ad vF)) (rest := rest.map (cvv ad vF)) fix (hM hN hsA hca) ⟨⟨f1, f2, f3, f4, f5, f6, f7, f8, f9, fun sig h => ?_, hts _ w1⟩, hts _ (c4 hst).1, hts _ (c4 hst).2⟩ ⟨PcY_blind, hrec, fun U hU hWm => ?_⟩ rfl rfl hsz ?_ ?_ hd ⟨hR.2.2.1, hR.2.2.2⟩) hS hsR hL hl k
            · rw [h, if_neg (by rw [hst]; decide)] at n5
              have h10 : sig.parameters.length = mNA y' - 1 := Option.some.inj n5
              rw [List.length_map]
              rw [List.length_cons] at hlen
              omega
            · have := pcs y' (.inr (.inl (t, r)) :: as0) U hU hWm
              rw [List.map_cons, cvv_r h33] at this
              exact this
            · show st.map (cvv ad vF) = _
              rw [hsplit, List.map_append, List.map_reverse, List.map_cons, cvv_r h33, List.reverse_cons, List.append_assoc]
              rfl
            · exact lv_room (pc := pc) (ls := lsM) (rest := st.map (cvv ad vF)) (by rw [cvv_sum O.2.1]; exact hcr)
          · cases hrc
        · cases hc
      · cases hc
    · cases hc
  · cases hc
end CALL
/-- THE SIMULATION -/
theorem sim (l : Launch) : ∀ n, PP l n := by
  intro n
  induction n with
  | zero => intro y pc ls st σ res σ' h; cases h
  | succ n ih =>
    intro y pc ls st σ res σ' h hy p e R s m args below meth c cells slots Q D cA ad vF L xs A C E O hA hR hret
    unfold ex at h
    split at h
    · cases h
    · rename_i i len hf
      split at h
      · rename_i rv hrv
        cases h
        intro H locs lsM hL hl hs hW hS
        exact hret H locs lsM pc len i st hf hrv hs hW hS
      · split at h
        · rename_i y' as rest hcall
          split at h
          · rename_i rv σ1 hex
            exact call_sim C E O hA hR hf hcall (fun hN has hca => met_of ih hex hN has hca O) (ih y (pc + 3) ls (rv.toList ++ rest) σ1 res σ' h hy p e R s m args below meth c cells slots Q D cA ad vF L xs A C E O hA hR hret)
          · cases h
        · split at h
          · rename_i pc' ls' st' σ2 hstep
            exact sim_step C E O hA hR hf hstep (ih y pc' ls' st' σ2 res σ' h hy p e R s m args below meth c cells slots Q D cA ad vF L xs A C E O hA hR hret)
          · cases h
