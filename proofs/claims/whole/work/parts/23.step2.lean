section STEP2
variable {p : Program} {l : Launch} {e : Env} {R : Room} {s : State} {m : MethodId} {args : Array Value} {below : List Frame} {meth : Method} {c : Code} {cells slots : Nat} {Q : State → Prop}
variable {D : va_G} {cA : ClassId} {ad : Nat → Nat → Nat} {vF : Value} {L : Nat} {xs : Nat → Int32} {A : Nat → Prop} {y : Nat} {pc n : Nat} {ls st : List AV} {σ : St} {pc' : Nat} {ls' st' : List AV} {σ' : St}

theorem sk_const (C : Cx p s m args c y) (O : AdOK ad vF L) {i : Instr} (hf : fetch y pc = some (i, n)) (hi : (∃ v, i = .iconst v) ∨ (∃ v, i = .bipush v) ∨ (∃ v, i = .sipush v) ∨ (∃ v, i = .lconst v))
    (ha : aStep y i n pc ls st σ = some (pc', (ls', (st', σ')))) (k : Wk p l e R s m args below meth c cells slots Q D cA ad vF L xs A y pc' ls' st' σ') : Wk p l e R s m args below meth c cells slots Q D cA ad vF L xs A y pc ls st σ := by
  intro H locs lsM hL hl hs hW hS
  obtain ⟨hx, hb, hml, hown, hts⟩ := C
  have hd := fetch_ok hf
  have hn := len_ok hf
  rcases hi with ⟨v, rfl⟩ | ⟨v, rfl⟩ | ⟨v, rfl⟩ | ⟨v, rfl⟩
  · obtain rfl := il1 hn (Nat.succ_ne_zero _)
    simp only [aStep] at ha
    split at ha
    · rename_i h
      cases ha
      exact lv_iconst hx hb hd rfl (k H locs lsM hL hl (okVc ⟨by omega, by omega⟩ hs) hW hS)
    · cases ha
  · obtain rfl := il1 hn (Nat.succ_ne_zero _)
    simp only [aStep] at ha
    split at ha
    · rename_i h
      cases ha
      exact lv_bipush hx hb hd (I_8 h) (k H locs lsM hL hl (okVc ⟨by omega, by omega⟩ hs) hW hS)
    · cases ha
  · obtain rfl := il1 hn (Nat.succ_ne_zero _)
    simp only [aStep] at ha
    split at ha
    · rename_i h
      cases ha
      exact lv_sipush hx hb hd (I_16 h) (k H locs lsM hL hl (okVc ⟨by omega, by omega⟩ hs) hW hS)
    · cases ha
  · obtain rfl := il1 hn (Nat.succ_ne_zero _)
    simp only [aStep] at ha
    cases ha
    have hv := v.isLt
    exact lv_lconst hx hb hd (L_nat _) (k H locs lsM hL hl (okVc (v := .inr (.inr ((v : Nat) : Int))) ⟨by omega, by omega⟩ hs) hW hS)
theorem sk_stk (C : Cx p s m args c y) (O : AdOK ad vF L) {i : Instr} (hf : fetch y pc = some (i, n)) (hi : i = .dup ∨ i = .dup2 ∨ i = .pop)
    (ha : aStep y i n pc ls st σ = some (pc', (ls', (st', σ')))) (k : Wk p l e R s m args below meth c cells slots Q D cA ad vF L xs A y pc' ls' st' σ') : Wk p l e R s m args below meth c cells slots Q D cA ad vF L xs A y pc ls st σ := by
  intro H locs lsM hL hl hs hW hS
  obtain ⟨hx, hb, hml, hown, hts⟩ := C
  have hd := fetch_ok hf
  have hn := len_ok hf
  rcases hi with rfl | rfl | rfl
  · obtain rfl := il1 hn (Nat.succ_ne_zero _)
    simp only [aStep] at ha
    split at ha
    · rename_i v st0
      split at ha
      · cases ha
      · rename_i hv
        cases ha
        obtain ⟨h1, h2⟩ := okV1 hs
        exact lv_dup hx hb hd (by rw [cvv_cat O.2.1, if_neg hv]) (k H locs lsM hL hl (okVc h1 hs) hW hS)
    · cases ha
  · obtain rfl := il1 hn (Nat.succ_ne_zero _)
    simp only [aStep] at ha
    split at ha
    · rename_i a0 b0 st0
      split at ha
      · cases ha
      · rename_i hv
        cases ha
        obtain ⟨h1, h2, h3⟩ := okV2 hs
        simp only [Bool.or_eq_true, not_or] at hv
        exact lv_dup2_11 hx hb hd (by rw [cvv_cat O.2.1, if_neg hv.1]) (by rw [cvv_cat O.2.1, if_neg hv.2]) (k H locs lsM hL hl (okVc h1 (okVc h2 hs)) hW hS)
    · cases ha
  · obtain rfl := il1 hn (Nat.succ_ne_zero _)
    simp only [aStep] at ha
    split at ha
    · rename_i v st0
      split at ha
      · cases ha
      · rename_i hv
        cases ha
        obtain ⟨h1, h2⟩ := okV1 hs
        exact lv_pop hx hb hd (by rw [cvv_cat O.2.1, if_neg hv]) (k H locs lsM hL hl h2 hW hS)
    · cases ha
theorem sk_bin (C : Cx p s m args c y) (O : AdOK ad vF L) {i : Instr} (hf : fetch y pc = some (i, n)) (hi : i = .iadd ∨ i = .isub ∨ i = .imul ∨ i = .idiv ∨ i = .irem ∨ i = .iand ∨ i = .ior ∨ i = .ixor ∨ i = .ishl ∨ i = .ishr ∨ i = .iushr)
    (ha : aStep y i n pc ls st σ = some (pc', (ls', (st', σ')))) (k : Wk p l e R s m args below meth c cells slots Q D cA ad vF L xs A y pc' ls' st' σ') : Wk p l e R s m args below meth c cells slots Q D cA ad vF L xs A y pc ls st σ := by
  intro H locs lsM hL hl hs hW hS
  obtain ⟨hx, hb, hml, hown, hts⟩ := C
  have hd := fetch_ok hf
  have hn := len_ok hf
  rcases hi with rfl | rfl | rfl | rfl | rfl | rfl | rfl | rfl | rfl | rfl | rfl
  · obtain rfl := il1 hn (Nat.succ_ne_zero _)
    simp only [aStep, binI, binL] at ha
    split at ha
    · rename_i y0 x0 st0
      cases ha
      obtain ⟨h1, h2, h3⟩ := okV2 hs
      have kk := k H locs lsM hL hl (okVc (wr_ok _) h3) hW hS
      rw [List.map_cons, show cvv ad vF (.inl (wr (x0 + y0))) = .int (Int32.ofInt x0 + Int32.ofInt y0) from congrArg Value.int (by rw [I_wr, Int32.ofInt_add])] at kk
      exact lv_iadd hx hb hd kk
    · simp at ha
    · cases ha
  · obtain rfl := il1 hn (Nat.succ_ne_zero _)
    simp only [aStep, binI, binL] at ha
    split at ha
    · rename_i y0 x0 st0
      cases ha
      obtain ⟨h1, h2, h3⟩ := okV2 hs
      have kk := k H locs lsM hL hl (okVc (wr_ok _) h3) hW hS
      rw [List.map_cons, show cvv ad vF (.inl (wr (x0 - y0))) = .int (Int32.ofInt x0 - Int32.ofInt y0) from congrArg Value.int (by rw [I_wr, Int32.ofInt_sub])] at kk
      exact lv_isub hx hb hd kk
    · simp at ha
    · cases ha
  · obtain rfl := il1 hn (Nat.succ_ne_zero _)
    simp only [aStep, binI, binL] at ha
    split at ha
    · rename_i y0 x0 st0
      cases ha
      obtain ⟨h1, h2, h3⟩ := okV2 hs
      have kk := k H locs lsM hL hl (okVc (wr_ok _) h3) hW hS
      rw [List.map_cons, show cvv ad vF (.inl (wr (x0 * y0))) = .int (Int32.ofInt x0 * Int32.ofInt y0) from congrArg Value.int (by rw [I_wr, Int32.ofInt_mul])] at kk
      exact lv_imul hx hb hd kk
    · simp at ha
    · cases ha
  · obtain rfl := il1 hn (Nat.succ_ne_zero _)
    simp only [aStep, binI, binL] at ha
    split at ha
    · rename_i y0 x0 st0
      split at ha
      · rename_i z0 hz
        split at hz
        · cases hz
        · rename_i hy0
          cases hz
          cases ha
          obtain ⟨h1, h2, h3⟩ := okV2 hs
          have kk := k H locs lsM hL hl (okVc (wr_ok _) h3) hW hS
          rw [List.map_cons, show cvv ad vF (.inl (wr (x0.tdiv y0))) = .int (Int32.ofInt x0 / Int32.ofInt y0) from congrArg Value.int ((I_div h2 h1).symm)] at kk
          exact lv_idiv hx hb hd (fun z => hy0 ((I_eq h1 okI_0).mp (z.trans I_0))) kk
      · cases ha
    · simp at ha
    · cases ha
  · obtain rfl := il1 hn (Nat.succ_ne_zero _)
    simp only [aStep, binI, binL] at ha
    split at ha
    · rename_i y0 x0 st0
      split at ha
      · rename_i z0 hz
        split at hz
        · cases hz
        · rename_i hy0
          cases hz
          cases ha
          obtain ⟨h1, h2, h3⟩ := okV2 hs
          have kk := k H locs lsM hL hl (okVc (tmod_ok h2) h3) hW hS
          rw [List.map_cons, show cvv ad vF (.inl (x0.tmod y0)) = .int (Int32.ofInt x0 - Int32.ofInt x0 / Int32.ofInt y0 * Int32.ofInt y0) from congrArg Value.int ((I_rem h2 h1).symm)] at kk
          exact lv_irem hx hb hd (fun z => hy0 ((I_eq h1 okI_0).mp (z.trans I_0))) kk
      · cases ha
    · simp at ha
    · cases ha
  · obtain rfl := il1 hn (Nat.succ_ne_zero _)
    simp only [aStep, binI, binL] at ha
    split at ha
    · rename_i y0 x0 st0
      cases ha
      obtain ⟨h1, h2, h3⟩ := okV2 hs
      have kk := k H locs lsM hL hl (okVc (okI_to _) h3) hW hS
      rw [List.map_cons, show cvv ad vF (.inl ((Int32.ofInt x0 &&& Int32.ofInt y0).toInt)) = .int (Int32.ofInt x0 &&& Int32.ofInt y0) from congrArg Value.int (Int32.ofInt_toInt _)] at kk
      exact lv_iand hx hb hd kk
    · simp at ha
    · cases ha
  · obtain rfl := il1 hn (Nat.succ_ne_zero _)
    simp only [aStep, binI, binL] at ha
    split at ha
    · rename_i y0 x0 st0
      cases ha
      obtain ⟨h1, h2, h3⟩ := okV2 hs
      have kk := k H locs lsM hL hl (okVc (okI_to _) h3) hW hS
      rw [List.map_cons, show cvv ad vF (.inl ((Int32.ofInt x0 ||| Int32.ofInt y0).toInt)) = .int (Int32.ofInt x0 ||| Int32.ofInt y0) from congrArg Value.int (Int32.ofInt_toInt _)] at kk
      exact lv_ior hx hb hd kk
    · simp at ha
    · cases ha
  · obtain rfl := il1 hn (Nat.succ_ne_zero _)
    simp only [aStep, binI, binL] at ha
    split at ha
    · rename_i y0 x0 st0
      cases ha
      obtain ⟨h1, h2, h3⟩ := okV2 hs
      have kk := k H locs lsM hL hl (okVc (okI_to _) h3) hW hS
      rw [List.map_cons, show cvv ad vF (.inl ((Int32.ofInt x0 ^^^ Int32.ofInt y0).toInt)) = .int (Int32.ofInt x0 ^^^ Int32.ofInt y0) from congrArg Value.int (Int32.ofInt_toInt _)] at kk
      exact lv_ixor hx hb hd kk
    · simp at ha
    · cases ha
  · obtain rfl := il1 hn (Nat.succ_ne_zero _)
    simp only [aStep, binI, binL] at ha
    split at ha
    · rename_i y0 x0 st0
      cases ha
      obtain ⟨h1, h2, h3⟩ := okV2 hs
      have kk := k H locs lsM hL hl (okVc (okI_to _) h3) hW hS
      rw [List.map_cons, show cvv ad vF (.inl ((Int32.ofInt x0 <<< (Int32.ofInt y0 &&& 31)).toInt)) = .int (Int32.ofInt x0 <<< (Int32.ofInt y0 &&& 31)) from congrArg Value.int (Int32.ofInt_toInt _)] at kk
      exact lv_ishl hx hb hd kk
    · simp at ha
    · cases ha
  · obtain rfl := il1 hn (Nat.succ_ne_zero _)
    simp only [aStep, binI, binL] at ha
    split at ha
    · rename_i y0 x0 st0
      cases ha
      obtain ⟨h1, h2, h3⟩ := okV2 hs
      have kk := k H locs lsM hL hl (okVc (okI_to _) h3) hW hS
      rw [List.map_cons, show cvv ad vF (.inl ((Int32.ofInt x0 >>> (Int32.ofInt y0 &&& 31)).toInt)) = .int (Int32.ofInt x0 >>> (Int32.ofInt y0 &&& 31)) from congrArg Value.int (Int32.ofInt_toInt _)] at kk
      exact lv_ishr hx hb hd kk
    · simp at ha
    · cases ha
  · obtain rfl := il1 hn (Nat.succ_ne_zero _)
    simp only [aStep, binI, binL] at ha
    split at ha
    · rename_i y0 x0 st0
      cases ha
      obtain ⟨h1, h2, h3⟩ := okV2 hs
      have kk := k H locs lsM hL hl (okVc (okI_to _) h3) hW hS
      rw [List.map_cons, show cvv ad vF (.inl ((((Int32.ofInt x0).toUInt32 >>> ((Int32.ofInt y0).toUInt32 &&& Int32.toUInt32 31)).toInt32).toInt)) = .int (((Int32.ofInt x0).toUInt32 >>> ((Int32.ofInt y0).toUInt32 &&& Int32.toUInt32 31)).toInt32) from congrArg Value.int (Int32.ofInt_toInt _)] at kk
      exact lv_iushr hx hb hd rfl kk
    · simp at ha
    · cases ha
theorem L_0 : (0 : Int64) = Int64.ofInt 0 := by decide
theorem sk_binL (C : Cx p s m args c y) (O : AdOK ad vF L) {i : Instr} (hf : fetch y pc = some (i, n)) (hi : i = .ladd ∨ i = .lsub ∨ i = .lmul ∨ i = .ldiv ∨ i = .lrem)
    (ha : aStep y i n pc ls st σ = some (pc', (ls', (st', σ')))) (k : Wk p l e R s m args below meth c cells slots Q D cA ad vF L xs A y pc' ls' st' σ') : Wk p l e R s m args below meth c cells slots Q D cA ad vF L xs A y pc ls st σ := by
  intro H locs lsM hL hl hs hW hS
  obtain ⟨hx, hb, hml, hown, hts⟩ := C
  have hd := fetch_ok hf
  have hn := len_ok hf
  rcases hi with rfl | rfl | rfl | rfl | rfl
  · obtain rfl := il1 hn (Nat.succ_ne_zero _)
    simp only [aStep, binI, binL] at ha
    split at ha
    · simp at ha
    · rename_i y0 x0 st0
      cases ha
      obtain ⟨h1, h2, h3⟩ := okV2 hs
      have kk := k H locs lsM hL hl (okVc (v := .inr (.inr (wl (x0 + y0)))) (wl_ok _) h3) hW hS
      rw [List.map_cons, show cvv ad vF (.inr (.inr (wl (x0 + y0)))) = .long (Int64.ofInt x0 + Int64.ofInt y0) from congrArg Value.long (by rw [L_wl, Int64.ofInt_add])] at kk
      exact lv_ladd hx hb hd kk
    · cases ha
  · obtain rfl := il1 hn (Nat.succ_ne_zero _)
    simp only [aStep, binI, binL] at ha
    split at ha
    · simp at ha
    · rename_i y0 x0 st0
      cases ha
      obtain ⟨h1, h2, h3⟩ := okV2 hs
      have kk := k H locs lsM hL hl (okVc (v := .inr (.inr (wl (x0 - y0)))) (wl_ok _) h3) hW hS
      rw [List.map_cons, show cvv ad vF (.inr (.inr (wl (x0 - y0)))) = .long (Int64.ofInt x0 - Int64.ofInt y0) from congrArg Value.long (by rw [L_wl, Int64.ofInt_sub])] at kk
      exact lv_lsub hx hb hd kk
    · cases ha
  · obtain rfl := il1 hn (Nat.succ_ne_zero _)
    simp only [aStep, binI, binL] at ha
    split at ha
    · simp at ha
    · rename_i y0 x0 st0
      cases ha
      obtain ⟨h1, h2, h3⟩ := okV2 hs
      have kk := k H locs lsM hL hl (okVc (v := .inr (.inr (wl (x0 * y0)))) (wl_ok _) h3) hW hS
      rw [List.map_cons, show cvv ad vF (.inr (.inr (wl (x0 * y0)))) = .long (Int64.ofInt x0 * Int64.ofInt y0) from congrArg Value.long (by rw [L_wl, Int64.ofInt_mul])] at kk
      exact lv_lmul hx hb hd kk
    · cases ha
  · obtain rfl := il1 hn (Nat.succ_ne_zero _)
    simp only [aStep, binI, binL] at ha
    split at ha
    · simp at ha
    · rename_i y0 x0 st0
      split at ha
      · rename_i z0 hz
        split at hz
        · cases hz
        · rename_i hy0
          cases hz
          cases ha
          obtain ⟨h1, h2, h3⟩ := okV2 hs
          have kk := k H locs lsM hL hl (okVc (v := .inr (.inr (wl (x0.tdiv y0)))) (wl_ok _) h3) hW hS
          rw [List.map_cons, show cvv ad vF (.inr (.inr (wl (x0.tdiv y0)))) = .long (Int64.ofInt x0 / Int64.ofInt y0) from congrArg Value.long ((L_div h2 h1).symm)] at kk
          exact lv_ldiv hx hb hd (fun z => hy0 ((L_eq h1 ⟨by omega, by omega⟩).mp (z.trans L_0))) kk
      · cases ha
    · cases ha
  · obtain rfl := il1 hn (Nat.succ_ne_zero _)
    simp only [aStep, binI, binL] at ha
    split at ha
    · simp at ha
    · rename_i y0 x0 st0
      split at ha
      · rename_i z0 hz
        split at hz
        · cases hz
        · rename_i hy0
          cases hz
          cases ha
          obtain ⟨h1, h2, h3⟩ := okV2 hs
          have kk := k H locs lsM hL hl (okVc (v := .inr (.inr (x0.tmod y0))) (tmodL_ok h2) h3) hW hS
          rw [List.map_cons, show cvv ad vF (.inr (.inr (x0.tmod y0))) = .long (Int64.ofInt x0 - Int64.ofInt x0 / Int64.ofInt y0 * Int64.ofInt y0) from congrArg Value.long ((L_rem h2 h1).symm)] at kk
          exact lv_lrem hx hb hd (fun z => hy0 ((L_eq h1 ⟨by omega, by omega⟩).mp (z.trans L_0))) kk
      · cases ha
    · cases ha
theorem sk_un (C : Cx p s m args c y) (O : AdOK ad vF L) {i : Instr} (hf : fetch y pc = some (i, n)) (hi : i = .ineg ∨ i = .i2b ∨ i = .i2c ∨ i = .i2l ∨ i = .lcmp)
    (ha : aStep y i n pc ls st σ = some (pc', (ls', (st', σ')))) (k : Wk p l e R s m args below meth c cells slots Q D cA ad vF L xs A y pc' ls' st' σ') : Wk p l e R s m args below meth c cells slots Q D cA ad vF L xs A y pc ls st σ := by
  intro H locs lsM hL hl hs hW hS
  obtain ⟨hx, hb, hml, hown, hts⟩ := C
  have hd := fetch_ok hf
  have hn := len_ok hf
  rcases hi with rfl | rfl | rfl | rfl | rfl
  · obtain rfl := il1 hn (Nat.succ_ne_zero _)
    simp only [aStep, aUn, unI] at ha
    split at ha
    · rename_i x0 st0
      cases ha
      obtain ⟨h1, h2⟩ := okV1 hs
      have kk := k H locs lsM hL hl (okVc (wr_ok _) h2) hW hS
      rw [List.map_cons, show cvv ad vF (.inl (wr (-x0))) = .int (-Int32.ofInt x0) from congrArg Value.int (by rw [I_wr, Int32.ofInt_neg])] at kk
      exact lv_ineg hx hb hd kk
    · cases ha
  · obtain rfl := il1 hn (Nat.succ_ne_zero _)
    simp only [aStep, aUn, unI] at ha
    split at ha
    · rename_i x0 st0
      cases ha
      obtain ⟨h1, h2⟩ := okV1 hs
      have kk := k H locs lsM hL hl (okVc (okI_to _) h2) hW hS
      rw [List.map_cons, show cvv ad vF (.inl (Int32.ofInt x0).toInt8.toInt32.toInt) = .int ((Int32.ofInt x0).toInt8.toInt32) from congrArg Value.int (Int32.ofInt_toInt _)] at kk
      exact lv_i2b hx hb hd rfl kk
    · cases ha
  · obtain rfl := il1 hn (Nat.succ_ne_zero _)
    simp only [aStep, aUn, unI] at ha
    split at ha
    · rename_i x0 st0
      cases ha
      obtain ⟨h1, h2⟩ := okV1 hs
      have kk := k H locs lsM hL hl (okVc (okI_to _) h2) hW hS
      rw [List.map_cons, show cvv ad vF (.inl ((Int32.ofInt x0).toUInt32 % 65536).toInt32.toInt) = .int (((Int32.ofInt x0).toUInt32 % 65536).toInt32) from congrArg Value.int (Int32.ofInt_toInt _)] at kk
      exact lv_i2c hx hb hd rfl kk
    · cases ha
  · obtain rfl := il1 hn (Nat.succ_ne_zero _)
    simp only [aStep] at ha
    split at ha
    · rename_i x0 st0
      cases ha
      obtain ⟨h1, h2⟩ := okV1 hs
      have h3 : okL x0 := ⟨by have := h1.1; omega, by have := h1.2; omega⟩
      exact lv_i2l hx hb hd (I_i2l h1) (k H locs lsM hL hl (okVc (v := .inr (.inr x0)) h3 h2) hW hS)
    · cases ha
  · obtain rfl := il1 hn (Nat.succ_ne_zero _)
    simp only [aStep] at ha
    split at ha
    · rename_i y0 x0 st0
      cases ha
      obtain ⟨h1, h2, h3⟩ := okV2 hs
      have h4 : okI (if y0 < x0 then 1 else if x0 = y0 then 0 else -1) := by
        unfold okI
        constructor <;> (repeat' split) <;> omega
      have kk := k H locs lsM hL hl (okVc h4 h3) hW hS
      rw [List.map_cons, show cvv ad vF (.inl (if y0 < x0 then 1 else if x0 = y0 then 0 else -1)) = .int (lg_cmp (Int64.ofInt x0) (Int64.ofInt y0)) from congrArg Value.int (I_cmp h2 h1).symm] at kk
      exact W.lcmp hx hb hd kk
    · cases ha
theorem cmp_eq {x y : Int} (hx : okI x) (hy : okI y) : cmpI .eq x y = true ↔ Int32.ofInt x = Int32.ofInt y := by rw [I_eq hx hy]; simp [cmpI]
theorem cmp_ne {x y : Int} (hx : okI x) (hy : okI y) : cmpI .ne x y = true ↔ ¬ Int32.ofInt x = Int32.ofInt y := by rw [I_eq hx hy]; simp [cmpI]
theorem cmp_lt {x y : Int} (hx : okI x) (hy : okI y) : cmpI .lt x y = true ↔ Int32.ofInt x < Int32.ofInt y := by rw [I_lt hx hy]; simp [cmpI]
theorem cmp_ge {x y : Int} (hx : okI x) (hy : okI y) : cmpI .ge x y = true ↔ Int32.ofInt y ≤ Int32.ofInt x := by rw [I_le hy hx]; simp [cmpI]
theorem cmp_gt {x y : Int} (hx : okI x) (hy : okI y) : cmpI .gt x y = true ↔ Int32.ofInt y < Int32.ofInt x := by rw [I_lt hy hx]; simp [cmpI]
theorem cmp_le {x y : Int} (hx : okI x) (hy : okI y) : cmpI .le x y = true ↔ Int32.ofInt x ≤ Int32.ofInt y := by rw [I_le hx hy]; simp [cmpI]
theorem sk_br (C : Cx p s m args c y) (O : AdOK ad vF L) {i : Instr} (hf : fetch y pc = some (i, n)) (hi : (∃ q off, i = .ifCond q off) ∨ (∃ q off, i = .if_icmp q off))
    (ha : aStep y i n pc ls st σ = some (pc', (ls', (st', σ')))) (k : Wk p l e R s m args below meth c cells slots Q D cA ad vF L xs A y pc' ls' st' σ') : Wk p l e R s m args below meth c cells slots Q D cA ad vF L xs A y pc ls st σ := by
  intro H locs lsM hL hl hs hW hS
  obtain ⟨hx, hb, hml, hown, hts⟩ := C
  have hd := fetch_ok hf
  have hn := len_ok hf
  rcases hi with ⟨q, off, rfl⟩ | ⟨q, off, rfl⟩
  · obtain rfl := il1 hn (Nat.succ_ne_zero _)
    simp only [aStep, jmp] at ha
    cases q
    case eq =>
      split at ha
      · rename_i x0 st0
        split at ha
        · rename_i t0 hb0
          cases ha
          obtain ⟨t9, ht, hq⟩ := brn_spec hb0
          subst hq
          obtain ⟨h1, h2⟩ := okV1 hs
          have kk := fun (pp : Nat) (hp : pp = if cmpI .eq x0 0 = true then t9 else pc + 3) => hp ▸ k H locs lsM hL hl h2 hW hS
          have hc := cmp_eq h1 okI_0
          rw [← I_0] at hc
          exact lv_if_eq hx hb hd ht (fun z => kk _ (if_pos (hc.mpr z)).symm) (fun z => kk _ (if_neg (fun q => z (hc.mp q))).symm)
        · cases ha
      · cases ha
    case ne =>
      split at ha
      · rename_i x0 st0
        split at ha
        · rename_i t0 hb0
          cases ha
          obtain ⟨t9, ht, hq⟩ := brn_spec hb0
          subst hq
          obtain ⟨h1, h2⟩ := okV1 hs
          have kk := fun (pp : Nat) (hp : pp = if cmpI .ne x0 0 = true then t9 else pc + 3) => hp ▸ k H locs lsM hL hl h2 hW hS
          have hc := cmp_ne h1 okI_0
          rw [← I_0] at hc
          exact lv_if_ne hx hb hd ht (fun z => kk _ (if_pos (hc.mpr z)).symm) (fun z => kk _ (if_neg (fun q => (hc.mp q) z)).symm)
        · cases ha
      · cases ha
    case lt =>
      split at ha
      · rename_i x0 st0
        split at ha
        · rename_i t0 hb0
          cases ha
          obtain ⟨t9, ht, hq⟩ := brn_spec hb0
          subst hq
          obtain ⟨h1, h2⟩ := okV1 hs
          have kk := fun (pp : Nat) (hp : pp = if cmpI .lt x0 0 = true then t9 else pc + 3) => hp ▸ k H locs lsM hL hl h2 hW hS
          have hc := cmp_lt h1 okI_0
          rw [← I_0] at hc
          exact lv_if_lt hx hb hd ht (fun z => kk _ (if_pos (hc.mpr z)).symm) (fun z => kk _ (if_neg (fun q => z (hc.mp q))).symm)
        · cases ha
      · cases ha
    case ge =>
      split at ha
      · rename_i x0 st0
        split at ha
        · rename_i t0 hb0
          cases ha
          obtain ⟨t9, ht, hq⟩ := brn_spec hb0
          subst hq
          obtain ⟨h1, h2⟩ := okV1 hs
          have kk := fun (pp : Nat) (hp : pp = if cmpI .ge x0 0 = true then t9 else pc + 3) => hp ▸ k H locs lsM hL hl h2 hW hS
          have hc := cmp_ge h1 okI_0
          rw [← I_0] at hc
          exact lv_if_ge hx hb hd ht (fun z => kk _ (if_pos (hc.mpr z)).symm) (fun z => kk _ (if_neg (fun q => z (hc.mp q))).symm)
        · cases ha
      · cases ha
    case gt =>
      split at ha
      · rename_i x0 st0
        split at ha
        · rename_i t0 hb0
          cases ha
          obtain ⟨t9, ht, hq⟩ := brn_spec hb0
          subst hq
          obtain ⟨h1, h2⟩ := okV1 hs
          have kk := fun (pp : Nat) (hp : pp = if cmpI .gt x0 0 = true then t9 else pc + 3) => hp ▸ k H locs lsM hL hl h2 hW hS
          have hc := cmp_gt h1 okI_0
          rw [← I_0] at hc
          exact lv_if_gt hx hb hd ht (fun z => kk _ (if_pos (hc.mpr z)).symm) (fun z => kk _ (if_neg (fun q => z (hc.mp q))).symm)
        · cases ha
      · cases ha
    case le =>
      split at ha
      · rename_i x0 st0
        split at ha
        · rename_i t0 hb0
          cases ha
          obtain ⟨t9, ht, hq⟩ := brn_spec hb0
          subst hq
          obtain ⟨h1, h2⟩ := okV1 hs
          have kk := fun (pp : Nat) (hp : pp = if cmpI .le x0 0 = true then t9 else pc + 3) => hp ▸ k H locs lsM hL hl h2 hW hS
          have hc := cmp_le h1 okI_0
          rw [← I_0] at hc
          exact lv_if_le hx hb hd ht (fun z => kk _ (if_pos (hc.mpr z)).symm) (fun z => kk _ (if_neg (fun q => z (hc.mp q))).symm)
        · cases ha
      · cases ha
  · obtain rfl := il1 hn (Nat.succ_ne_zero _)
    simp only [aStep, jmp] at ha
    cases q
    case eq =>
      split at ha
      · rename_i y0 x0 st0
        split at ha
        · rename_i t0 hb0
          cases ha
          obtain ⟨t9, ht, hq⟩ := brn_spec hb0
          subst hq
          obtain ⟨h1, h2, h3⟩ := okV2 hs
          have kk := fun (pp : Nat) (hp : pp = if cmpI .eq x0 y0 = true then t9 else pc + 3) => hp ▸ k H locs lsM hL hl h3 hW hS
          have hc := cmp_eq h2 h1
          exact lv_icmp_eq hx hb hd ht (fun z => kk _ (if_pos (hc.mpr z)).symm) (fun z => kk _ (if_neg (fun q => z (hc.mp q))).symm)
        · cases ha
      · cases ha
    case ne =>
      split at ha
      · rename_i y0 x0 st0
        split at ha
        · rename_i t0 hb0
          cases ha
          obtain ⟨t9, ht, hq⟩ := brn_spec hb0
          subst hq
          obtain ⟨h1, h2, h3⟩ := okV2 hs
          have kk := fun (pp : Nat) (hp : pp = if cmpI .ne x0 y0 = true then t9 else pc + 3) => hp ▸ k H locs lsM hL hl h3 hW hS
          have hc := cmp_ne h2 h1
          exact lv_icmp_ne hx hb hd ht (fun z => kk _ (if_pos (hc.mpr z)).symm) (fun z => kk _ (if_neg (fun q => (hc.mp q) z)).symm)
        · cases ha
      · cases ha
    case lt =>
      split at ha
      · rename_i y0 x0 st0
        split at ha
        · rename_i t0 hb0
          cases ha
          obtain ⟨t9, ht, hq⟩ := brn_spec hb0
          subst hq
          obtain ⟨h1, h2, h3⟩ := okV2 hs
          have kk := fun (pp : Nat) (hp : pp = if cmpI .lt x0 y0 = true then t9 else pc + 3) => hp ▸ k H locs lsM hL hl h3 hW hS
          have hc := cmp_lt h2 h1
          exact lv_icmp_lt hx hb hd ht (fun z => kk _ (if_pos (hc.mpr z)).symm) (fun z => kk _ (if_neg (fun q => z (hc.mp q))).symm)
        · cases ha
      · cases ha
    case ge =>
      split at ha
      · rename_i y0 x0 st0
        split at ha
        · rename_i t0 hb0
          cases ha
          obtain ⟨t9, ht, hq⟩ := brn_spec hb0
          subst hq
          obtain ⟨h1, h2, h3⟩ := okV2 hs
          have kk := fun (pp : Nat) (hp : pp = if cmpI .ge x0 y0 = true then t9 else pc + 3) => hp ▸ k H locs lsM hL hl h3 hW hS
          have hc := cmp_ge h2 h1
          exact lv_icmp_ge hx hb hd ht (fun z => kk _ (if_pos (hc.mpr z)).symm) (fun z => kk _ (if_neg (fun q => z (hc.mp q))).symm)
        · cases ha
      · cases ha
    case gt =>
      split at ha
      · rename_i y0 x0 st0
        split at ha
        · rename_i t0 hb0
          cases ha
          obtain ⟨t9, ht, hq⟩ := brn_spec hb0
          subst hq
          obtain ⟨h1, h2, h3⟩ := okV2 hs
          have kk := fun (pp : Nat) (hp : pp = if cmpI .gt x0 y0 = true then t9 else pc + 3) => hp ▸ k H locs lsM hL hl h3 hW hS
          have hc := cmp_gt h2 h1
          exact lv_icmp_gt hx hb hd ht (fun z => kk _ (if_pos (hc.mpr z)).symm) (fun z => kk _ (if_neg (fun q => z (hc.mp q))).symm)
        · cases ha
      · cases ha
    case le =>
      split at ha
      · rename_i y0 x0 st0
        split at ha
        · rename_i t0 hb0
          cases ha
          obtain ⟨t9, ht, hq⟩ := brn_spec hb0
          subst hq
          obtain ⟨h1, h2, h3⟩ := okV2 hs
          have kk := fun (pp : Nat) (hp : pp = if cmpI .le x0 y0 = true then t9 else pc + 3) => hp ▸ k H locs lsM hL hl h3 hW hS
          have hc := cmp_le h2 h1
          exact lv_icmp_le hx hb hd ht (fun z => kk _ (if_pos (hc.mpr z)).symm) (fun z => kk _ (if_neg (fun q => z (hc.mp q))).symm)
        · cases ha
      · cases ha
theorem sk_jmp (C : Cx p s m args c y) (O : AdOK ad vF L) {i : Instr} (hf : fetch y pc = some (i, n)) (hi : (∃ off, i = .goto off) ∨ (∃ d lo hi offs, i = .tableswitch d lo hi offs) ∨ (∃ d ps, i = .lookupswitch d ps))
    (ha : aStep y i n pc ls st σ = some (pc', (ls', (st', σ')))) (k : Wk p l e R s m args below meth c cells slots Q D cA ad vF L xs A y pc' ls' st' σ') : Wk p l e R s m args below meth c cells slots Q D cA ad vF L xs A y pc ls st σ := by
  intro H locs lsM hL hl hs hW hS
  obtain ⟨hx, hb, hml, hown, hts⟩ := C
  have hd := fetch_ok hf
  have hn := len_ok hf
  rcases hi with ⟨off, rfl⟩ | ⟨d, lo, hh, offs, rfl⟩ | ⟨d, ps, rfl⟩
  · obtain rfl := il1 hn (Nat.succ_ne_zero _)
    simp only [aStep, jmp] at ha
    split at ha
    · rename_i t0 h0
      cases ha
      exact lv_goto hx hb hd (tgt_spec h0) (k H locs lsM hL hl hs hW hS)
    · cases ha
  · simp only [aStep] at ha
    split at ha
    · rename_i x0 st0
      obtain ⟨h1, h2⟩ := okV1 hs
      split at ha
      · rename_i hout
        unfold jmp at ha
        split at ha
        · rename_i t0 h0
          cases ha
          exact lv_tableOut hx hb hd (by rw [toI h1]; exact hout) (tgt_spec h0) (k H locs lsM hL hl h2 hW hS)
        · cases ha
      · rename_i hin
        split at ha
        · rename_i off ho
          unfold jmp at ha
          split at ha
          · rename_i t0 h0
            cases ha
            exact lv_tableIn hx hb hd (by rw [toI h1]; exact fun z => hin (Or.inl z)) (by rw [toI h1]; exact fun z => hin (Or.inr z)) (by rw [toI h1]; exact ho) (tgt_spec h0) (k H locs lsM hL hl h2 hW hS)
          · cases ha
        · cases ha
    · cases ha
  · simp only [aStep] at ha
    split at ha
    · rename_i x0 st0
      obtain ⟨h1, h2⟩ := okV1 hs
      split at ha
      · rename_i hp
        unfold jmp at ha
        split at ha
        · rename_i t0 h0
          cases ha
          exact lv_lookup hx hb hd hp (by rw [toI h1]) (tgt_spec h0) (k H locs lsM hL hl h2 hW hS)
        · cases ha
      · cases ha
    · cases ha
end STEP2
