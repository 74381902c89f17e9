def il : Instr → Nat
  | .iconst _ => 1 | .bipush _ => 2 | .sipush _ => 3 | .lconst _ => 1
  | .iload _ => 2 | .iload_n _ => 1 | .aload _ => 2 | .aload_n _ => 1 | .lload _ => 2 | .lload_n _ => 1
  | .istore _ => 2 | .istore_n _ => 1 | .astore _ => 2 | .astore_n _ => 1 | .lstore _ => 2 | .lstore_n _ => 1
  | .iinc _ _ => 3 | .dup => 1 | .dup2 => 1 | .pop => 1
  | .iadd => 1 | .isub => 1 | .imul => 1 | .idiv => 1 | .irem => 1 | .iand => 1 | .ior => 1 | .ixor => 1 | .ishl => 1 | .ishr => 1 | .iushr => 1
  | .ladd => 1 | .lsub => 1 | .lmul => 1 | .ldiv => 1 | .lrem => 1 | .ineg => 1 | .i2b => 1 | .i2c => 1 | .i2l => 1 | .lcmp => 1
  | .goto _ => 3 | .ifCond _ _ => 3 | .if_icmp _ _ => 3
  | .getfield _ => 3 | .putfield _ => 3 | .iaload => 1 | .iastore => 1 | .baload => 1 | .arraylength => 1 | .getstatic _ => 3
  | .ldc _ => 2 | .ldc_w _ => 3 | .ldc2_w _ => 3 | .invokestatic _ => 3 | .invokevirtual _ => 3
  | .ireturn => 1 | .lreturn => 1 | .areturn => 1 | .return_ => 1
  | _ => 0
set_option maxRecDepth 100000 in
theorem il_all : mT.all (fun q => q.2.2.2.all (fun x => il x.2.1 == 0 || il x.2.1 == x.2.2)) = true := by decide +kernel
theorem len_c (q : MT) (h1 : q.2.2.2.all (fun x => il x.2.1 == 0 || il x.2.1 == x.2.2) = true) {pc n : Nat} {i : Instr} (h : q.2.2.2.lookup pc = some (i, n)) : il i = 0 ∨ il i = n := by
  have h3 := List.all_eq_true.mp h1 (pc, (i, n)) (lookup_in _ h)
  simpa using h3
theorem len_ok {y pc n : Nat} {i : Instr} (h : fetch y pc = some (i, n)) : il i = 0 ∨ il i = n := by
  unfold fetch at h
  have hm : mR y ∈ mT ∨ mR y = mD := by
    unfold mR
    by_cases hy : y < mT.length
    · left; rw [List.getD_eq_getElem?_getD, List.getElem?_eq_getElem hy]; exact List.getElem_mem hy
    · right; rw [List.getD_eq_getElem?_getD, List.getElem?_eq_none (Nat.le_of_not_lt hy)]; rfl
  rcases hm with hm | hm
  · exact len_c (mR y) (List.all_eq_true.mp il_all _ hm) h
  · unfold mTb at h; rw [hm] at h; cases h
/-- what a method's walk knows -/
def Cx (p : Program) (s : State) (m : MethodId) (args : Array Value) (c : Code) (y : Nat) : Prop :=
  p.tables.exec = Jvm.exec ∧ c.code = mB y ∧ c.maxLocals = mL y ∧ s.vm.findClass (cN (mC y)) = some m.cls ∧ (∀ w ∈ lwg, w.before args s = true)
/-- from every heap that holds the store: the machine comes to a state with Q -/
def Wk (p : Program) (l : Launch) (e : Env) (R : Room) (s : State) (m : MethodId) (args : Array Value) (below : List Frame) (meth : Method) (c : Code) (cells slots : Nat) (Q : State → Prop) (D : va_G) (cA : ClassId) (ad : Nat → Nat → Nat) (vF : Value) (L : Nat) (xs : Nat → Int32) (A : Nat → Prop) (y : Nat) (pc : Nat) (ls st : List AV) (σ : St) : Prop :=
  ∀ (H : Heap) (locs : List Loc) (lsM : Array Slot), LR ad vF (mL y) ls lsM → (∀ v ∈ ls, okV v) → (∀ v ∈ st, okV v) → WP D cA ad L xs σ H → va_S A s.heap H locs → W p l e R s m args below meth c H locs cells slots Q (F0 m pc lsM (st.map (cvv ad vF)))
theorem cvv_r {ad : Nat → Nat → Nat} {vF : Value} {t r : Nat} (h : ¬ t = 33) : cvv ad vF (.inr (.inl (t, r))) = .ref (ad t r) := if_neg h
theorem brn_spec {b : Bool} {pc : Nat} {off : Int} {q : Nat} (h : brn b pc off = some q) : ∃ t : Nat, (pc : Int) + off = (t : Int) ∧ q = if b = true then t else pc + 3 := by
  unfold brn tgt at h
  by_cases h0 : 0 ≤ (pc : Int) + off
  · rw [if_pos h0] at h
    exact ⟨((pc : Int) + off).toNat, by omega, (Option.some.inj h).symm⟩
  · rw [if_neg h0] at h; cases h
theorem tgt_spec {pc : Nat} {off : Int} {q : Nat} (h : tgt pc off = some q) : (pc : Int) + off = (q : Int) := by
  unfold tgt at h
  by_cases h0 : 0 ≤ (pc : Int) + off
  · rw [if_pos h0] at h
    have := Option.some.inj h
    omega
  · rw [if_neg h0] at h; cases h
theorem okV2 {v w : AV} {st : List AV} (h : ∀ u ∈ v :: w :: st, okV u) : okV v ∧ okV w ∧ ∀ u ∈ st, okV u := ⟨h _ List.mem_cons_self, h _ (List.mem_cons_of_mem _ List.mem_cons_self), fun u hu => h u (List.mem_cons_of_mem _ (List.mem_cons_of_mem _ hu))⟩
theorem okV1 {v : AV} {st : List AV} (h : ∀ u ∈ v :: st, okV u) : okV v ∧ ∀ u ∈ st, okV u := ⟨h _ List.mem_cons_self, fun u hu => h u (List.mem_cons_of_mem _ hu)⟩
theorem okVc {v : AV} {st : List AV} (h1 : okV v) (h2 : ∀ u ∈ st, okV u) : ∀ u ∈ v :: st, okV u := List.forall_mem_cons.mpr ⟨h1, h2⟩
theorem il1 {a n : Nat} (h : a = 0 ∨ a = n) (h0 : a ≠ 0) : n = a := by omega
theorem I_0 : (0 : Int32) = Int32.ofInt 0 := by decide
theorem I_31 : ∀ y : Int, True := fun _ => trivial
section STEP
variable {p : Program} {l : Launch} {e : Env} {R : Room} {s : State} {m : MethodId} {args : Array Value} {below : List Frame} {meth : Method} {c : Code} {cells slots : Nat} {Q : State → Prop}
variable {D : va_G} {cA : ClassId} {ad : Nat → Nat → Nat} {vF : Value} {L : Nat} {xs : Nat → Int32} {A : Nat → Prop} {y : Nat} {pc n : Nat} {ls st : List AV} {σ : St} {pc' : Nat} {ls' st' : List AV} {σ' : St}
/-- loads of a local -/
theorem sk_ld (C : Cx p s m args c y) (O : AdOK ad vF L) {i : Instr} (hf : fetch y pc = some (i, n)) (hi : (∃ j, i = .iload j) ∨ (∃ j, i = .iload_n j) ∨ (∃ j, i = .aload j) ∨ (∃ j, i = .aload_n j) ∨ (∃ j, i = .lload j) ∨ (∃ j, i = .lload_n j))
    (ha : aStep y i n pc ls st σ = some (pc', (ls', (st', σ')))) (k : Wk p l e R s m args below meth c cells slots Q D cA ad vF L xs A y pc' ls' st' σ') : Wk p l e R s m args below meth c cells slots Q D cA ad vF L xs A y pc ls st σ := by
  intro H locs lsM hL hl hs hW hS
  obtain ⟨hx, hb, hml, hown, hts⟩ := C
  have hd := fetch_ok hf
  have hn := len_ok hf
  rcases hi with ⟨j, rfl⟩ | ⟨j, rfl⟩ | ⟨j, rfl⟩ | ⟨j, rfl⟩ | ⟨j, rfl⟩ | ⟨j, rfl⟩
  · obtain rfl := il1 hn (Nat.succ_ne_zero _)
    simp only [aStep, ldv] at ha
    split at ha
    · rename_i x he
      cases ha
      exact lv_iload hx hb hd (hL.at he rfl) (k H locs lsM hL hl (okVc (hl _ (List.mem_of_getElem? he)) hs) hW hS)
    · simp at ha
    · simp at ha
    · cases ha
  · obtain rfl := il1 hn (Nat.succ_ne_zero _)
    simp only [aStep, ldv] at ha
    split at ha
    · rename_i x he
      cases ha
      exact lv_iload_n hx hb hd rfl (hL.at he rfl) (k H locs lsM hL hl (okVc (hl _ (List.mem_of_getElem? he)) hs) hW hS)
    · simp at ha
    · simp at ha
    · cases ha
  · obtain rfl := il1 hn (Nat.succ_ne_zero _)
    simp only [aStep, ldv] at ha
    split at ha
    · simp at ha
    · rename_i t r he
      by_cases h9 : t = 99
      · subst h9; simp at ha
      by_cases h3 : t = 33
      · subst h3; simp at ha
      rw [if_pos (by simp [h9, h3])] at ha
      cases ha
      have kk := k H locs lsM hL hl (okVc (hl _ (List.mem_of_getElem? he)) hs) hW hS
      have h1 := hL.at he (by simp [isU, h9])
      rw [List.map_cons, cvv_r h3] at kk
      rw [cvv_r h3] at h1
      exact lv_aload hx hb hd h1 kk
    · simp at ha
    · cases ha
  · obtain rfl := il1 hn (Nat.succ_ne_zero _)
    simp only [aStep, ldv] at ha
    split at ha
    · simp at ha
    · rename_i t r he
      by_cases h9 : t = 99
      · subst h9; simp at ha
      by_cases h3 : t = 33
      · subst h3; simp at ha
      rw [if_pos (by simp [h9, h3])] at ha
      cases ha
      have kk := k H locs lsM hL hl (okVc (hl _ (List.mem_of_getElem? he)) hs) hW hS
      have h1 := hL.at he (by simp [isU, h9])
      rw [List.map_cons, cvv_r h3] at kk
      rw [cvv_r h3] at h1
      exact lv_aload_n hx hb hd rfl h1 kk
    · simp at ha
    · cases ha
  · obtain rfl := il1 hn (Nat.succ_ne_zero _)
    simp only [aStep, ldv] at ha
    split at ha
    · simp at ha
    · simp at ha
    · rename_i x he
      cases ha
      exact lv_lload hx hb hd (hL.at he rfl) (k H locs lsM hL hl (okVc (hl _ (List.mem_of_getElem? he)) hs) hW hS)
    · cases ha
  · obtain rfl := il1 hn (Nat.succ_ne_zero _)
    simp only [aStep, ldv] at ha
    split at ha
    · simp at ha
    · simp at ha
    · rename_i x he
      cases ha
      exact lv_lload_n hx hb hd rfl (hL.at he rfl) (k H locs lsM hL hl (okVc (hl _ (List.mem_of_getElem? he)) hs) hW hS)
    · cases ha
/-- stores into a local -/
theorem sk_st (C : Cx p s m args c y) (O : AdOK ad vF L) {i : Instr} (hf : fetch y pc = some (i, n)) (hi : (∃ j, i = .istore j) ∨ (∃ j, i = .istore_n j) ∨ (∃ j, i = .astore j) ∨ (∃ j, i = .astore_n j) ∨ (∃ j, i = .lstore j) ∨ (∃ j, i = .lstore_n j) ∨ (∃ j v, i = .iinc j v))
    (ha : aStep y i n pc ls st σ = some (pc', (ls', (st', σ')))) (k : Wk p l e R s m args below meth c cells slots Q D cA ad vF L xs A y pc' ls' st' σ') : Wk p l e R s m args below meth c cells slots Q D cA ad vF L xs A y pc ls st σ := by
  intro H locs lsM hL hl hs hW hS
  obtain ⟨hx, hb, hml, hown, hts⟩ := C
  have hd := fetch_ok hf
  have hn := len_ok hf
  rcases hi with ⟨j, rfl⟩ | ⟨j, rfl⟩ | ⟨j, rfl⟩ | ⟨j, rfl⟩ | ⟨j, rfl⟩ | ⟨j, rfl⟩ | ⟨j, v, rfl⟩
  · obtain rfl := il1 hn (Nat.succ_ne_zero _)
    simp only [aStep, stv] at ha
    split at ha
    · rename_i x st0
      split at ha
      · rename_i hj
        cases ha
        have hj2 : j < mL y := by rw [← hL.1]; simpa using hj
        obtain ⟨h1, h2⟩ := okV1 hs
        exact lv_istore hx hb hd hL.2 hj2 rfl (fun ls2 g => k H locs ls2 (hL.st1 O.2.1 (v := .inl x) g) (stl_ok hl h1) h2 hW hS)
      · cases ha
    · simp at ha
    · simp at ha
    · cases ha
  · obtain rfl := il1 hn (Nat.succ_ne_zero _)
    simp only [aStep, stv] at ha
    split at ha
    · rename_i x st0
      split at ha
      · rename_i hj
        cases ha
        have hj2 : (j : Nat) < mL y := by rw [← hL.1]; simpa using hj
        obtain ⟨h1, h2⟩ := okV1 hs
        exact lv_istore_n hx hb hd rfl hL.2 hj2 rfl (fun ls2 g => k H locs ls2 (hL.st1 O.2.1 (v := .inl x) g) (stl_ok hl h1) h2 hW hS)
      · cases ha
    · simp at ha
    · simp at ha
    · cases ha
  · obtain rfl := il1 hn (Nat.succ_ne_zero _)
    simp only [aStep, stv] at ha
    split at ha
    · simp at ha
    · rename_i t r st0
      by_cases h3 : t = 33
      · subst h3; simp at ha
      split at ha
      · rename_i hj
        cases ha
        have hj2 : j < mL y := by rw [← hL.1]; simp at hj; exact hj.2
        obtain ⟨h1, h2⟩ := okV1 hs
        rw [List.map_cons, cvv_r h3]
        exact lv_astore hx hb hd hL.2 hj2 rfl (fun ls2 g => k H locs ls2 (hL.st1 O.2.1 (v := .inr (.inl (t, r))) (by rw [cvv_r h3]; exact g)) (stl_ok hl h1) h2 hW hS)
      · cases ha
    · simp at ha
    · cases ha
  · obtain rfl := il1 hn (Nat.succ_ne_zero _)
    simp only [aStep, stv] at ha
    split at ha
    · simp at ha
    · rename_i t r st0
      by_cases h3 : t = 33
      · subst h3; simp at ha
      split at ha
      · rename_i hj
        cases ha
        have hj2 : (j : Nat) < mL y := by rw [← hL.1]; simp at hj; exact hj.2
        obtain ⟨h1, h2⟩ := okV1 hs
        rw [List.map_cons, cvv_r h3]
        exact lv_astore_n hx hb hd rfl hL.2 hj2 rfl (fun ls2 g => k H locs ls2 (hL.st1 O.2.1 (v := .inr (.inl (t, r))) (by rw [cvv_r h3]; exact g)) (stl_ok hl h1) h2 hW hS)
      · cases ha
    · simp at ha
    · cases ha
  · obtain rfl := il1 hn (Nat.succ_ne_zero _)
    simp only [aStep, stv] at ha
    split at ha
    · simp at ha
    · simp at ha
    · rename_i x st0
      split at ha
      · rename_i hj
        cases ha
        have hj2 : j + 1 < mL y := by rw [← hL.1]; simpa using hj
        obtain ⟨h1, h2⟩ := okV1 hs
        exact lv_lstore hx hb hd hL.2 hj2 rfl (fun ls2 g => k H locs ls2 (hL.st2 O.2.1 (v := .inr (.inr x)) g) (set_ok (stl_ok hl h1)) h2 hW hS)
      · cases ha
    · cases ha
  · obtain rfl := il1 hn (Nat.succ_ne_zero _)
    simp only [aStep, stv] at ha
    split at ha
    · simp at ha
    · simp at ha
    · rename_i x st0
      split at ha
      · rename_i hj
        cases ha
        have hj2 : (j : Nat) + 1 < mL y := by rw [← hL.1]; simpa using hj
        obtain ⟨h1, h2⟩ := okV1 hs
        exact lv_lstore_n hx hb hd rfl hL.2 hj2 rfl (fun ls2 g => k H locs ls2 (hL.st2 O.2.1 (v := .inr (.inr x)) g) (set_ok (stl_ok hl h1)) h2 hW hS)
      · cases ha
    · cases ha
  · obtain rfl := il1 hn (Nat.succ_ne_zero _)
    simp only [aStep] at ha
    split at ha
    · rename_i x he
      cases ha
      have hm : (j, Value.int (Int32.ofInt x)) ∈ lvo ad vF 0 ls := lvo_mem.mpr ⟨j, .inl x, he, rfl, by rw [Nat.zero_add]; rfl⟩
      obtain ⟨q, hq⟩ := List.mem_iff_getElem?.mp hm
      have hj2 : j < mL y := by rw [← hL.1]; exact (List.getElem?_eq_some_iff.mp he).1
      exact lv_iinc hx hb hd hL.2 hq (v := Int32.ofInt (wr (x + v))) (by rw [I_wr, Int32.ofInt_add]) hj2 rfl (fun ls2 g => k H locs ls2 (hL.st1 O.2.1 (v := .inl (wr (x + v))) g) (stl_ok hl (wr_ok _)) hs hW hS)
    · cases ha
end STEP
