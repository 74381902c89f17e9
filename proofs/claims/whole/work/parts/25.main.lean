section MAIN
variable {p : Program} {l : Launch} {e : Env} {R : Room} {s : State} {m : MethodId} {args : Array Value} {below : List Frame} {meth : Method} {c : Code} {cells slots : Nat} {Q : State → Prop}
variable {D : va_G} {cA : ClassId} {ad : Nat → Nat → Nat} {vF : Value} {L : Nat} {xs : Nat → Int32} {A : Nat → Prop} {y : Nat} {pc n : Nat} {ls st : List AV} {σ : St} {pc' : Nat} {ls' st' : List AV} {σ' : St}
theorem sim_step (C : Cx p s m args c y) (E : Evn D cA ad vF L xs A s) (O : AdOK ad vF L) (hA : AdIn ad A) (hR : mFr y ≤ R.frames ∧ mLo y ≤ R.locals ∧ cells ≤ R.cells ∧ slots ≤ R.slots) {i : Instr} (hf : fetch y pc = some (i, n)) (ha : aStep y i n pc ls st σ = some (pc', (ls', (st', σ')))) (k : Wk p l e R s m args below meth c cells slots Q D cA ad vF L xs A y pc' ls' st' σ') : Wk p l e R s m args below meth c cells slots Q D cA ad vF L xs A y pc ls st σ := by
  cases i
  case iconst v => exact sk_const C O hf (Or.inl ⟨v, rfl⟩) ha k
  case bipush v => exact sk_const C O hf (Or.inr (Or.inl ⟨v, rfl⟩)) ha k
  case sipush v => exact sk_const C O hf (Or.inr (Or.inr (Or.inl ⟨v, rfl⟩))) ha k
  case lconst v => exact sk_const C O hf (Or.inr (Or.inr (Or.inr (⟨v, rfl⟩)))) ha k
  case iload j => exact sk_ld C O hf (Or.inl ⟨j, rfl⟩) ha k
  case iload_n j => exact sk_ld C O hf (Or.inr (Or.inl ⟨j, rfl⟩)) ha k
  case aload j => exact sk_ld C O hf (Or.inr (Or.inr (Or.inl ⟨j, rfl⟩))) ha k
  case aload_n j => exact sk_ld C O hf (Or.inr (Or.inr (Or.inr (Or.inl ⟨j, rfl⟩)))) ha k
  case lload j => exact sk_ld C O hf (Or.inr (Or.inr (Or.inr (Or.inr (Or.inl ⟨j, rfl⟩))))) ha k
  case lload_n j => exact sk_ld C O hf (Or.inr (Or.inr (Or.inr (Or.inr (Or.inr (⟨j, rfl⟩)))))) ha k
  case istore j => exact sk_st C O hf (Or.inl ⟨j, rfl⟩) ha k
  case istore_n j => exact sk_st C O hf (Or.inr (Or.inl ⟨j, rfl⟩)) ha k
  case astore j => exact sk_st C O hf (Or.inr (Or.inr (Or.inl ⟨j, rfl⟩))) ha k
  case astore_n j => exact sk_st C O hf (Or.inr (Or.inr (Or.inr (Or.inl ⟨j, rfl⟩)))) ha k
  case lstore j => exact sk_st C O hf (Or.inr (Or.inr (Or.inr (Or.inr (Or.inl ⟨j, rfl⟩))))) ha k
  case lstore_n j => exact sk_st C O hf (Or.inr (Or.inr (Or.inr (Or.inr (Or.inr (Or.inl ⟨j, rfl⟩)))))) ha k
  case iinc j v => exact sk_st C O hf (Or.inr (Or.inr (Or.inr (Or.inr (Or.inr (Or.inr (⟨j, v, rfl⟩))))))) ha k
  case dup => exact sk_stk C O hf (Or.inl rfl) ha k
  case dup2 => exact sk_stk C O hf (Or.inr (Or.inl rfl)) ha k
  case pop => exact sk_stk C O hf (Or.inr (Or.inr (rfl))) ha k
  case iadd => exact sk_bin C O hf (Or.inl rfl) ha k
  case isub => exact sk_bin C O hf (Or.inr (Or.inl rfl)) ha k
  case imul => exact sk_bin C O hf (Or.inr (Or.inr (Or.inl rfl))) ha k
  case idiv => exact sk_bin C O hf (Or.inr (Or.inr (Or.inr (Or.inl rfl)))) ha k
  case irem => exact sk_bin C O hf (Or.inr (Or.inr (Or.inr (Or.inr (Or.inl rfl))))) ha k
  case iand => exact sk_bin C O hf (Or.inr (Or.inr (Or.inr (Or.inr (Or.inr (Or.inl rfl)))))) ha k
  case ior => exact sk_bin C O hf (Or.inr (Or.inr (Or.inr (Or.inr (Or.inr (Or.inr (Or.inl rfl))))))) ha k
  case ixor => exact sk_bin C O hf (Or.inr (Or.inr (Or.inr (Or.inr (Or.inr (Or.inr (Or.inr (Or.inl rfl)))))))) ha k
  case ishl => exact sk_bin C O hf (Or.inr (Or.inr (Or.inr (Or.inr (Or.inr (Or.inr (Or.inr (Or.inr (Or.inl rfl))))))))) ha k
  case ishr => exact sk_bin C O hf (Or.inr (Or.inr (Or.inr (Or.inr (Or.inr (Or.inr (Or.inr (Or.inr (Or.inr (Or.inl rfl)))))))))) ha k
  case iushr => exact sk_bin C O hf (Or.inr (Or.inr (Or.inr (Or.inr (Or.inr (Or.inr (Or.inr (Or.inr (Or.inr (Or.inr (rfl))))))))))) ha k
  case ladd => exact sk_binL C O hf (Or.inl rfl) ha k
  case lsub => exact sk_binL C O hf (Or.inr (Or.inl rfl)) ha k
  case lmul => exact sk_binL C O hf (Or.inr (Or.inr (Or.inl rfl))) ha k
  case ldiv => exact sk_binL C O hf (Or.inr (Or.inr (Or.inr (Or.inl rfl)))) ha k
  case lrem => exact sk_binL C O hf (Or.inr (Or.inr (Or.inr (Or.inr (rfl))))) ha k
  case ineg => exact sk_un C O hf (Or.inl rfl) ha k
  case i2b => exact sk_un C O hf (Or.inr (Or.inl rfl)) ha k
  case i2c => exact sk_un C O hf (Or.inr (Or.inr (Or.inl rfl))) ha k
  case i2l => exact sk_un C O hf (Or.inr (Or.inr (Or.inr (Or.inl rfl)))) ha k
  case lcmp => exact sk_un C O hf (Or.inr (Or.inr (Or.inr (Or.inr (rfl))))) ha k
  case ifCond q off => exact sk_br C O hf (Or.inl ⟨q, off, rfl⟩) ha k
  case if_icmp q off => exact sk_br C O hf (Or.inr (⟨q, off, rfl⟩)) ha k
  case goto off => exact sk_jmp C O hf (Or.inl ⟨off, rfl⟩) ha k
  case tableswitch d lo hi offs => exact sk_jmp C O hf (Or.inr (Or.inl ⟨d, lo, hi, offs, rfl⟩)) ha k
  case lookupswitch d ps => exact sk_jmp C O hf (Or.inr (Or.inr (⟨d, ps, rfl⟩))) ha k
  case getfield j => exact sk_get C E O hA hR hf (⟨j, rfl⟩) ha k
  case putfield j => exact sk_put C E O hA hR hf (⟨j, rfl⟩) ha k
  case iaload => exact sk_arr C E O hA hR hf (Or.inl rfl) ha k
  case iastore => exact sk_arr C E O hA hR hf (Or.inr (Or.inl rfl)) ha k
  case baload => exact sk_arr C E O hA hR hf (Or.inr (Or.inr (Or.inl rfl))) ha k
  case arraylength => exact sk_arr C E O hA hR hf (Or.inr (Or.inr (Or.inr (rfl)))) ha k
  case getstatic j => exact sk_cst C E O hA hR hf (Or.inl ⟨j, rfl⟩) ha k
  case ldc j => exact sk_cst C E O hA hR hf (Or.inr (Or.inl ⟨j, rfl⟩)) ha k
  case ldc_w j => exact sk_cst C E O hA hR hf (Or.inr (Or.inr (Or.inl ⟨j, rfl⟩))) ha k
  case ldc2_w j => exact sk_cst C E O hA hR hf (Or.inr (Or.inr (Or.inr (⟨j, rfl⟩)))) ha k
  case invokestatic j => exact sk_nat C E O hA hR hf (⟨j, rfl⟩) ha k
  all_goals (exact absurd ha (by simp [aStep]))
end MAIN
theorem spr_len : ∀ (as : List AV), (spr as).length = catS as := by
  intro as
  induction as with
  | nil => rfl
  | cons v l ih =>
    unfold spr catS
    split
    · rw [List.length_cons, List.length_cons, ih]; omega
    · rw [List.length_cons, ih]; omega
theorem lvo_rep {ad : Nat → Nat → Nat} {vF : Value} : ∀ (k i : Nat), lvo ad vF i (List.replicate k uns) = [] := by
  intro k
  induction k with
  | zero => intro i; rfl
  | succ k ih =>
    intro i
    rw [List.replicate_succ]
    unfold lvo
    rw [if_pos (by rfl)]
    exact ih _
theorem lvo_args {ad : Nat → Nat → Nat} {vF : Value} (hF : okF vF) (k : Nat) : ∀ (as : List AV) (i : Nat), ∀ q ∈ lvo ad vF i (spr as ++ List.replicate k uns), q ∈ lv_args i (as.map (cvv ad vF)) := by
  intro as
  induction as with
  | nil => intro i q hq; rw [show spr [] = [] from rfl, List.nil_append, lvo_rep] at hq; cases hq
  | cons v l ih =>
    intro i q hq
    rw [List.map_cons]
    unfold lv_args
    unfold spr at hq
    rw [cvv_cat hF]
    by_cases hl : isLg v = true
    · rw [if_pos hl] at hq ⊢
      rw [if_pos rfl]
      have hu : isU v = false := by
        rcases v with x | ⟨t, r⟩ | w
        · rfl
        · cases hl
        · rfl
      rw [List.cons_append, List.cons_append] at hq
      unfold lvo at hq
      rw [if_neg (by rw [hu]; decide)] at hq
      rcases List.mem_cons.mp hq with h | h
      · rw [h]; exact List.mem_cons_self
      · unfold lvo at h
        rw [if_pos (by rfl)] at h
        exact List.mem_cons_of_mem _ (ih _ q h)
    · rw [if_neg hl] at hq ⊢
      rw [if_neg (by decide)]
      rw [List.cons_append] at hq
      unfold lvo at hq
      by_cases hu : isU v = true
      · rw [if_pos hu] at hq
        exact List.mem_cons_of_mem _ (ih _ q hq)
      · rw [if_neg hu] at hq
        rcases List.mem_cons.mp hq with h | h
        · rw [h]; exact List.mem_cons_self
        · exact List.mem_cons_of_mem _ (ih _ q h)
theorem lg_sl_len {ad : Nat → Nat → Nat} {vF : Value} (hF : okF vF) : ∀ (as : List AV), (lg_sl (as.map (cvv ad vF))).length = catS as := by
  intro as
  induction as with
  | nil => rfl
  | cons v l ih =>
    have e : lg_sl ((v :: l).map (cvv ad vF)) = (if (cvv ad vF v).category = 2 then [Slot.val (cvv ad vF v), Slot.second] else [Slot.val (cvv ad vF v)]) ++ lg_sl (l.map (cvv ad vF)) := rfl
    rw [e, List.length_append, ih, cvv_cat hF]
    have e2 : catS (v :: l) = (if isLg v = true then 2 else 1) + catS l := rfl
    rw [e2]
    by_cases hl : isLg v = true
    · rw [if_pos hl]; rfl
    · rw [if_neg hl]; rfl
theorem LR_ent {ad : Nat → Nat → Nat} {vF : Value} (hF : okF vF) (y : Nat) (as : List AV) (h : catS as ≤ mL y) : LR ad vF (mL y) (ent y as) ((lg_sl (as.map (cvv ad vF)) ++ List.replicate (mL y - (lg_sl (as.map (cvv ad vF))).length) Slot.unset).toArray) := by
  refine ⟨?_, lv_mono (lv_entry (as.map (cvv ad vF)) (n := mL y) (by rw [lg_sl_len hF]; exact h)) (fun q hq => lvo_args hF _ as 0 q hq)⟩
  unfold ent
  rw [List.length_append, List.length_replicate, spr_len]
  omega
theorem ent_ok {y : Nat} {as : List AV} (h : ∀ v ∈ as, okV v) : ∀ v ∈ ent y as, okV v := by
  have hu : okV uns := Or.inr (Or.inr (Or.inr (Or.inr rfl)))
  have h1 : ∀ (l : List AV), (∀ v ∈ l, okV v) → ∀ v ∈ spr l, okV v := by
    intro l
    induction l with
    | nil => intro _ v hv; cases hv
    | cons a l ih =>
      intro ha v hv
      obtain ⟨a1, a2⟩ := okV1 ha
      unfold spr at hv
      split at hv
      · rcases List.mem_cons.mp hv with h | h
        · rw [h]; exact a1
        · rcases List.mem_cons.mp h with h | h
          · rw [h]; exact hu
          · exact ih a2 v h
      · rcases List.mem_cons.mp hv with h | h
        · rw [h]; exact a1
        · exact ih a2 v h
  intro v hv
  unfold ent at hv
  rcases List.mem_append.mp hv with h2 | h2
  · exact h1 as h v h2
  · rw [(List.mem_replicate.mp h2).2]; exact hu

