-- ===== end of PART A; then your names; then what follows =====
/-! THE CLAIM OUT OF ONE WALK OF THE LAW'S BODY. Your part is whole_start (and what it stands on); all else here is the same for every law, but numbers. -/
def R_law : String := "LeansAgainstReasonLaw"
def lw_P (b : Addr) (xs : List Int32) (args : Array Value) (s : State) : Prop := args = #[.ref b] ∧ s.IntsAt b xs ∧ xs.length ≤ 3072 ∧ (Jvm.Cond.and given_1 narrow_1).before args s = true
def lw_Q (_ : Array Value) (s : State) (o : Outcome) (t : State) : Prop := o = .returned (some (.int 1)) ∧ Framed s o t [] 44 755
def lw_Z (below : List Frame) (a : Array Value) (s : State) : State → Prop := fun t => ∃ o, t.status = .running ∧ Ended t below o ∧ lw_Q a s o t
/-- the law's own end, with 1 on the stack, nothing written that was there before, its room as the claim has it -/
theorem lw_ret {p : Program} {l : Launch} {e : Env} {s : State} {m : MethodId} {below : List Frame} {meth : Method} {c : Code} {b : Nat} (hx : p.tables.exec = Jvm.exec) (hb : c.code = code) (hr : meth.sig.returnType = ret) (hlocks : meth.locks = false) {pc : Nat} {H : Heap} {ls : Array Slot} (hdg : decode code pc = .ok (.ireturn, 1)) : W p l e room_1 s m #[Value.ref b] below meth c H [] 44 755 (lw_Z below #[Value.ref b] s) (F0 m pc ls [.int 1]) := by
  intro T hT X
  obtain ⟨fs, hret, hrun, hended, hW, hframe⟩ := X.leave (v := some (.int 1)) (hlocks := hlocks) (fun h => by rw [hr] at h; cases h)
  have hmeth' : T.vm.method? m = some meth := X.method'
  refine ⟨T.setFrames fs, ?_, .returned (some (.int 1)), hrun, hended, rfl, ⟨_, rfl⟩, hW, hframe⟩
  jvm_step X.here [X.here.top, hx, hb, hdg, hmeth', hr, ret, narrow_b1]
  (try refine ⟨rfl, ?_⟩); (try refine ⟨rfl, ?_⟩)
  first | (intro acts; rw [hret _ acts rfl rfl rfl]) | rw [hret _ _ rfl rfl rfl]
  exact Steps.refl _
/-- what holds at the law's entry: the machine, the code, the tables' words (any of lw_tbl by 'hts w (by decide +kernel)'), the script of L ints xs at the cell b, what the Statement gives of the start (any of its parts by flat_of_before) -/
def lw_At (p : Program) (s : State) (m : MethodId) (meth : Method) (c : Code) (b L : Nat) (xs : Nat → Int32) : Prop :=
  p.tables.exec = Jvm.exec ∧ c.code = code ∧ meth.sig.returnType = ret ∧ c.maxLocals = 4 ∧ s.vm.findClass R_law = some m.cls ∧ (∀ w ∈ lw_tbl, w.before #[Value.ref b] s = true) ∧ va_X b L xs s s.heap ∧ b < s.heap.size ∧ meth.locks = false ∧ (Jvm.Cond.and given_1 narrow_1).before #[Value.ref b] s = true

/-! the start: what the Statement gives of the world -/
def tmS (i : Nat) : Term := Term.string RX0 (strI.getD i 0)
def fl1 : List Cond := flatC (Jvm.Cond.and given_1 narrow_1)
set_option maxRecDepth 100000 in
theorem st_1 : (List.range 8).all (fun i => decide (Cond.exactly (tmS i) "java/lang/String" ∈ fl1)) = true := by decide +kernel
set_option maxRecDepth 100000 in
theorem st_2 : (List.range 8).all (fun i => decide (Cond.eq (.field (tmS i) "java/lang/String" "coder" "B") (.int 0) ∈ fl1)) = true := by decide +kernel
set_option maxRecDepth 100000 in
theorem st_3 : (List.range 8).all (fun i => decide (Cond.arrayOf (.field (tmS i) "java/lang/String" "value" "[B") .byte ∈ fl1)) = true := by decide +kernel
set_option maxRecDepth 100000 in
theorem st_4 : (List.range 8).all (fun i => decide (Cond.eq (.length (.field (tmS i) "java/lang/String" "value" "[B")) (.int (Int32.ofNat (strL.getD i 0))) ∈ fl1)) = true := by decide +kernel
set_option maxRecDepth 100000 in
theorem st_5 : (List.range 8).all (fun i => (List.range (strL.getD i 0)).all (fun j => decide (Cond.eq (.elem (.field (tmS i) "java/lang/String" "value" "[B") (.int (Int32.ofNat j))) (.int ((strB32.getD i []).getD j 0)) ∈ fl1))) = true := by decide +kernel
set_option maxRecDepth 100000 in
theorem st_6 : (List.range 8).all (fun i => (List.range 8).all (fun j => decide (i = j) || decide (Cond.not (Cond.eq (tmS i) (tmS j)) ∈ fl1) || decide (Cond.not (Cond.eq (tmS j) (tmS i)) ∈ fl1))) = true := by decide +kernel
set_option maxRecDepth 100000 in
theorem st_7 : (decide (Cond.eq (.static "java/lang/String" "COMPACT_STRINGS" "Z") (.int 1) ∈ fl1) && decide (Cond.isRef (.static "jdk/internal/util/Preconditions" "SIOOBE_FORMATTER" "Ljava/util/function/BiFunction;") ∈ fl1)) = true := by decide +kernel
/-- a place decided for all below a number -/
theorem rng {n : Nat} {f : Nat → Bool} (h : (List.range n).all f = true) {i : Nat} (hi : i < n) : f i = true := List.all_eq_true.mp h i (List.mem_range.mpr hi)

set_option maxHeartbeats 4000000 in
set_option maxRecDepth 100000 in
theorem start_env {p : Program} {s : State} {m : MethodId} {meth : Method} {c : Code} {b L : Nat} {xs : Nat → Int32} (C0 : lw_At p s m meth c b L xs) : ∃ (dC : Nat → ClassId) (dI : Nat → Nat → Nat) (cA : ClassId) (adK adV : Nat → Nat) (vF : Value), okF vF ∧ va_K (dC, dI) vwC [(cA, .int)] s ∧
    vk_S 8 strL strB32 adK adV (fun q : Nat => s.heap.size ≤ q) s s.heap ∧ (∀ k, k < 8 → vk_R RX0 (strI.getD k 0) (strX.getD k "") (adK k) s) ∧
    va_Z "java/lang/String" "COMPACT_STRINGS" "Z" (.int 1) (fun q : Nat => s.heap.size ≤ q) s s.heap ∧ va_Z "jdk/internal/util/Preconditions" "SIOOBE_FORMATTER" "Ljava/util/function/BiFunction;" vF (fun q : Nat => s.heap.size ≤ q) s s.heap ∧
    (∀ q ∈ nsT, va_Nw (.methodLinkNest (cN q.1) q.2.1 (mN q.2.2) RX4) s) := by
  obtain ⟨hx, hb, hr, hml, hown, hts, hX, hbl, hlocks, hgv⟩ := C0
  have hfl : ∀ w ∈ fl1, w.before #[Value.ref b] s = true := flat_of_before _ hgv
  have hts' : ∀ w ∈ lwg, w.before #[Value.ref b] s = true := fun w hw => hts w (lwg_in hw)
  have hA : ∀ a : Nat, a < s.heap.size → ¬ (fun q : Nat => s.heap.size ≤ q) a := fun a h => Nat.not_le.mpr h
  obtain ⟨c0, iS0, hKn0⟩ := u_known (C := RX0) (T := TX0) (N := 2) (n := 2) hts' (wu_all 0 (by decide)) (hts' _ (wAt_in (p := 1108) (w := .instantiable RX0 2) (by decide +kernel)))
  obtain ⟨c1, iS1, hKn1⟩ := u_known (C := RX1) (T := TX1) (N := 3) (n := 3) hts' (wu_all 1 (by decide)) (hts' _ (wAt_in (p := 1025) (w := .instantiable RX1 3) (by decide +kernel)))
  obtain ⟨c2, iS2, hKn2⟩ := u_known (C := RX2) (T := TX2) (N := 12) (n := 12) hts' (wu_all 2 (by decide)) (hts' _ (wAt_in (p := 1031) (w := .instantiable RX2 12) (by decide +kernel)))
  obtain ⟨c3, iS3, hKn3⟩ := u_known (C := RX4) (T := TX4) (N := 8) (n := 8) hts' (wu_all 3 (by decide)) (hts' _ (wAt_in (p := 1017) (w := .instantiable RX4 8) (by decide +kernel)))
  obtain ⟨c4, iS4, hKn4⟩ := u_known (C := RX5) (T := TX5) (N := 14) (n := 14) hts' (wu_all 4 (by decide)) (hts' _ (wAt_in (p := 4062) (w := .instantiable RX5 14) (by decide +kernel)))
  obtain ⟨dC, dI, hKc⟩ : ∃ (dC : Nat → ClassId) (dI : Nat → Nat → Nat), ∀ (k : Nat) (q : vw_C), vwC[k]? = some q → u_Kn s q.1 q.2.1 q.2.2 (dC k) (dI k) := by
    refine ⟨fun k => match k with | 0 => c0 | 1 => c1 | 2 => c2 | 3 => c3 | _ => c4, fun k => match k with | 0 => iS0 | 1 => iS1 | 2 => iS2 | 3 => iS3 | _ => iS4, ?_⟩
    intro k q hq
    match k, hq with
    | 0, hq => cases hq; exact hKn0
    | 1, hq => cases hq; exact hKn1
    | 2, hq => cases hq; exact hKn2
    | 3, hq => cases hq; exact hKn3
    | 4, hq => cases hq; exact hKn4
    | k + 5, hq => simp [vwC] at hq
  have harr : (Cond.arrayClass .int).before #[Value.ref b] s = true := hts' _ (wAt_in (p := 1095) (w := .arrayClass .int) (by decide +kernel))
  obtain ⟨cA, kA, comp, hn1, hn2, hn3⟩ := Cond.arrayClass_spec harr
  have hK : va_K (dC, dI) vwC [(cA, .int)] s := ⟨hKc, fun k q hq => by
    match k, hq with
    | 0, hq => cases hq; exact ⟨fun n z => ⟨fun k h => (by cases h), kA, hn2, comp, hn3⟩, hn1⟩
    | k + 1, hq => simp at hq⟩
  have h8 : ∀ i, i < 8 → strL.getD i 0 < 100 := by decide +kernel
  obtain ⟨adK, adV, hSt, hEv⟩ := vk_Sof (args := #[Value.ref b]) (s := s) (N := 8) (tm := tmS) (len := strL) (byt := strB32) (A := fun q : Nat => s.heap.size ≤ q) (fun i hi => Nat.lt_trans (h8 i hi) (by decide))
    (fun i hi => hfl _ (of_decide_eq_true (rng st_1 hi))) (fun i hi => hfl _ (of_decide_eq_true (rng st_2 hi))) (fun i hi => hfl _ (of_decide_eq_true (rng st_3 hi))) (fun i hi => hfl _ (of_decide_eq_true (rng st_4 hi)))
    (fun i hi j hj => hfl _ (of_decide_eq_true (rng (rng st_5 hi) hj)))
    (fun i j hi hj hij => by
      have h9 := rng (rng st_6 hi) hj
      simp only [Bool.or_eq_true, decide_eq_true_eq] at h9
      rcases h9 with (h9 | h9) | h9
      · exact absurd h9 hij
      · exact Or.inl (hfl _ h9)
      · exact Or.inr (hfl _ h9)) hA
  have h7 := st_7
  rw [Bool.and_eq_true] at h7
  have hZ1 := va_Zof (A := fun q : Nat => s.heap.size ≤ q) (hts _ (wRaw_in (p := 1179) (w := .laysStatic "java/lang/String" "COMPACT_STRINGS" "Z") (by decide +kernel))) (hts _ (wRaw_in (p := 1007) (w := .initialized "java/lang/String") (by decide +kernel))) (va_eqt (hfl _ (of_decide_eq_true h7.1))) hA
  have hZ2 := va_Zqof (A := fun q : Nat => s.heap.size ≤ q) (hts _ (wRaw_in (p := 1204) (w := .laysStatic "jdk/internal/util/Preconditions" "SIOOBE_FORMATTER" "Ljava/util/function/BiFunction;") (by decide +kernel))) (hts _ (wRaw_in (p := 1009) (w := .initialized "jdk/internal/util/Preconditions") (by decide +kernel))) (hfl _ (of_decide_eq_true h7.2)) hA
  obtain ⟨vF, hF, hZ2⟩ : ∃ vF : Value, okF vF ∧ va_Z "jdk/internal/util/Preconditions" "SIOOBE_FORMATTER" "Ljava/util/function/BiFunction;" vF (fun q : Nat => s.heap.size ≤ q) s s.heap := by
    rcases hZ2 with h | ⟨t, h⟩
    · exact ⟨_, Or.inl rfl, h⟩
    · exact ⟨_, Or.inr ⟨t, rfl⟩, h⟩
  refine ⟨dC, dI, cA, adK, adV, vF, hF, hK, hSt, fun k hk => vk_R.of (hts _ (wRaw_in (rng wStr_ok hk))) (hEv k hk), hZ1, hZ2, ?_⟩
  have hn := wNs
  rw [Bool.and_eq_true, Bool.and_eq_true, Bool.and_eq_true] at hn
  intro q hq
  have e : nsT = [(1, (124, k_X4_power)), (1, (128, k_X4_has)), (2, (61, k_X4_isPlace)), (2, (118, k_X4_has))] := by decide +kernel
  rw [e] at hq
  rcases List.mem_cons.mp hq with rfl | hq
  · exact va_Nw.of rfl (hts _ (wRaw_in hn.1.1.1))
  · rcases List.mem_cons.mp hq with rfl | hq
    · exact va_Nw.of rfl (hts _ (wRaw_in hn.1.1.2))
    · rcases List.mem_cons.mp hq with rfl | hq
      · exact va_Nw.of rfl (hts _ (wRaw_in hn.1.2))
      · rcases List.mem_cons.mp hq with rfl | hq
        · exact va_Nw.of rfl (hts _ (wRaw_in hn.2))
        · cases hq
/-- the store behind the two constructors -/
def σ0 (L : Nat) (xs : Nat → Int32) : St := fun t r j => if t = 15 then -9 else if t = 32 then (if r = 0 then (xs j).toInt else if L < 2147483648 then (L : Int) else 0) else 0
def adLs (q0 q1 : Nat) (a z : Nat → Nat) : List Nat := [q0, a 0, a 19, a 20, a 21, a 31, a 32, a 1, a 2, a 3, a 4, a 5, a 6, a 7, a 8, a 9, a 10, a 11, a 12, a 13, a 14, a 15, a 16, a 17, a 18, a 22, a 23, a 24, a 25, a 26, a 27, a 28, a 29, a 30, q1, z 0, z 1, z 2, z 3, z 4, z 5, z 6, z 7, z 8]
def adf (q0 q1 : Nat) (a z adK adV : Nat → Nat) (b : Nat) : Nat → Nat → Nat := fun t r => if t = 30 then adK r else if t = 31 then adV r else if t = 32 then b else (adLs q0 q1 a z).getD (wpos t r) 0
set_option maxHeartbeats 4000000 in
set_option maxRecDepth 100000 in
theorem wld_perm (cA : ClassId) (q0 q1 : Nat) (a z adK adV : Nat → Nat) (b L : Nat) (xs : Nat → Int32) : ([0, 1, 20, 21, 22, 32, 33, 2, 3, 4, 5, 6, 7, 8, 9, 10, 11, 12, 13, 14, 15, 16, 17, 18, 19, 23, 24, 25, 26, 27, 28, 29, 30, 31, 34, 35, 36, 37, 38, 39, 40, 41, 42, 43] : List Nat).filterMap (fun i => (cwX cA q0 a ++ cwN cA q1 z)[i]?) = wld cA (adf q0 q1 a z adK adV b) (σ0 L xs) := by rfl
set_option maxHeartbeats 4000000 in
set_option maxRecDepth 100000 in
theorem wld_permD (cA : ClassId) (q0 q1 : Nat) (a z adK adV : Nat → Nat) (b L : Nat) (xs : Nat → Int32) : ([0, 1, 20, 21, 22, 32, 33, 2, 3, 4, 5, 6, 7, 8, 9, 10, 11, 12, 13, 14, 15, 16, 17, 18, 19, 23, 24, 25, 26, 27, 28, 29, 30, 31, 34, 35, 36, 37, 38, 39, 40, 41, 42, 43] : List Nat).map (fun i => (cwX cA q0 a ++ cwN cA q1 z)[i]?) = (wld cA (adf q0 q1 a z adK adV b) (σ0 L xs)).map some := by rfl
set_option maxHeartbeats 4000000 in
set_option maxRecDepth 100000 in
/-- the whole, out of the abstract machine's run of the law's loop -/
theorem start_of (law_am : ∀ (L : Nat) (xs : Nat → Int32), L ≤ 3072 → ∃ σ', Rx k_L_law 18 [.inr (.inl (32, 0)), .inr (.inl (0, 0)), .inr (.inl (16, 0)), .inl 0] [] (σ0 L xs) = some (some (.inl 1), σ')) {p : Program} {e : Env} {s : State} {m : MethodId} {below : List Frame} {meth : Method} {c : Code} (l : Launch) {b L : Nat} {xs : Nat → Int32} (hL : L ≤ 3072) (C0 : lw_At p s m meth c b L xs) : W p l e room_1 s m #[Value.ref b] below meth c s.heap [] 0 0 (lw_Z below #[Value.ref b] s) (entryFrame m ([Value.ref b] : List Value).toArray 4) := by
  obtain ⟨dC, dI, cA, adK, adV, vF, hF, hK, eS, eR, eZ1, eZ2, eN⟩ := start_env C0
  obtain ⟨hx, hb, hr, hml, hown, hts, hX, hbl, hlocks, hgv⟩ := C0
  have hts' : ∀ w ∈ lwg, w.before #[Value.ref b] s = true := fun w hw => hts w (lwg_in hw)
  have hA : ∀ q : Nat, s.heap.size ≤ q → (fun q : Nat => s.heap.size ≤ q) q := fun _ h => h
  have hS : va_S (fun q : Nat => s.heap.size ≤ q) s.heap s.heap [] := va_S.rf
  have hP : va_P (dC, dI) vwC [] s.heap := fun k q h => by simp at h
  have hD : va_D (fun q : Nat => s.heap.size ≤ q) [] := ⟨fun i j p q h => by simp at h, fun k q h => by simp at h⟩
  have hl := lv_entry ([.ref b]) (n := 4) (Nat.le_of_ble_eq_true rfl)
  rw [lg_entry_eq]
  generalize (lg_sl ([.ref b]) ++ List.replicate (4 - (lg_sl ([.ref b])).length) Slot.unset).toArray = ls at hl ⊢
  have hl : lv_has ls 4 [(0, .ref b)] := hl
  refine va_new (ci := 3) (fs := [.null, .null, .null, .null, .int 0, .null, .int 0, .null]) (C := RX4) (T := TX4) (N := 8) hx hb hts' (wu_all 3 (by decide)) tyX4 tyX4_ok hown (hts' _ (wAt_in (p := 1016) (w := .classLink RL 7 RX4) (by decide +kernel))) (hts' _ (wAt_in (p := 1017) (w := .instantiable RX4 8) (by decide +kernel))) (hts' _ (wAt_in (p := 1001) (w := .initialized RX4) (by decide +kernel))) hK hP hD hS hA rfl (fun j hj => by rcases (show j = 0 ∨ j = 1 ∨ j = 2 ∨ j = 3 ∨ j = 4 ∨ j = 5 ∨ j = 6 ∨ j = 7 by omega) with rfl | rfl | rfl | rfl | rfl | rfl | rfl | rfl <;> rfl) (show 0 + 1 ≤ 44 by decide) (show 0 + 8 ≤ 755 by decide) dL_law_0 (fun q0 H hP hD hS => ?_)
  have hP : va_P (dC, dI) vwC ([(q0, .inr (3, [.null, .null, .null, .null, .int 0, .null, .int 0, .null]))]) H := hP
  have hD : va_D (fun q : Nat => s.heap.size ≤ q) ([(q0, .inr (3, [.null, .null, .null, .null, .int 0, .null, .int 0, .null]))]) := hD
  refine lv_dup hx hb dL_law_3 rfl ?_
  have hPc := hP.sub (ws' := [(q0, .inr (3, [.null, .null, .null, .null, .int 0, .null, .int 0, .null]))]) [0] rfl
  have hDc := hD.sub (ws' := [(q0, .inr (3, [.null, .null, .null, .null, .int 0, .null, .int 0, .null]))]) [0] (by decide) rfl
  have hFc := va_free (wc := [(q0, .inr (3, [.null, .null, .null, .null, .int 0, .null, .int 0, .null]))]) hD hS hA [0] rfl
  refine va_callv (va_runI (As := []) (rest := [.ref q0]) ⟨hx, hb, hml, hown, hts'⟩ (c_X4_init l dC dI cA q0 H.size) (cwI 0 hts' (gI (wAt_in (p := 1020) (w := .code yX4_init cX4_init 1 none) (by decide +kernel))) rfl rfl rfl (hts' _ (wAt_in (p := 1001) (w := .initialized RX4) (by decide +kernel))) (hts' _ (wAt_in (p := 1018) (w := .methodLink RL 9 yX4_init) (by decide +kernel))) (hts' _ (wAt_in (p := 1019) (w := .instanceMethod yX4_init) (by decide +kernel))) rfl (by decide +kernel) ⟨Nat.le_of_ble_eq_true rfl, Nat.le_of_ble_eq_true rfl⟩) ⟨fun a U g mk z => by obtain ⟨z0, z1, zP, zK, zD⟩ := z; exact ⟨z0, z1, zP, va_K.moved (u := U) (U := U.calling g mk a) (Vm.Alike.refl U.vm) zK, zD⟩, fun U hU hW => ⟨rfl, by rw [hU], by rw [hU]; exact hPc, va_K.moved hW.alike hK, hDc.weaken (fun _ _ _ _ => trivial)⟩⟩ rfl rfl hl.1 rfl (lv_room (Nat.le_of_ble_eq_true rfl)) dL_law_4 ⟨(show 1 + 33 ≤ 44 by decide), (show 8 + 374 ≤ 755 by decide)⟩) hS (fun x _ h => hFc x h) hFc (fun u t H1 locs ht hvm hw hB hz1 hk1 hS => ?_)
  obtain ⟨a, rfl⟩ : ∃ z, z = u := ⟨_, rfl⟩
  obtain ⟨hP1, hD1⟩ := hB
  rw [ht] at hP1
  obtain ⟨hP, hD⟩ := va_join (wr := []) (w1 := cwX cA q0 a) hP hD [0] [] rfl rfl (by decide) (by decide) hk1 hFc hP1 hD1
  generalize H1 = H at hP hS ⊢
  have hP : va_P (dC, dI) vwC (cwX cA q0 a) H := hP
  have hD : va_D (fun q : Nat => s.heap.size ≤ q) (cwX cA q0 a) := hD
  refine lv_astore_n (lv' := [(1, .ref q0), (0, .ref b)]) hx hb dL_law_7 rfl hl (by decide) rfl (fun ls hl => ?_)
  refine va_new (ci := 4) (fs := [.null, .null, .null, .null, .null, .int 0, .null, .null, .null, .int 0, .int 0, .int 0, .null, .int 0]) (C := RX5) (T := TX5) (N := 14) hx hb hts' (wu_all 4 (by decide)) tyX5 tyX5_ok hown (hts' _ (wAt_in (p := 4061) (w := .classLink RL 10 RX5) (by decide +kernel))) (hts' _ (wAt_in (p := 4062) (w := .instantiable RX5 14) (by decide +kernel))) (hts' _ (wAt_in (p := 1006) (w := .initialized RX5) (by decide +kernel))) hK hP hD hS hA rfl (fun j hj => by rcases (show j = 0 ∨ j = 1 ∨ j = 2 ∨ j = 3 ∨ j = 4 ∨ j = 5 ∨ j = 6 ∨ j = 7 ∨ j = 8 ∨ j = 9 ∨ j = 10 ∨ j = 11 ∨ j = 12 ∨ j = 13 by omega) with rfl | rfl | rfl | rfl | rfl | rfl | rfl | rfl | rfl | rfl | rfl | rfl | rfl | rfl <;> rfl) (show 34 + 1 ≤ 44 by decide) (show 382 + 14 ≤ 755 by decide) dL_law_8 (fun q1 H hP hD hS => ?_)
  have hP : va_P (dC, dI) vwC (cwX cA q0 a ++ [(q1, .inr (4, [.null, .null, .null, .null, .null, .int 0, .null, .null, .null, .int 0, .int 0, .int 0, .null, .int 0]))]) H := hP
  have hD : va_D (fun q : Nat => s.heap.size ≤ q) (cwX cA q0 a ++ [(q1, .inr (4, [.null, .null, .null, .null, .null, .int 0, .null, .null, .null, .int 0, .int 0, .int 0, .null, .int 0]))]) := hD
  refine lv_dup hx hb dL_law_11 rfl ?_
  have hPc := hP.sub (ws' := [(q1, .inr (4, [.null, .null, .null, .null, .null, .int 0, .null, .null, .null, .int 0, .int 0, .int 0, .null, .int 0]))]) [34] rfl
  have hDc := hD.sub (ws' := [(q1, .inr (4, [.null, .null, .null, .null, .null, .int 0, .null, .null, .null, .int 0, .int 0, .int 0, .null, .int 0]))]) [34] (by decide) rfl
  have hFc := va_free (wc := [(q1, .inr (4, [.null, .null, .null, .null, .null, .int 0, .null, .null, .null, .int 0, .int 0, .int 0, .null, .int 0]))]) hD hS hA [34] rfl
  refine va_callv (va_runI (As := []) (rest := [.ref q1]) ⟨hx, hb, hml, hown, hts'⟩ (c_X5_init l dC dI cA q1 H.size) (cwI 0 hts' (gI (wAt_in (p := 4065) (w := .code yX5_init cX5_init 1 none) (by decide +kernel))) rfl rfl rfl (hts' _ (wAt_in (p := 1006) (w := .initialized RX5) (by decide +kernel))) (hts' _ (wAt_in (p := 4063) (w := .methodLink RL 12 yX5_init) (by decide +kernel))) (hts' _ (wAt_in (p := 4064) (w := .instanceMethod yX5_init) (by decide +kernel))) rfl (by decide +kernel) ⟨Nat.le_of_ble_eq_true rfl, Nat.le_of_ble_eq_true rfl⟩) ⟨fun a U g mk z => by obtain ⟨z0, z1, zP, zK, zD⟩ := z; exact ⟨z0, z1, zP, va_K.moved (u := U) (U := U.calling g mk a) (Vm.Alike.refl U.vm) zK, zD⟩, fun U hU hW => ⟨rfl, by rw [hU], by rw [hU]; exact hPc, va_K.moved hW.alike hK, hDc.weaken (fun _ _ _ _ => trivial)⟩⟩ rfl rfl hl.1 rfl (lv_room (Nat.le_of_ble_eq_true rfl)) dL_law_12 ⟨(show 35 + 9 ≤ 44 by decide), (show 396 + 359 ≤ 755 by decide)⟩) hS (fun x _ h => hFc x h) hFc (fun u t H1 locs ht hvm hw hB hz1 hk1 hS => ?_)
  obtain ⟨z, rfl⟩ : ∃ z, z = u := ⟨_, rfl⟩
  obtain ⟨hP1, hD1⟩ := hB
  rw [ht] at hP1
  obtain ⟨hP, hD⟩ := va_join (wr := cwX cA q0 a) (w1 := cwN cA q1 z) hP hD [34] [0, 1, 2, 3, 4, 5, 6, 7, 8, 9, 10, 11, 12, 13, 14, 15, 16, 17, 18, 19, 20, 21, 22, 23, 24, 25, 26, 27, 28, 29, 30, 31, 32, 33] rfl rfl (by decide) (by decide) hk1 hFc hP1 hD1
  generalize H1 = H at hP hS ⊢
  refine lv_astore_n (lv' := [(2, .ref q1), (1, .ref q0), (0, .ref b)]) hx hb dL_law_15 rfl hl (by decide) rfl (fun ls hl => ?_)
  refine lv_iconst (v := 0) hx hb dL_law_16 (by decide) ?_
  refine lv_istore_n (lv' := [(3, .int 0), (2, .ref q1), (1, .ref q0), (0, .ref b)]) hx hb dL_law_17 rfl hl (by decide) rfl (fun ls hl => ?_)
  obtain ⟨σ', hrun⟩ := law_am L xs hL
  obtain ⟨n, hn⟩ := Rx_ex hrun
  have hPw := hP.sub _ (wld_perm cA q0 q1 a z adK adV b L xs)
  have hDw := hD.sub _ (by decide) (wld_permD cA q0 q1 a z adK adV b L xs)
  generalize had : adf q0 q1 a z adK adV b = ad at hPw hDw
  have e30 : ad 30 = adK := by rw [← had]; rfl
  have e31 : ad 31 = adV := by rw [← had]; rfl
  have e32 : ad 32 0 = b := by rw [← had]; rfl
  have e00 : ad 0 0 = q0 := by rw [← had]; rfl
  have e16 : ad 16 0 = q1 := by rw [← had]; rfl
  have hEv : Evn (dC, dI) cA ad vF L xs (fun q : Nat => s.heap.size ≤ q) s := ⟨hK, by rw [e30, e31]; exact eS, by rw [e30]; exact eR, eZ1, eZ2, eN, by rw [e32]; exact hX, by rw [e32]; exact hbl, by rw [e32]; exact Nat.not_le.mpr hbl⟩
  have hO : AdOK ad vF L := ⟨fun t r t' r' h h' e => by
    have h1 := hDw.1 (wpos t r) (wpos t' r') _ _ (wld_at h) (wld_at h') e
    have h2 : some (t, r) = some (t', r') := by rw [← h, ← h', h1]
    cases h2
    exact ⟨rfl, rfl⟩, hF, hL⟩
  have hAd : AdIn ad (fun q : Nat => s.heap.size ≤ q) := fun t r h => hDw.2 (wpos t r) _ (wld_at h)
  have hWP : WP (dC, dI) cA ad L xs (σ0 L xs) H := ⟨hPw, fun j _ => rfl, by show (if L < 2147483648 then (L : Int) else 0) = L; rw [if_pos (by omega)], fun t r k => by
    unfold σ0
    split
    · exact ⟨by omega, by omega⟩
    · split
      · split
        · exact okI_to _
        · split <;> exact ⟨by omega, by omega⟩
      · exact okI_0⟩
  have hC : Cx p s m #[Value.ref b] c k_L_law := ⟨hx, hb, hml, hown, hts'⟩
  have hLR : LR ad vF (mL k_L_law) [.inr (.inl (32, 0)), .inr (.inl (0, 0)), .inr (.inl (16, 0)), .inl 0] ls := by
    refine ⟨rfl, ?_⟩
    have h1 := lv_sub (l' := [(0, .ref b), (1, .ref q0), (2, .ref q1), (3, .int 0)]) hl [3, 2, 1, 0] rfl
    rw [← e32, ← e00, ← e16] at h1
    exact h1
  have key := sim l n k_L_law 18 _ [] (σ0 L xs) _ σ' hn (by decide) p e room_1 s m #[Value.ref b] below meth c 44 755 (lw_Z below #[Value.ref b] s) (dC, dI) cA ad vF L xs (fun q : Nat => s.heap.size ≤ q) hC hEv hO hAd ⟨by decide +kernel, by decide +kernel, by decide, by decide⟩ (fun H locs lsM pc n i st' hf ha hs hW hS => ?_)
  · refine key H locs ls hLR (fun v hv => ?_) (fun v hv => by cases hv) hWP hS
    simp only [List.mem_cons, List.not_mem_nil, or_false] at hv
    rcases hv with rfl | rfl | rfl | rfl
    · exact Or.inr (Or.inr (Or.inl ⟨rfl, rfl⟩))
    · exact Or.inl rfl
    · exact Or.inl rfl
    · exact okI_0
  · have hd := fetch_ok hf
    have hn2 := len_ok hf
    unfold aRet at ha
    split at ha
    · split at ha <;> cases ha
    · split at ha
      · cases ha
        obtain rfl := il1 hn2 (Nat.succ_ne_zero _)
        refine va_forget (fun q hq => hS.2.2 q hq) ?_
        exact lw_ret hx hb hr hlocks hd
      · cases ha
    · split at ha <;> cases ha
    · split at ha <;> cases ha
    · cases ha
